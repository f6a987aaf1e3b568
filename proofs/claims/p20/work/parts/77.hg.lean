/-! secrets, and the tried ones among them -/
def tau : List Bool → List Bool → Nat → Nat
  | h :: hs, u :: us, s => if h = true then (if u = true then s % 4 + 4 * tau hs us (s / 4) else tau hs us (s / 4)) else tau hs us s
  | _, _, _ => 0
def sgm : List Bool → List Bool → Nat → Nat
  | h :: hs, u :: us, k => if h = true then (if u = true then k % 4 + 4 * sgm hs us (k / 4) else 4 * sgm hs us k) else sgm hs us k
  | _, _, _ => 0
theorem anB_cons (h u : Bool) (hs us : List Bool) : anB (h :: hs) (u :: us) = (h && u) :: anB hs us := rfl
theorem cn_an (h u : Bool) (hs us : List Bool) : cnB (anB (h :: hs) (u :: us)) = (if h = true ∧ u = true then 1 else 0) + cnB (anB hs us) := by
  rw [anB_cons]
  show (if (h && u) = true then 1 else 0) + cnB (anB hs us) = _
  cases h <;> cases u <;> rfl
theorem cn_c (h : Bool) (hs : List Bool) : cnB (h :: hs) = (if h = true then 1 else 0) + cnB hs := rfl
theorem tau_lt : ∀ (hs us : List Bool), hs.length = us.length → ∀ s : Nat, tau hs us s < 4 ^ cnB (anB hs us) := by
  intro hs
  induction hs with
  | nil => intro us _ s; unfold tau; exact Nat.pow_pos (by omega)
  | cons h hs ih =>
    intro us hl s
    cases us with
    | nil => rw [List.length_cons, List.length_nil] at hl; omega
    | cons u us =>
      rw [List.length_cons, List.length_cons] at hl
      have ih := ih us (by omega)
      rw [cn_an]
      unfold tau
      by_cases hh : h = true
      · by_cases hu : u = true
        · rw [if_pos hh, if_pos hu, if_pos ⟨hh, hu⟩, Nat.add_comm 1, Nat.pow_succ]
          have := ih (s / 4); omega
        · rw [if_pos hh, if_neg hu, if_neg (fun h9 => hu h9.2), Nat.zero_add]
          exact ih _
      · rw [if_neg hh, if_neg (fun h9 => hh h9.1), Nat.zero_add]
        exact ih _
theorem sgm_lt : ∀ (hs us : List Bool), hs.length = us.length → ∀ k : Nat, sgm hs us k < 4 ^ cnB hs := by
  intro hs
  induction hs with
  | nil => intro us _ k; unfold sgm; exact Nat.pow_pos (by omega)
  | cons h hs ih =>
    intro us hl k
    cases us with
    | nil => rw [List.length_cons, List.length_nil] at hl; omega
    | cons u us =>
      rw [List.length_cons, List.length_cons] at hl
      have ih := ih us (by omega)
      rw [cn_c]
      unfold sgm
      by_cases hh : h = true
      · rw [if_pos hh, if_pos hh, Nat.add_comm 1, Nat.pow_succ]
        by_cases hu : u = true
        · rw [if_pos hu]; have := ih (k / 4); omega
        · rw [if_neg hu]; have := ih k; omega
      · rw [if_neg hh, if_neg hh, Nat.zero_add]
        exact ih _
theorem tau_sgm : ∀ (hs us : List Bool), hs.length = us.length → ∀ k : Nat, k < 4 ^ cnB (anB hs us) → tau hs us (sgm hs us k) = k := by
  intro hs
  induction hs with
  | nil =>
    intro us _ k hk
    have : cnB (anB [] us) = 0 := by unfold anB; rw [List.zipWith_nil_left]; rfl
    rw [this, Nat.pow_zero] at hk
    unfold tau; omega
  | cons h hs ih =>
    intro us hl k hk
    cases us with
    | nil => rw [List.length_cons, List.length_nil] at hl; omega
    | cons u us =>
      rw [List.length_cons, List.length_cons] at hl
      have ih := ih us (by omega)
      rw [cn_an] at hk
      unfold tau sgm
      by_cases hh : h = true
      · by_cases hu : u = true
        · rw [if_pos ⟨hh, hu⟩, Nat.add_comm 1, Nat.pow_succ] at hk
          rw [if_pos hh, if_pos hu, if_pos hh, if_pos hu]
          have e1 : (k % 4 + 4 * sgm hs us (k / 4)) / 4 = sgm hs us (k / 4) := by omega
          have e2 : (k % 4 + 4 * sgm hs us (k / 4)) % 4 = k % 4 := by omega
          rw [e1, e2, ih _ (by omega)]
          omega
        · rw [if_neg (fun h9 => hu h9.2), Nat.zero_add] at hk
          rw [if_pos hh, if_neg hu, if_pos hh, if_neg hu]
          have e1 : 4 * sgm hs us k / 4 = sgm hs us k := by omega
          rw [e1, ih _ hk]
      · rw [if_neg (fun h9 => hh h9.1), Nat.zero_add] at hk
        rw [if_neg hh, if_neg hh, ih _ hk]
theorem sgm_tau : ∀ (hs us : List Bool), hs.length = us.length → ∀ s : Nat, sgm hs us (tau hs us s) ≤ s := by
  intro hs
  induction hs with
  | nil => intro us _ s; unfold sgm; exact Nat.zero_le _
  | cons h hs ih =>
    intro us hl s
    cases us with
    | nil => rw [List.length_cons, List.length_nil] at hl; omega
    | cons u us =>
      rw [List.length_cons, List.length_cons] at hl
      have ih := ih us (by omega)
      unfold tau sgm
      by_cases hh : h = true
      · by_cases hu : u = true
        · rw [if_pos hh, if_pos hu, if_pos hh, if_pos hu]
          have e1 : (s % 4 + 4 * tau hs us (s / 4)) / 4 = tau hs us (s / 4) := by omega
          have e2 : (s % 4 + 4 * tau hs us (s / 4)) % 4 = s % 4 := by omega
          rw [e1, e2]
          have := ih (s / 4); omega
        · rw [if_pos hh, if_neg hu, if_pos hh, if_neg hu]
          have := ih (s / 4); omega
      · rw [if_neg hh, if_neg hh]
        exact ih s
theorem sgm_mono : ∀ (hs us : List Bool), hs.length = us.length → ∀ j k : Nat, j < k → k < 4 ^ cnB (anB hs us) → sgm hs us j < sgm hs us k := by
  intro hs
  induction hs with
  | nil =>
    intro us _ j k hjk hk
    have : cnB (anB [] us) = 0 := by unfold anB; rw [List.zipWith_nil_left]; rfl
    rw [this, Nat.pow_zero] at hk
    omega
  | cons h hs ih =>
    intro us hl j k hjk hk
    cases us with
    | nil => rw [List.length_cons, List.length_nil] at hl; omega
    | cons u us =>
      rw [List.length_cons, List.length_cons] at hl
      have ih := ih us (by omega)
      rw [cn_an] at hk
      unfold sgm
      by_cases hh : h = true
      · by_cases hu : u = true
        · rw [if_pos ⟨hh, hu⟩, Nat.add_comm 1, Nat.pow_succ] at hk
          rw [if_pos hh, if_pos hu, if_pos hh, if_pos hu]
          rcases Nat.lt_or_ge (j / 4) (k / 4) with h9 | h9
          · have := ih (j / 4) (k / 4) h9 (by omega)
            omega
          · have e : j / 4 = k / 4 := by omega
            rw [e]; omega
        · rw [if_neg (fun h9 => hu h9.2), Nat.zero_add] at hk
          rw [if_pos hh, if_neg hu, if_pos hh, if_neg hu]
          have := ih j k hjk hk
          omega
      · rw [if_neg (fun h9 => hh h9.1), Nat.zero_add] at hk
        rw [if_neg hh, if_neg hh]
        exact ih j k hjk hk
theorem sgm_0 : ∀ (hs us : List Bool), sgm hs us 0 = 0 := by
  intro hs
  induction hs with
  | nil => intro us; rfl
  | cons h hs ih =>
    intro us
    cases us with
    | nil => rfl
    | cons u us =>
      unfold sgm
      have e : 0 / 4 = 0 := rfl
      rw [e, ih us]
      split
      · split <;> rfl
      · rfl
/-- the tried secret's numbers are the secret's, where they are used -/
theorem sp_tau : ∀ (hs us : List Bool), hs.length = us.length → ∀ s : Nat, spB (anB hs us) (tau hs us s) = spB hs s &&& mkB us := by
  intro hs
  induction hs with
  | nil =>
    intro us hl s
    cases us with
    | nil => exact (Nat.and_zero _).symm
    | cons u us => rw [List.length_cons, List.length_nil] at hl; omega
  | cons h hs ih =>
    intro us hl s
    cases us with
    | nil => rw [List.length_cons, List.length_nil] at hl; omega
    | cons u us =>
      rw [List.length_cons, List.length_cons] at hl
      have ih := ih us (by omega)
      rw [anB_cons]
      unfold spB tau mkB
      have h4 : ∀ x : Nat, x % 4 < 4 := fun x => Nat.mod_lt _ (by omega)
      have a3 : ∀ x : Nat, x % 4 &&& 3 = x % 4 := by
        intro x
        have := Nat.and_two_pow_sub_one_eq_mod (x % 4) 2
        have e : 2 ^ 2 - 1 = 3 := rfl
        rw [e] at this
        rw [this]; omega
      by_cases hh : h = true
      · by_cases hu : u = true
        · have e1 : (s % 4 + 4 * tau hs us (s / 4)) / 4 = tau hs us (s / 4) := by omega
          have e2 : (s % 4 + 4 * tau hs us (s / 4)) % 4 = s % 4 := by omega
          rw [if_pos (by rw [hh, hu]; rfl), if_pos hh, if_pos hu, if_pos hh, if_pos hu, e1, e2, ih, Nat.add_comm (s % 4), Nat.add_comm (s % 4), Nat.add_comm 3, (lo4 _ _ (s % 4) 3 (h4 s) (by omega)).2.1, a3]
        · rw [if_neg (by rw [hh]; simpa using hu), if_pos hh, if_neg hu, if_pos hh, if_neg hu, ih, Nat.zero_add, Nat.add_comm (s % 4)]
          have := (lo4 (spB hs (s / 4)) (mkB us) (s % 4) 0 (h4 s) (by omega)).2.1
          rw [Nat.add_zero, Nat.and_zero, Nat.add_zero] at this
          exact this.symm
      · have hz : (h && u) = false := by
          cases h
          · rfl
          · exact absurd rfl hh
        rw [if_neg (by rw [hz]; decide), if_neg hh, if_neg hh, ih]
        have e := (lo4 (spB hs s) (mkB us) 0 (if u = true then 3 else 0) (by omega) (by split <;> omega)).2.1
        rw [Nat.add_zero, Nat.zero_and, Nat.add_zero] at e
        rw [Nat.add_comm (if u = true then 3 else 0), e]
/-! counting -/
theorem cntQ_congr {P Q : Nat → Prop} : ∀ {n : Nat}, (∀ k : Nat, k < n → (P k ↔ Q k)) → cntQ P n = cntQ Q n := by
  intro n
  induction n with
  | zero => intro _; rfl
  | succ n ih =>
    intro h
    have ih := ih (fun k hk => h k (by omega))
    by_cases hp : P n
    · rw [cntQ_y hp, cntQ_y ((h n (by omega)).mp hp), ih]
    · rw [cntQ_n hp, cntQ_n (fun h9 => hp ((h n (by omega)).mpr h9)), ih]
theorem cnt_4 (P : Nat → Prop) : ∀ n : Nat, cntQ P (4 * n) = cntQ (fun k => P (4 * k)) n + cntQ (fun k => P (4 * k + 1)) n + cntQ (fun k => P (4 * k + 2)) n + cntQ (fun k => P (4 * k + 3)) n := by
  have st : ∀ (Q : Nat → Prop) (k : Nat), cntQ Q (k + 1) = cntQ Q k + cntQ (fun _ => Q k) 1 := by
    intro Q k
    by_cases h : Q k
    · rw [cntQ_y h, cntQ_y (P := fun _ => Q k) (k := 0) h]; rfl
    · rw [cntQ_n h, cntQ_n (P := fun _ => Q k) (k := 0) h]; rfl
  intro n
  induction n with
  | zero => rfl
  | succ n ih =>
    have e : 4 * (n + 1) = 4 * n + 1 + 1 + 1 + 1 := by omega
    rw [e, st P (4 * n + 1 + 1 + 1), st P (4 * n + 1 + 1), st P (4 * n + 1), st P (4 * n), ih, st (fun k => P (4 * k)) n, st (fun k => P (4 * k + 1)) n, st (fun k => P (4 * k + 2)) n, st (fun k => P (4 * k + 3)) n]
    have e2 : 4 * n + 1 + 1 = 4 * n + 2 := rfl
    have e3 : 4 * n + 1 + 1 + 1 = 4 * n + 3 := rfl
    rw [e2, e3]
    omega
/-- each tried secret stands for as many secrets -/
theorem cnt_tau : ∀ (hs us : List Bool), hs.length = us.length → ∀ P : Nat → Prop, cntQ (fun s => P (tau hs us s)) (4 ^ cnB hs) = 4 ^ cnB (anB hs (ntB us)) * cntQ P (4 ^ cnB (anB hs us)) := by
  intro hs
  induction hs with
  | nil =>
    intro us _ P
    have e : ∀ ys : List Bool, anB [] ys = [] := fun ys => by unfold anB; rw [List.zipWith_nil_left]
    rw [e, e]
    show cntQ (fun _ => P 0) 1 = 1 * cntQ P 1
    rw [Nat.one_mul]
    exact cntQ_congr (fun k hk => by have : k = 0 := (by omega); rw [this])
  | cons h hs ih =>
    intro us hl P
    cases us with
    | nil => rw [List.length_cons, List.length_nil] at hl; omega
    | cons u us =>
      rw [List.length_cons, List.length_cons] at hl
      have ih := ih us (by omega)
      have hnt : ntB (u :: us) = (!u) :: ntB us := rfl
      have c1 : cnB (anB (h :: hs) (u :: us)) = (if h = true ∧ u = true then 1 else 0) + cnB (anB hs us) := cn_an h u hs us
      have c2 : cnB (anB (h :: hs) (ntB (u :: us))) = (if h = true ∧ (!u) = true then 1 else 0) + cnB (anB hs (ntB us)) := by rw [hnt]; exact cn_an h (!u) hs (ntB us)
      have c3 := cn_c h hs
      have et : ∀ k : Nat, tau (h :: hs) (u :: us) k = if h = true then (if u = true then k % 4 + 4 * tau hs us (k / 4) else tau hs us (k / 4)) else tau hs us k := fun _ => rfl
      have d4 : ∀ k d : Nat, d < 4 → (4 * k + d) / 4 = k ∧ (4 * k + d) % 4 = d := fun k d hd => ⟨by omega, by omega⟩
      by_cases hh : h = true
      · by_cases hu : u = true
        · have n1 : h = true ∧ u = true := ⟨hh, hu⟩
          have n2 : ¬ (h = true ∧ (!u) = true) := by rw [hu]; rintro ⟨_, h9⟩; cases h9
          rw [c1, c2, c3, if_pos n1, if_neg n2, if_pos hh, Nat.zero_add, Nat.add_comm 1 (cnB hs), Nat.add_comm 1 (cnB (anB hs us)), Nat.pow_succ, Nat.pow_succ, Nat.mul_comm (4 ^ cnB hs) 4, Nat.mul_comm (4 ^ cnB (anB hs us)) 4, cnt_4, cnt_4 P]
          have key : ∀ d : Nat, d < 4 → cntQ (fun k => P (tau (h :: hs) (u :: us) (4 * k + d))) (4 ^ cnB hs) = 4 ^ cnB (anB hs (ntB us)) * cntQ (fun k => P (4 * k + d)) (4 ^ cnB (anB hs us)) := by
            intro d hd
            rw [← ih (fun k => P (4 * k + d))]
            refine cntQ_congr (fun k _ => ?_)
            have e : tau (h :: hs) (u :: us) (4 * k + d) = 4 * tau hs us k + d := by
              obtain ⟨q1, q2⟩ := d4 k d hd
              rw [et, if_pos hh, if_pos hu, q1, q2]
              omega
            rw [e]
          have k0 := key 0 (by omega)
          have k1 := key 1 (by omega)
          have k2 := key 2 (by omega)
          have k3 := key 3 (by omega)
          simp only [Nat.add_zero] at k0
          rw [k0, k1, k2, k3, Nat.mul_add, Nat.mul_add, Nat.mul_add]
        · have n1 : ¬ (h = true ∧ u = true) := fun h9 => hu h9.2
          have n2 : h = true ∧ (!u) = true := ⟨hh, by
            cases u with
            | false => rfl
            | true => exact absurd rfl hu⟩
          rw [c1, c2, c3, if_neg n1, if_pos n2, if_pos hh, Nat.zero_add, Nat.add_comm 1 (cnB hs), Nat.add_comm 1 (cnB (anB hs (ntB us))), Nat.pow_succ, Nat.pow_succ, Nat.mul_comm (4 ^ cnB hs) 4, Nat.mul_comm (4 ^ cnB (anB hs (ntB us))) 4, cnt_4]
          have key : ∀ d : Nat, d < 4 → cntQ (fun k => P (tau (h :: hs) (u :: us) (4 * k + d))) (4 ^ cnB hs) = 4 ^ cnB (anB hs (ntB us)) * cntQ P (4 ^ cnB (anB hs us)) := by
            intro d hd
            rw [← ih P]
            refine cntQ_congr (fun k _ => ?_)
            have e : tau (h :: hs) (u :: us) (4 * k + d) = tau hs us k := by
              rw [et, if_pos hh, if_neg hu, (d4 k d hd).1]
            rw [e]
          have k0 := key 0 (by omega)
          have k1 := key 1 (by omega)
          have k2 := key 2 (by omega)
          have k3 := key 3 (by omega)
          simp only [Nat.add_zero] at k0
          rw [k0, k1, k2, k3, Nat.mul_assoc]
          omega
      · have n1 : ¬ (h = true ∧ u = true) := fun h9 => hh h9.1
        have n2 : ¬ (h = true ∧ (!u) = true) := fun h9 => hh h9.1
        rw [c1, c2, c3, if_neg n1, if_neg n2, if_neg hh, Nat.zero_add, Nat.zero_add, Nat.zero_add, ← ih P]
        refine cntQ_congr (fun k _ => ?_)
        have e : tau (h :: hs) (u :: us) k = tau hs us k := by
          show (if h = true then _ else tau hs us k) = _
          exact if_neg hh
        rw [e]
/-- how many of the first n are no earlier one's like -/
noncomputable def ndQ (R : Nat → Nat → Prop) (n : Nat) : Nat := cntQ (fun s => ∀ j : Nat, j < s → ¬ R j s) n
theorem cnt_im {P Q : Nat → Prop} {f : Nat → Nat} : ∀ (m n : Nat), (∀ j k : Nat, j < k → k < m → f j < f k) → (∀ k : Nat, k < m → f k < n) → (∀ s : Nat, s < n → (P s ↔ ∃ k : Nat, k < m ∧ f k = s ∧ Q k)) → cntQ P n = cntQ Q m := by
  intro m
  induction m with
  | zero =>
    intro n _ _ h
    have : ∀ n9 : Nat, n9 ≤ n → cntQ P n9 = 0 := by
      intro n9
      induction n9 with
      | zero => intro _; rfl
      | succ n9 ih9 =>
        intro hn9
        rw [cntQ_n (fun hp => by obtain ⟨k, hk, _⟩ := (h n9 (by omega)).mp hp; omega)]
        exact ih9 (by omega)
    rw [this n (Nat.le_refl _)]
    rfl
  | succ m ih =>
    intro n hmono hlt h
    have hfm := hlt m (by omega)
    -- behind f m there is none
    have hi : ∀ d : Nat, f m + 1 + d ≤ n → cntQ P (f m + 1 + d) = cntQ P (f m + 1) := by
      intro d
      induction d with
      | zero => intro _; rfl
      | succ d ihd =>
        intro hd
        have e : f m + 1 + (d + 1) = (f m + 1 + d) + 1 := by omega
        rw [e, cntQ_n (fun hp => ?_)]
        · exact ihd (by omega)
        · obtain ⟨k, hk, hk2, _⟩ := (h _ (by omega)).mp hp
          rcases Nat.lt_or_ge k m with h9 | h9
          · have := hmono k m h9 (by omega); omega
          · have : k = m := by omega
            rw [this] at hk2; omega
    have hn := hi (n - (f m + 1)) (by omega)
    have e : f m + 1 + (n - (f m + 1)) = n := by omega
    rw [e] at hn
    have hlow := ih (f m) (fun j k hjk hk => hmono j k hjk (by omega)) (fun k hk => hmono k m hk (by omega)) (fun s hs => by
      rw [h s (by omega)]
      constructor
      · rintro ⟨k, hk, hk2, hk3⟩
        refine ⟨k, ?_, hk2, hk3⟩
        rcases Nat.lt_or_ge k m with h9 | h9
        · exact h9
        · have : k = m := by omega
          rw [this] at hk2; omega
      · rintro ⟨k, hk, hk2, hk3⟩
        exact ⟨k, by omega, hk2, hk3⟩)
    rw [hn]
    have hP : P (f m) ↔ Q m := by
      rw [h _ hfm]
      constructor
      · rintro ⟨k, hk, hk2, hk3⟩
        rcases Nat.lt_or_ge k m with h9 | h9
        · have := hmono k m h9 (by omega); omega
        · have : k = m := by omega
          rw [← this]; exact hk3
      · intro h9; exact ⟨m, by omega, rfl, h9⟩
    by_cases hq : Q m
    · rw [cntQ_y (hP.mpr hq), cntQ_y hq, hlow]
    · rw [cntQ_n (fun h9 => hq (hP.mp h9)), cntQ_n hq, hlow]
/-- as many heaps of the tried secrets as of all -/
theorem nd_tau {hs us : List Bool} (hl : hs.length = us.length) {R Q : Nat → Nat → Prop} (hR : ∀ a b : Nat, a < 4 ^ cnB hs → b < 4 ^ cnB hs → (R a b ↔ Q (tau hs us a) (tau hs us b))) (hrf : ∀ a : Nat, Q a a) : ndQ R (4 ^ cnB hs) = ndQ Q (4 ^ cnB (anB hs us)) := by
  refine cnt_im (f := sgm hs us) _ _ (sgm_mono hs us hl) (fun k _ => sgm_lt hs us hl k) (fun s hs9 => ?_)
  constructor
  · intro h
    refine ⟨tau hs us s, tau_lt hs us hl s, ?_, fun j hj hq => ?_⟩
    · rcases Nat.lt_or_ge (sgm hs us (tau hs us s)) s with h9 | h9
      · exfalso
        have h8 := h _ h9
        rw [hR _ _ (sgm_lt hs us hl _) hs9, tau_sgm hs us hl _ (tau_lt hs us hl s)] at h8
        exact h8 (hrf _)
      · have := sgm_tau hs us hl s; omega
    · have hjl : j < 4 ^ cnB (anB hs us) := by have := tau_lt hs us hl s; omega
      have h9 : sgm hs us j < s := by
        have a := sgm_mono hs us hl j (tau hs us s) hj (tau_lt hs us hl s)
        have b := sgm_tau hs us hl s
        omega
      refine h _ h9 ?_
      rw [hR _ _ (sgm_lt hs us hl _) hs9, tau_sgm hs us hl _ hjl]
      exact hq
  · rintro ⟨k, hk, rfl, hq⟩ j hj hr
    rw [hR _ _ (by have := sgm_lt hs us hl k; omega) (sgm_lt hs us hl k), tau_sgm hs us hl k hk] at hr
    refine hq (tau hs us j) ?_ hr
    rcases Nat.lt_or_ge (tau hs us j) k with h9 | h9
    · exact h9
    · exfalso
      have a := sgm_tau hs us hl j
      rcases Nat.lt_or_ge k (tau hs us j) with h8 | h8
      · have b := sgm_mono hs us hl k _ h8 (tau_lt hs us hl j)
        omega
      · have : tau hs us j = k := by omega
        rw [this] at a
        omega
