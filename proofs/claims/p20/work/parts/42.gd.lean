/-! p3: the reference's reading of sums against the machine of sums -/
theorem Tot.pr {α : Type} {Q : α → Prop} {x : Option α} (t : Tot x Q) : Par x Q := by
  obtain ⟨a, ha, hq⟩ := t
  intro b hb
  rw [ha] at hb
  cases hb
  exact hq
def StkR : List Int32 → (Nat → Int32) → Nat → Prop
  | [], _, h => h = 0
  | x :: S, a, h => ∃ h', h = h' + 1 ∧ a h' = x ∧ StkR S a h'
theorem StkR.len : ∀ {S : List Int32} {a : Nat → Int32} {h : Nat}, StkR S a h → h = S.length := by
  intro S
  induction S with
  | nil => intro a h hs; exact hs
  | cons x S ih =>
    intro a h hs
    obtain ⟨h', h1, h2, h3⟩ := hs
    rw [h1, ih h3]; rfl
theorem StkR.ups : ∀ {S : List Int32} {a : Nat → Int32} {h m : Nat} {y : Int32}, StkR S a h → h ≤ m → StkR S (upd a m y) h := by
  intro S
  induction S with
  | nil => intro a h m y hs _; exact hs
  | cons x S ih =>
    intro a h m y hs hm
    obtain ⟨h', h1, h2, h3⟩ := hs
    exact ⟨h', h1, by rw [upd_ne a y (by omega)]; exact h2, ih h3 (by omega)⟩
theorem StkR.push {S : List Int32} {a : Nat → Int32} {h : Nat} (y : Int32) (hs : StkR S a h) : StkR (y :: S) (upd a h y) (h + 1) :=
  ⟨h, rfl, upd_eq a h y, hs.ups (Nat.le_refl _)⟩
theorem StkR.op : ∀ {S : List Int32} {a : Nat → Int32} {h : Nat}, StkR S a h → (hasO S = true ↔ ∃ i : Nat, i < h ∧ a i = 40) := by
  intro S
  induction S with
  | nil =>
    intro a h hs
    have h0 : h = 0 := hs
    constructor
    · intro h9; cases h9
    · rintro ⟨i, hi, _⟩; omega
  | cons x S ih =>
    intro a h hs
    obtain ⟨h', h1, h2, h3⟩ := hs
    have := ih h3
    constructor
    · intro h9
      by_cases hx : x = 40
      · exact ⟨h', by omega, by rw [h2, hx]⟩
      · simp only [hasO, hx, decide_false, Bool.false_or] at h9
        obtain ⟨i, hi, hi2⟩ := this.mp h9
        exact ⟨i, by omega, hi2⟩
    · rintro ⟨i, hi, hi2⟩
      by_cases hx : x = 40
      · simp [hasO, hx]
      · have : hasO S = true := this.mpr ⟨i, by
          have : i ≠ h' := by rintro rfl; rw [h2] at hi2; exact hx hi2
          omega, hi2⟩
        simp only [hasO, this, Bool.or_true]
def EMr (a : Int32) (g0 : Nat → Int32) (sm : Int32) (g : Nat → Int32) (e : List Int32) : Prop :=
  0 ≤ a.toInt ∧ sm.toInt = a.toInt + (e.length : Int) ∧ (∀ i : Nat, i < 300 + a.toInt.toNat → g i = g0 i) ∧ (∀ (i : Nat) (x : Int32), e[i]? = some x → g (300 + a.toInt.toNat + i) = x) ∧ (sm.toInt ≤ 300 ∨ e = [])
theorem EMr.one {a sm s2 : Int32} {g0 g : Nat → Int32} {e : List Int32} {x : Int32} (h : EMr a g0 sm g e) (h2 : s2.toInt = sm.toInt + 1) (h9 : s2.toInt ≤ 300) : EMr a g0 s2 (upd g (300 + sm.toInt.toNat) x) (e ++ [x]) := by
  obtain ⟨h0, h1, h3, h4, _⟩ := h
  refine ⟨h0, by rw [h2, h1, List.length_append, List.length_singleton]; omega, fun i hi => ?_, fun i y hy => ?_, Or.inl h9⟩
  · rw [upd_ne g x (by omega)]
    exact h3 i hi
  · by_cases hi : i < e.length
    · rw [List.getElem?_append_left hi] at hy
      rw [upd_ne g x (by omega)]
      exact h4 i y hy
    · rw [List.getElem?_append_right (by omega)] at hy
      have hi2 : i - e.length = 0 := by
        by_cases h9 : i - e.length = 0
        · exact h9
        · rw [List.getElem?_eq_none (by simp; omega)] at hy; cases hy
      rw [hi2] at hy
      have hxy : x = y := by simpa using hy
      have : 300 + a.toInt.toNat + i = 300 + sm.toInt.toNat := by omega
      rw [this, upd_eq, hxy]
theorem E_m_putsP (K : Nat) (hK : 1000000000 ≤ K) (x sm : Int32) (g : Nat → Int32) (h0 : 0 ≤ sm.toInt) :
    Par (F_m_puts K x sm g) (fun r => r.1.toInt = sm.toInt + 1 ∧ r.1.toInt ≤ 300 ∧ r.2 = upd g (300 + sm.toInt.toNat) x) := by
  unfold F_m_puts
  obtain ⟨n, rfl⟩ : ∃ n9, K = n9 + 1 := ⟨K - 1, by omega⟩
  rw [L_m_puts_e0]; unfold B_m_puts_0
  refine Par.br (fun h => ?_) (fun _ => Par.no)
  have h1 : 0 ≤ (300 + sm).toInt ∧ (300 + sm).toInt < 600 := by simpa [okIx] using h
  have h2 : (300 + sm).toInt = 300 + sm.toInt := by
    have h3 := (i32r sm).2
    simp only [Int32.toInt_add, Int32.reduceToInt] at h1 ⊢
    simp only [Int.bmod] at h1 ⊢
    omega
  have h5 : (sm + 1).toInt = sm.toInt + 1 := by
    simp only [Int32.toInt_add, Int32.reduceToInt]
    rw [bmI (by omega) (by omega)]
  refine Par.ret ⟨h5, ?_, ?_⟩
  · show (sm + 1).toInt ≤ 300
    omega
  · show upd g (300 + sm).toNatClampNeg x = _
    have h4 : (300 + sm).toNatClampNeg = (300 + sm).toInt.toNat := rfl
    rw [h4, h2]
    congr 1
    omega
theorem E_m_close (K : Nat) (hK : 1000000000 ≤ K) (c : Int32) : Par (F_m_close K c) (fun r => r.toInt = (clo c : Int)) := by
  refine (T_m_close K hK c True.intro).pr.mono (fun r hr => ?_)
  rcases hr with ⟨rfl, h⟩ | ⟨rfl, h⟩ | ⟨rfl, h⟩ | ⟨rfl, h1, h2, h3, h4, h5, h6⟩
  · rcases h with rfl | rfl <;> decide
  · rcases h with rfl | rfl <;> decide
  · rcases h with rfl | rfl <;> decide
  · unfold clo
    rw [if_neg (by rintro (h | h) <;> contradiction), if_neg (by rintro (h | h) <;> contradiction), if_neg (by rintro (h | h) <;> contradiction)]
    decide
/-- the token that the reference has at hand, told by the class's numbers of kinds -/
def sgq (k : Int32) : Prop := k = 61 ∨ k = 59 ∨ k = 123 ∨ k = 125 ∨ k = 43 ∨ k = 45 ∨ k = 42 ∨ k = 38 ∨ k = 33 ∨ k = 40 ∨ k = 41 ∨ k = 60
def Rtq (k v tok val : Int32) : Prop :=
  (k = 0 ∧ tok = 0) ∨ (k = 1 ∧ tok = 8) ∨ (k = 2 ∧ tok = 5 ∧ val = v) ∨ (k = 3 ∧ tok = 6 ∧ val = v) ∨ (k = 4 ∧ tok = 1) ∨ (k = 5 ∧ tok = 2) ∨ (k = 6 ∧ tok = 3) ∨ (k = 7 ∧ tok = 4) ∨ (tok = 7 ∧ val = k ∧ sgq k)
theorem Rtq.sign {k v tok val : Int32} (h : Rtq k v tok val) (c : Int32) (hc : sgq c) : (tok = 7 ∧ val = c) ↔ k = c := by
  constructor
  · rintro ⟨h1, h2⟩
    rcases h with ⟨_, h9⟩ | ⟨_, h9⟩ | ⟨_, h9, _⟩ | ⟨_, h9, _⟩ | ⟨_, h9⟩ | ⟨_, h9⟩ | ⟨_, h9⟩ | ⟨_, h9⟩ | ⟨_, h9, _⟩
    all_goals (first | (rw [← h9]; exact h2) | (exfalso; rw [h1] at h9; revert h9; decide))
  · intro h1
    rcases h with ⟨h9, _⟩ | ⟨h9, _⟩ | ⟨h9, _⟩ | ⟨h9, _⟩ | ⟨h9, _⟩ | ⟨h9, _⟩ | ⟨h9, _⟩ | ⟨h9, _⟩ | ⟨h8, h9, _⟩
    all_goals (first | exact ⟨h8, by rw [h9, h1]⟩ | (exfalso; rw [h9] at h1; subst h1; revert hc; unfold sgq; decide))
theorem Rtq.cell {k v tok val : Int32} (h : Rtq k v tok val) : (tok = 5 ↔ k = 2) ∧ (k = 2 → val = v) := by
  rcases h with ⟨h9, h8⟩ | ⟨h9, h8⟩ | ⟨h9, h8, h7⟩ | ⟨h9, h8, h7⟩ | ⟨h9, h8⟩ | ⟨h9, h8⟩ | ⟨h9, h8⟩ | ⟨h9, h8⟩ | ⟨h8, h9, h7⟩
  all_goals (try subst h9); (try subst h8)
  all_goals (first | exact ⟨by decide, fun h => absurd h (by decide)⟩ | exact ⟨by decide, fun _ => h7⟩ | skip)
  refine ⟨⟨fun h => absurd h (by decide), fun h => ?_⟩, fun h => ?_⟩ <;> (exfalso; rw [h] at h7; revert h7; unfold sgq; decide)
theorem Rtq.num {k v tok val : Int32} (h : Rtq k v tok val) : (tok = 6 ↔ k = 3) ∧ (k = 3 → val = v) := by
  rcases h with ⟨h9, h8⟩ | ⟨h9, h8⟩ | ⟨h9, h8, h7⟩ | ⟨h9, h8, h7⟩ | ⟨h9, h8⟩ | ⟨h9, h8⟩ | ⟨h9, h8⟩ | ⟨h9, h8⟩ | ⟨h8, h9, h7⟩
  all_goals (try subst h9); (try subst h8)
  all_goals (first | exact ⟨by decide, fun h => absurd h (by decide)⟩ | exact ⟨by decide, fun _ => h7⟩ | skip)
  refine ⟨⟨fun h => absurd h (by decide), fun h => ?_⟩, fun h => ?_⟩ <;> (exfalso; rw [h] at h7; revert h7; unfold sgq; decide)
/-- the sign at hand, 0 if none: of the same closeness as the kind -/
theorem Rtq.clo {k v tok val : Int32} (h : Rtq k v tok val) : (tok = 7 → val = k) ∧ (tok ≠ 7 → clo k = 0 ∧ k ≠ 41) := by
  rcases h with ⟨h9, h8⟩ | ⟨h9, h8⟩ | ⟨h9, h8, h7⟩ | ⟨h9, h8, h7⟩ | ⟨h9, h8⟩ | ⟨h9, h8⟩ | ⟨h9, h8⟩ | ⟨h9, h8⟩ | ⟨h8, h9, h7⟩
  all_goals (first | (subst h9; subst h8; exact ⟨fun h => absurd h (by decide), fun _ => by decide⟩) | exact ⟨fun _ => h9, fun h => absurd h8 h⟩)
