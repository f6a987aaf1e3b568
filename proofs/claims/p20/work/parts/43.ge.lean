/-! p3: the reference's loop of sums against the machine -/
theorem E_m_hasOpen (K : Nat) (hK : 1000000000 ≤ K) (l2 : Int32) (S : List Int32) (asgn : Nat → Int32) (hs : StkR S asgn l2.toNatClampNeg) (h1 : l2.toInt = (S.length : Int)) (h2 : S.length ≤ 80) :
    Par (F_m_hasOpen K l2 asgn) (fun r => (r = 1 ∧ hasO S = true) ∨ (r = 0 ∧ hasO S = false)) := by
  refine (T_m_hasOpen K hK l2 asgn ⟨by omega, by omega⟩).pr.mono (fun r hr => ?_)
  rcases hr with ⟨h3, h4⟩ | ⟨h3, h4⟩
  · refine Or.inr ⟨h3, ?_⟩
    cases h5 : hasO S with
    | false => rfl
    | true =>
      obtain ⟨i, hi, hi2⟩ := hs.op.mp h5
      exact absurd hi2 (h4 i hi)
  · exact Or.inl ⟨h3, hs.op.mpr h4⟩
theorem subI (a : Int32) (x : Nat) (h : a.toInt = (x : Int) + 1) : (a - 1).toInt = (x : Int) := by
  have := i32r a
  simp only [Int32.toInt_sub, Int32.reduceToInt, h]
  rw [bmI (by omega) (by omega)]
  omega
theorem E_m_mayCompare (K : Nat) (hK : 1000000000 ≤ K) (l2 : Int32) (S : List Int32) (asgn : Nat → Int32) (hs : StkR S asgn S.length) (h1 : l2.toInt = (S.length : Int)) (h2 : S.length ≤ 80) :
    Par (F_m_mayCompare K l2 asgn) (fun r => (r = 1 ∧ mayC S = true) ∨ (r = 0 ∧ mayC S = false)) := by
  have h3 : ∀ n q, Par (L_m_mayCompare K n 3 l2 q asgn) (fun r => r = 0) := by
    intro n q
    cases n with
    | zero => exact Par.no
    | succ n => rw [L_m_mayCompare_e3]; unfold B_m_mayCompare_3; exact Par.ret rfl
  have hl : ∀ (S : List Int32) (n : Nat) (q : Int32), StkR S asgn S.length → q.toInt = (S.length : Int) - 1 → S.length ≤ 80 → Par (L_m_mayCompare K n 1 l2 q asgn) (fun r => (r = 1 ∧ mayC S = true) ∨ (r = 0 ∧ mayC S = false)) := by
    intro S
    induction S with
    | nil =>
      intro n q _ hq _
      have hq' : q.toInt = -1 := by rw [hq]; rfl
      cases n with
      | zero => exact Par.no
      | succ n =>
        rw [L_m_mayCompare_e1]; unfold B_m_mayCompare_1
        refine Par.yes (by rw [Int32.lt_iff_toInt_lt]; simp only [Int32.reduceToInt]; omega) ?_
        cases n with
        | zero => exact Par.no
        | succ n =>
          rw [L_m_mayCompare_e2]; unfold B_m_mayCompare_2
          refine Par.yes (by rw [Int32.lt_iff_toInt_lt]; simp only [Int32.reduceToInt]; omega) ?_
          exact (h3 n q).mono (fun r hr => Or.inr ⟨hr, rfl⟩)
    | cons x S ih =>
      intro n q hs hq h80
      obtain ⟨h', e1, e2, e3⟩ := hs
      have hh : h' = S.length := by simpa using e1.symm
      subst hh
      have hq2 : q.toInt = ((S.length : Nat) : Int) := by rw [hq, List.length_cons]; omega
      have hqn : q.toNatClampNeg = S.length := cl1 q _ hq2
      rw [List.length_cons] at h80
      cases n with
      | zero => exact Par.no
      | succ n =>
        rw [L_m_mayCompare_e1]; unfold B_m_mayCompare_1
        refine Par.not (by rw [Int32.lt_iff_toInt_lt]; simp only [Int32.reduceToInt]; omega) ?_
        refine Par.br (fun _ => ?_) (fun _ => Par.no)
        refine Par.bd (E_m_close K hK _) (fun c hc => ?_)
        rw [hqn, e2] at hc
        refine Par.br (fun h9 => ?_) (fun h9 => ?_)
        · rw [Int32.le_iff_toInt_le] at h9
          simp only [Int32.reduceToInt] at h9
          have hm : mayC (x :: S) = decide (x = 40) := by
            have : ¬ 1 < clo x := by omega
            simp only [mayC, if_neg this]
          rw [hm]
          cases n with
          | zero => exact Par.no
          | succ n =>
            rw [L_m_mayCompare_e2]; unfold B_m_mayCompare_2
            refine Par.not (by rw [Int32.lt_iff_toInt_lt]; simp only [Int32.reduceToInt]; omega) ?_
            refine Par.br (fun _ => ?_) (fun _ => Par.no)
            refine Par.br (fun h8 => ?_) (fun h8 => ?_)
            · rw [hqn, e2] at h8
              exact Par.ret (Or.inl ⟨rfl, by simp [h8]⟩)
            · rw [hqn, e2] at h8
              exact (h3 n q).mono (fun r hr => Or.inr ⟨hr, by simp [h8]⟩)
        · rw [Int32.le_iff_toInt_le] at h9
          simp only [Int32.reduceToInt] at h9
          have hm : mayC (x :: S) = mayC S := by
            have : 1 < clo x := by omega
            simp only [mayC, if_pos this]
          rw [hm, subOne]
          exact ih n (q - 1) e3 (by
            simp only [Int32.toInt_sub, Int32.reduceToInt, hq2]
            rw [bmI (by omega) (by omega)]) (by omega)
  unfold F_m_mayCompare
  obtain ⟨n, hn⟩ : ∃ n9, K = n9 + 1 := ⟨K - 1, by omega⟩
  suffices hz : Par (L_m_mayCompare K (n + 1) 0 l2 0 asgn) (fun r => (r = 1 ∧ mayC S = true) ∨ (r = 0 ∧ mayC S = false)) from by rw [← hn] at hz; exact hz
  rw [L_m_mayCompare_e0]; unfold B_m_mayCompare_0
  refine hl S n (l2 - 1) hs ?_ h2
  simp only [Int32.toInt_sub, Int32.reduceToInt, h1]
  rw [bmI (by omega) (by omega)]
def MPs (B : Int) (a : Int32) (g0 : Nat → Int32) (S : List Int32) (o : Int) (out : List Int32) (l2 l3 sm : Int32) (asm asgn : Nat → Int32) : Prop :=
  StkR S asgn S.length ∧ l2.toInt = (S.length : Int) ∧ S.length ≤ 80 ∧ l3.toInt = o ∧ (S.length : Int) ≤ o + B ∧ o ≤ 8 ∧ EMr a g0 sm asm out
theorem MPs.mono {B C : Int} {a : Int32} {g0 : Nat → Int32} {S : List Int32} {o : Int} {out : List Int32} {l2 l3 sm : Int32} {asm asgn : Nat → Int32} (h : MPs B a g0 S o out l2 l3 sm asm asgn) (hb : B ≤ C) : MPs C a g0 S o out l2 l3 sm asm asgn := by
  obtain ⟨h1, h2, h3, h4, h5, h6, h7⟩ := h
  exact ⟨h1, h2, h3, h4, by omega, h6, h7⟩
theorem EMr.nn {a : Int32} {g0 : Nat → Int32} {sm : Int32} {g : Nat → Int32} {e : List Int32} (h : EMr a g0 sm g e) : 0 ≤ sm.toInt := by
  have h1 := h.1
  have h2 := h.2.1
  omega
abbrev RRs : Type := Int32 × Int32 × Int32 × Int32 × Int32 × Int32 × (Nat → Int32) × (Nat → Int32) × (Nat → Int32)
set_option maxRecDepth 100000 in
theorem M_18 (K : Nat) (hK : 1000000000 ≤ K) (B : Int) (hB : B ≤ 1000) (a : Int32) (g0 : Nat → Int32) (Q : RRs → Prop) (l1 l4 l6 ityped inext itoken iplace ivalue ifault : Int32) (atxt astm asgn : Nat → Int32) :
    ∀ (S : List Int32) (o : Int) (out : List Int32) (n : Nat) (l2 l3 l7 l8 sm : Int32) (asm : Nat → Int32), MPs B a g0 S o out l2 l3 sm asm asgn →
    (∀ m : Nat, m < n → ∀ (l2' l3' sm' : Int32) (asm' : Nat → Int32), MPs B a g0 (popNq S o out).1 (popNq S o out).2.1 (popNq S o out).2.2 l2' l3' sm' asm' asgn → Par (L_m_readsSum K m 1 l1 l2' l3' l4 0 l6 0 0 0 ityped inext itoken iplace ivalue ifault sm' atxt astm asm' asgn) Q) →
    Par (L_m_readsSum K n 18 l1 l2 l3 l4 0 l6 l7 l8 0 ityped inext itoken iplace ivalue ifault sm atxt astm asm asgn) Q := by
  intro S
  induction S with
  | nil =>
    intro o out n l2 l3 l7 l8 sm asm hM hc
    have h0 : l2.toInt = 0 := by have := hM.2.1; simpa using this
    cases n with
    | zero => exact Par.no
    | succ n =>
      rw [L_m_readsSum_e18]; unfold B_m_readsSum_18
      refine Par.yes rfl (Par.yes (by rw [Int32.le_iff_toInt_le]; simp only [Int32.reduceToInt]; omega) ?_)
      exact hc n (Nat.lt_succ_self _) l2 l3 sm asm hM
  | cons x S ih =>
    intro o out n l2 l3 l7 l8 sm asm hM hc
    have hM0 := hM
    obtain ⟨hs, h2, h80, h3, hb, h8, hE⟩ := hM
    obtain ⟨h', e1, e2, e3⟩ := hs
    have hh : h' = S.length := by simpa using e1.symm
    subst hh
    rw [List.length_cons] at h2 h80 hb
    have h2' : (l2 - 1).toInt = (S.length : Int) := subI l2 _ (by omega)
    have h2n : (l2 - 1).toNatClampNeg = S.length := cl1 _ _ h2'
    cases n with
    | zero => exact Par.no
    | succ n =>
      rw [L_m_readsSum_e18]; unfold B_m_readsSum_18
      refine Par.yes rfl (Par.not (by rw [Int32.le_iff_toInt_le]; simp only [Int32.reduceToInt]; omega) ?_)
      refine Par.br (fun _ => ?_) (fun _ => Par.no)
      rw [h2n, e2]
      by_cases hx : x = 33
      · refine Par.yes hx ?_
        refine Par.bd (E_m_putsP K hK 33 sm asm hE.nn) (fun r hr => ?_)
        rw [subOne, subOne]
        have hp : popNq (x :: S) o out = popNq S (o - 1) (out ++ [33]) := by simp only [popNq, if_pos hx]
        rw [hp] at hc
        refine ih (o - 1) (out ++ [33]) n (l2 - 1) (l3 - 1) l7 l8 r.1 r.2 ⟨e3, h2', by omega, ?_, by omega, by omega, by rw [hr.2.2]; exact hE.one hr.1 hr.2.1⟩ (fun m hm => hc m (Nat.lt_succ_of_lt hm))
        simp only [Int32.toInt_sub, Int32.reduceToInt, h3]
        rw [bmI (by omega) (by omega)]
      · refine Par.not hx ?_
        have hp : popNq (x :: S) o out = (x :: S, o, out) := by simp only [popNq, if_neg hx]
        rw [hp] at hc
        exact hc n (Nat.lt_succ_self _) l2 l3 sm asm hM0
set_option maxRecDepth 100000 in
theorem M_13 (K : Nat) (hK : 1000000000 ≤ K) (B : Int) (hB : B ≤ 1000) (a : Int32) (g0 : Nat → Int32) (Q : RRs → Prop) (l1 l3 l4 l5 l6 l7 l8 ityped inext itoken iplace ivalue ifault : Int32) (atxt astm asgn : Nat → Int32) (o : Int) :
    ∀ (S : List Int32) (out : List Int32) (n : Nat) (l2 sm : Int32) (asm : Nat → Int32), MPs B a g0 S o out l2 l3 sm asm asgn →
    (∀ m : Nat, m < n → ∀ (l2' sm' : Int32) (asm' : Nat → Int32), MPs B a g0 (popGe (clo l7) S out).1 o (popGe (clo l7) S out).2 l2' l3 sm' asm' asgn → Par (L_m_readsSum K m 14 l1 l2' l3 l4 l5 l6 l7 l8 0 ityped inext itoken iplace ivalue ifault sm' atxt astm asm' asgn) Q) →
    Par (L_m_readsSum K n 13 l1 l2 l3 l4 l5 l6 l7 l8 0 ityped inext itoken iplace ivalue ifault sm atxt astm asm asgn) Q := by
  intro S
  induction S with
  | nil =>
    intro out n l2 sm asm hM hc
    have h0 : l2.toInt = 0 := by have := hM.2.1; simpa using this
    cases n with
    | zero => exact Par.no
    | succ n =>
      rw [L_m_readsSum_e13]; unfold B_m_readsSum_13
      refine Par.yes (by rw [Int32.le_iff_toInt_le]; simp only [Int32.reduceToInt]; omega) ?_
      exact hc n (Nat.lt_succ_self _) l2 sm asm hM
  | cons x S ih =>
    intro out n l2 sm asm hM hc
    have hM0 := hM
    obtain ⟨hs, h2, h80, h3, hb, h8, hE⟩ := hM
    obtain ⟨h', e1, e2, e3⟩ := hs
    have hh : h' = S.length := by simpa using e1.symm
    subst hh
    rw [List.length_cons] at h2 h80 hb
    have h2' : (l2 - 1).toInt = (S.length : Int) := subI l2 _ (by omega)
    have h2n : (l2 - 1).toNatClampNeg = S.length := cl1 _ _ h2'
    cases n with
    | zero => exact Par.no
    | succ n =>
      rw [L_m_readsSum_e13]; unfold B_m_readsSum_13
      refine Par.not (by rw [Int32.le_iff_toInt_le]; simp only [Int32.reduceToInt]; omega) ?_
      refine Par.br (fun _ => ?_) (fun _ => Par.no)
      refine Par.bd (E_m_close K hK _) (fun c hc1 => ?_)
      refine Par.bd (E_m_close K hK _) (fun d hd1 => ?_)
      rw [h2n, e2] at hc1
      simp only [subOne]
      rw [h2n, e2]
      refine Par.br (fun h9 => ?_) (fun h9 => ?_)
      · rw [Int32.lt_iff_toInt_lt, hc1, hd1] at h9
        have hp : popGe (clo l7) (x :: S) out = (x :: S, out) := by
          have : ¬ clo l7 ≤ clo x := by omega
          simp only [popGe, if_neg this]
        rw [hp] at hc
        exact hc n (Nat.lt_succ_self _) l2 sm asm hM0
      · rw [Int32.lt_iff_toInt_lt, hc1, hd1] at h9
        have hp : popGe (clo l7) (x :: S) out = popGe (clo l7) S (out ++ [x]) := by
          have : clo l7 ≤ clo x := by omega
          simp only [popGe, if_pos this]
        rw [hp] at hc
        refine Par.br (fun _ => ?_) (fun _ => Par.no)
        refine Par.bd (E_m_putsP K hK x sm asm hE.nn) (fun r hr => ?_)
        exact ih (out ++ [x]) n (l2 - 1) r.1 r.2 ⟨e3, h2', by omega, h3, by omega, h8, by rw [hr.2.2]; exact hE.one hr.1 hr.2.1⟩ (fun m hm => hc m (Nat.lt_succ_of_lt hm))
set_option maxRecDepth 100000 in
theorem M_16 (K : Nat) (hK : 1000000000 ≤ K) (B : Int) (hB : B ≤ 1000) (a : Int32) (g0 : Nat → Int32) (Q : RRs → Prop) (l1 l3 l4 l5 l6 l7 l8 ityped inext itoken iplace ivalue ifault : Int32) (atxt astm asgn : Nat → Int32) (o : Int) :
    ∀ (S : List Int32) (out : List Int32) (n : Nat) (l2 sm : Int32) (asm : Nat → Int32), MPs B a g0 S o out l2 l3 sm asm asgn →
    (∀ m : Nat, m < n → ∀ (l2' sm' : Int32) (asm' : Nat → Int32), MPs B a g0 (popTo S out).1 (o - 1) (popTo S out).2 l2' (l3 - 1) sm' asm' asgn → Par ((F_m_advances K ityped inext itoken iplace ivalue atxt).bind (fun o_3 => L_m_readsSum K m 18 l1 l2' (l3 - 1) l4 l5 l6 l7 l8 0 ityped o_3.1 o_3.2.1 o_3.2.2.1 o_3.2.2.2 ifault sm' atxt astm asm' asgn)) Q) →
    Par (L_m_readsSum K n 16 l1 l2 l3 l4 l5 l6 l7 l8 0 ityped inext itoken iplace ivalue ifault sm atxt astm asm asgn) Q := by
  intro S
  induction S with
  | nil =>
    intro out n l2 sm asm hM hc
    have h0 : l2.toInt = 0 := by have := hM.2.1; simpa using this
    cases n with
    | zero => exact Par.no
    | succ n =>
      rw [L_m_readsSum_e16]; unfold B_m_readsSum_16
      refine Par.br (fun h => ?_) (fun _ => Par.no)
      have h1 : 0 ≤ (l2 - 1).toInt ∧ (l2 - 1).toInt < 80 := by simpa [okIx] using h
      simp only [Int32.toInt_sub, Int32.reduceToInt, h0] at h1
      rw [bmI (by omega) (by omega)] at h1
      omega
  | cons x S ih =>
    intro out n l2 sm asm hM hc
    have hM0 := hM
    obtain ⟨hs, h2, h80, h3, hb, h8, hE⟩ := hM
    obtain ⟨h', e1, e2, e3⟩ := hs
    have hh : h' = S.length := by simpa using e1.symm
    subst hh
    rw [List.length_cons] at h2 h80 hb
    have h2' : (l2 - 1).toInt = (S.length : Int) := subI l2 _ (by omega)
    have h2n : (l2 - 1).toNatClampNeg = S.length := cl1 _ _ h2'
    cases n with
    | zero => exact Par.no
    | succ n =>
      rw [L_m_readsSum_e16]; unfold B_m_readsSum_16
      refine Par.br (fun _ => ?_) (fun _ => Par.no)
      simp only [subOne]
      rw [h2n, e2]
      by_cases hx : x = 40
      · refine Par.yes hx ?_
        have hp : popTo (x :: S) out = (S, out) := by simp only [popTo, if_pos hx]
        rw [hp] at hc
        refine hc n (Nat.lt_succ_self _) (l2 - 1) sm asm ⟨e3, h2', by show S.length ≤ 80; omega, ?_, by show (S.length : Int) ≤ _; omega, by omega, hE⟩
        simp only [Int32.toInt_sub, Int32.reduceToInt, h3]
        rw [bmI (by omega) (by omega)]
      · refine Par.not hx ?_
        have hp : popTo (x :: S) out = popTo S (out ++ [x]) := by simp only [popTo, if_neg hx]
        rw [hp] at hc
        refine Par.br (fun _ => ?_) (fun _ => Par.no)
        refine Par.bd (E_m_putsP K hK x sm asm hE.nn) (fun r hr => ?_)
        exact ih (out ++ [x]) n (l2 - 1) r.1 r.2 ⟨e3, h2', by omega, h3, by omega, h8, by rw [hr.2.2]; exact hE.one hr.1 hr.2.1⟩ (fun m hm => hc m (Nat.lt_succ_of_lt hm))
