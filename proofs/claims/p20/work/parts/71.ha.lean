/-! runs look at the cells alone that occur in the program -/
def UsD (D : List SRc) (U : Nat → Prop) : Prop := ∀ i : Nat, (∀ x : Int32, x ∈ cod D i → 4 ≤ x → ¬ 16 ≤ x → U (x - 10).toNatClampNeg) ∧ (kf D i = 0 → i < D.length → U (tcC D i))
def RUs (U : Nat → Prop) (s t : RSt) : Prop := (∀ c : Nat, U c → s.1 c = t.1 c) ∧ s.2 = t.2
theorem ev1_U {g h : Nat → Int32} {st : List Int32} {x : Int32} (hx : 4 ≤ x → ¬ 16 ≤ x → g (x - 10).toNatClampNeg = h (x - 10).toNatClampNeg) : ev1 g st x = ev1 h st x := by
  unfold ev1
  by_cases h4 : 4 ≤ x
  · rw [if_pos h4, if_pos h4]
    by_cases h16 : 16 ≤ x
    · rw [if_pos h16, if_pos h16]
    · rw [if_neg h16, if_neg h16, hx h4 h16]
  · rw [if_neg h4, if_neg h4]
theorem vlE_U {g h : Nat → Int32} {e : List Int32} (hx : ∀ x : Int32, x ∈ e → 4 ≤ x → ¬ 16 ≤ x → g (x - 10).toNatClampNeg = h (x - 10).toNatClampNeg) : vlE e g = vlE e h := by
  have key : ∀ (e : List Int32) (st : List Int32), (∀ x : Int32, x ∈ e → 4 ≤ x → ¬ 16 ≤ x → g (x - 10).toNatClampNeg = h (x - 10).toNatClampNeg) → e.foldl (ev1 g) st = e.foldl (ev1 h) st := by
    intro e
    induction e with
    | nil => intro st _; rfl
    | cons x e ih =>
      intro st hx
      rw [List.foldl_cons, List.foldl_cons, ev1_U (hx x List.mem_cons_self)]
      exact ih _ (fun y hy => hx y (List.mem_cons_of_mem _ hy))
  unfold vlE evL
  rw [key e [] hx]
theorem itR_U {U : Nat → Prop} {f g : RSt → RSt} (h : ∀ s t : RSt, RUs U s t → RUs U (f s) (g t)) : ∀ (k : Nat) (s t : RSt), RUs U s t → RUs U (itR f k s) (itR g k t) := by
  intro k
  induction k with
  | zero => intro s t h9; exact h9
  | succ k ih => intro s t h9; exact ih _ _ (h s t h9)
theorem exR_U {D : List SRc} {M N : Nat → Nat} {wo : Int32} {U : Nat → Prop} (hU : UsD D U) : ∀ (n i t : Nat) (s u : RSt), RUs U s u → RUs U (exR D M N wo n i t s) (exR D M N wo n i t u) := by
  intro n
  induction n with
  | zero => intro i t s u h; exact h
  | succ n ih =>
    intro i t s u h
    obtain ⟨h1, h2⟩ := id h
    have hv : vlE (cod D i) s.1 = vlE (cod D i) u.1 := vlE_U (fun x hx a b => h1 _ ((hU i).1 x hx a b))
    have h21 : s.2.1 = u.2.1 := by rw [h2]
    have h22 : s.2.2 = u.2.2 := by rw [h2]
    unfold exR
    rw [h21]
    by_cases hc : i < t ∧ u.2.1 < 400
    · rw [if_pos hc, if_pos hc]
      refine ih _ _ _ _ ?_
      have hb : RUs U (s.1, s.2.1 + 1, s.2.2) (u.1, u.2.1 + 1, u.2.2) := ⟨h1, by rw [h21, h22]⟩
      unfold stR
      rw [hv]
      by_cases hp : psW wo D i
      · rw [if_pos hp, if_pos hp]; exact h
      · rw [if_neg hp, if_neg hp]
        by_cases h0 : kf D i = 0
        · rw [if_pos h0, if_pos h0]
          refine ⟨fun c hc => ?_, by show (s.2.1 + 1, s.2.2) = (u.2.1 + 1, u.2.2); rw [h21, h22]⟩
          show upd s.1 (tcC D i) _ c = upd u.1 (tcC D i) _ c
          by_cases hct : c = tcC D i
          · rw [hct, upd_eq, upd_eq]
          · rw [upd_ne _ _ hct, upd_ne _ _ hct]; exact h1 c hc
        · rw [if_neg h0, if_neg h0]
          by_cases hk1 : kf D i = 1
          · rw [if_pos hk1, if_pos hk1]
            exact ⟨h1, by show (s.2.1 + 1, s.2.2 ++ _) = (u.2.1 + 1, u.2.2 ++ _); rw [h21, h22]⟩
          · rw [if_neg hk1, if_neg hk1]
            by_cases hk2 : kf D i = 2
            · rw [if_pos hk2, if_pos hk2]
              split
              · exact ih _ _ _ _ hb
              · exact ih _ _ _ _ hb
            · rw [if_neg hk2, if_neg hk2]
              exact itR_U (fun s t h9 => ih _ _ _ _ h9) _ _ _ hb
    · rw [if_neg hc, if_neg hc]; exact h
theorem itR_n {c : Nat} {f : RSt → RSt} (h : ∀ s : RSt, (f s).1 c = s.1 c) : ∀ (k : Nat) (s : RSt), (itR f k s).1 c = s.1 c := by
  intro k
  induction k with
  | zero => intro s; rfl
  | succ k ih => intro s; show (itR f k (f s)).1 c = _; rw [ih, h]
theorem exC_n {D : List SRc} {M N dp : Nat → Nat} {wo : Int32} {U : Nat → Prop} (hN : NsT D M N dp) (hU : UsD D U) {c : Nat} (hc : ¬ U c) : ∀ (m i t : Nat) (s : RSt), t - i ≤ m → RgP D N i t → (exC D M N wo i t s).1 c = s.1 c := by
  intro m
  induction m with
  | zero =>
    intro i t s h _
    rw [exC_no (by omega)]
  | succ m ih =>
    intro i t s h hR
    by_cases hs : i < t ∧ s.2.1 < 400
    · have hil : i < D.length := by have := hR.1; omega
      obtain ⟨e1, e2, _⟩ := hN.1 i hil
      have hEt := hR.2 i (Nat.le_refl _) hs.1
      rw [exC_go hN hs.1 hs.2 hR, ih _ _ _ (by omega) (hR.sub (by omega))]
      unfold stR
      split
      · rfl
      · split
        · rename_i hk0
          show upd s.1 (tcC D i) _ c = _
          rw [upd_ne _ _ (fun e => hc (by rw [e]; exact (hU i).2 hk0 hil))]
        · split
          · rfl
          · split
            · rename_i hk2
              obtain ⟨r1, r2, r3, r4, r5⟩ := hN.g2 hil hk2
              rw [En_bk (Or.inl hk2)] at hEt
              split
              · rw [ih _ _ _ (by omega) r2]
              · rw [ih _ _ _ (by omega) r1]
            · rename_i hk0 hk1 hk2
              have hk3 : kf D i = 3 := by
                rcases hN.k4 i with h | h | h | h
                · exact absurd h hk0
                · exact absurd h hk1
                · exact absurd h hk2
                · exact h
              rw [En_bk (Or.inr hk3)] at hEt
              exact itR_n (fun s => ih _ _ s (by omega) (hN.g1 hil (Or.inr hk3))) _ _
    · rw [exC_no hs]
