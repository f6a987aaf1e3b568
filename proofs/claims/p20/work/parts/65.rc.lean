/-! a run, told without machine: statements i .. t of a program on numbers, steps, what came out -/
abbrev RSt : Type := (Nat → Int32) × Nat × List (Int32 × Int32)
def itR (f : RSt → RSt) : Nat → RSt → RSt
  | 0, s => s
  | k + 1, s => itR f k (f s)
abbrev psW (wo : Int32) (D : List SRc) (i : Nat) : Prop := kf D i = 1 ∧ ((wo.toUInt32 >>> ((Int32.ofNat (cn1 (D.take i))).toUInt32 &&& Int32.toUInt32 31)).toInt32 &&& 1) ≠ 0
def stR (D : List SRc) (M N : Nat → Nat) (wo : Int32) (f : Nat → Nat → RSt → RSt) (i : Nat) (s : RSt) : RSt :=
  if psW wo D i then s
  else if kf D i = 0 then (upd s.1 (tcC D i) (vlE (cod D i) s.1), s.2.1 + 1, s.2.2)
  else if kf D i = 1 then (s.1, s.2.1 + 1, s.2.2 ++ [(vlE (cod D i) s.1, nf D i)])
  else if kf D i = 2 then (if vlE (cod D i) s.1 = 0 then f (M i) (N i) (s.1, s.2.1 + 1, s.2.2) else f (i + 1) (M i) (s.1, s.2.1 + 1, s.2.2))
  else itR (f (i + 1) (N i)) (nf D i).toInt.toNat (s.1, s.2.1 + 1, s.2.2)
def exR (D : List SRc) (M N : Nat → Nat) (wo : Int32) : Nat → Nat → Nat → RSt → RSt
  | 0 => fun _ _ s => s
  | n + 1 => fun i t s => if i < t ∧ s.2.1 < 400 then exR D M N wo n (EnD D N i) t (stR D M N wo (exR D M N wo n) i s) else s
def exC (D : List SRc) (M N : Nat → Nat) (wo : Int32) (i t : Nat) : RSt → RSt := exR D M N wo (t - i) i t
def RgP (D : List SRc) (N : Nat → Nat) (i t : Nat) : Prop := t ≤ D.length ∧ ∀ j : Nat, i ≤ j → j < t → EnD D N j ≤ t
section EX
variable {D : List SRc} {M N dp : Nat → Nat} {wo : Int32} {i t : Nat}
theorem exR_no {n : Nat} {s : RSt} (h : ¬ (i < t ∧ s.2.1 < 400)) : exR D M N wo n i t s = s := by
  cases n with
  | zero => rfl
  | succ n => unfold exR; exact if_neg h
theorem RgP.sub {j : Nat} (h : RgP D N i t) (hj : i ≤ j) : RgP D N j t := ⟨h.1, fun k h1 h2 => h.2 k (by omega) h2⟩
theorem NsT.g0 (hN : NsT D M N dp) (hi : i < D.length) : RgP D N (i + 1) (EnD D N i) := by
  obtain ⟨a, b, c⟩ := hN.1 i hi
  exact ⟨b, fun j h1 h2 => (c j (by omega) h2).1⟩
theorem NsT.g1 (hN : NsT D M N dp) (hi : i < D.length) (hk : bkP D i) : RgP D N (i + 1) (N i) := by
  have := hN.g0 hi
  rw [En_bk hk] at this
  exact this
theorem NsT.g2 (hN : NsT D M N dp) (hi : i < D.length) (hk : kf D i = 2) : RgP D N (i + 1) (M i) ∧ RgP D N (M i) (N i) ∧ i + 1 ≤ M i ∧ M i ≤ N i ∧ N i ≤ D.length := by
  obtain ⟨a, b, c⟩ := hN.2.1 i hi hk
  obtain ⟨d, e, f⟩ := hN.1 i hi
  rw [En_bk (Or.inl hk)] at d e f
  exact ⟨⟨by omega, fun j h1 h2 => c j (by omega) h2⟩, ⟨e, fun j h1 h2 => (f j (by omega) h2).1⟩, a, b, e⟩
theorem stR_congr {f g : Nat → Nat → RSt → RSt} (h1 : kf D i = 2 → f (M i) (N i) = g (M i) (N i) ∧ f (i + 1) (M i) = g (i + 1) (M i)) (h2 : kf D i = 3 → f (i + 1) (N i) = g (i + 1) (N i)) (h4 : kf D i = 0 ∨ kf D i = 1 ∨ kf D i = 2 ∨ kf D i = 3) (s : RSt) : stR D M N wo f i s = stR D M N wo g i s := by
  unfold stR
  by_cases hp : psW wo D i
  · rw [if_pos hp, if_pos hp]
  · rw [if_neg hp, if_neg hp]
    by_cases h0 : kf D i = 0
    · rw [if_pos h0, if_pos h0]
    · rw [if_neg h0, if_neg h0]
      by_cases hk1 : kf D i = 1
      · rw [if_pos hk1, if_pos hk1]
      · rw [if_neg hk1, if_neg hk1]
        by_cases hk2 : kf D i = 2
        · obtain ⟨a, b⟩ := h1 hk2
          rw [if_pos hk2, if_pos hk2, a, b]
        · have hk3 : kf D i = 3 := by
            rcases h4 with h | h | h | h
            · exact absurd h h0
            · exact absurd h hk1
            · exact absurd h hk2
            · exact h
          rw [if_neg hk2, if_neg hk2, h2 hk3]
theorem NsT.k4 (hN : NsT D M N dp) (i : Nat) : kf D i = 0 ∨ kf D i = 1 ∨ kf D i = 2 ∨ kf D i = 3 := by
  rcases Nat.lt_or_ge i D.length with h | h
  · have hx := List.getElem?_eq_getElem h
    rw [kf_at hx]
    exact (hN.2.2.2.2.2 _ (List.getElem_mem h)).1
  · exact Or.inl (kf_no h)
theorem exR_fu (hN : NsT D M N dp) : ∀ (m i t : Nat), t - i ≤ m → RgP D N i t → ∀ n n' : Nat, m ≤ n → m ≤ n' → exR D M N wo n i t = exR D M N wo n' i t := by
  intro m
  induction m with
  | zero =>
    intro i t h _ n n' _ _
    funext s
    rw [exR_no (by omega), exR_no (by omega)]
  | succ m ih =>
    intro i t h hR n n' hn hn'
    funext s
    by_cases hc : i < t ∧ s.2.1 < 400
    · obtain ⟨a, rfl⟩ : ∃ a, n = a + 1 := ⟨n - 1, by omega⟩
      obtain ⟨b, rfl⟩ : ∃ b, n' = b + 1 := ⟨n' - 1, by omega⟩
      have hil : i < D.length := by have := hR.1; omega
      obtain ⟨e1, e2, _⟩ := hN.1 i hil
      have hEt := hR.2 i (Nat.le_refl _) hc.1
      unfold exR
      rw [if_pos hc, if_pos hc]
      rw [ih (EnD D N i) t (by omega) (hR.sub (by omega)) a b (by omega) (by omega)]
      congr 1
      refine stR_congr (fun hk => ?_) (fun hk => ?_) (hN.k4 i) s
      · obtain ⟨r1, r2, r3, r4, r5⟩ := hN.g2 hil hk
        rw [En_bk (Or.inl hk)] at hEt
        exact ⟨ih _ _ (by omega) r2 a b (by omega) (by omega), ih _ _ (by omega) r1 a b (by omega) (by omega)⟩
      · rw [En_bk (Or.inr hk)] at hEt
        exact ih _ _ (by omega) (hN.g1 hil (Or.inr hk)) a b (by omega) (by omega)
    · rw [exR_no hc, exR_no hc]
theorem exC_no {s : RSt} (h : ¬ (i < t ∧ s.2.1 < 400)) : exC D M N wo i t s = s := exR_no h
theorem exC_go (hN : NsT D M N dp) {s : RSt} (hi : i < t) (hs : s.2.1 < 400) (hR : RgP D N i t) : exC D M N wo i t s = exC D M N wo (EnD D N i) t (stR D M N wo (exC D M N wo) i s) := by
  have hil : i < D.length := by have := hR.1; omega
  obtain ⟨e1, e2, _⟩ := hN.1 i hil
  have hEt := hR.2 i (Nat.le_refl _) hi
  unfold exC
  obtain ⟨m, hm⟩ : ∃ m, t - i = m + 1 := ⟨t - i - 1, by omega⟩
  rw [hm]
  show (if i < t ∧ s.2.1 < 400 then exR D M N wo m (EnD D N i) t (stR D M N wo (exR D M N wo m) i s) else s) = _
  rw [if_pos ⟨hi, hs⟩, exR_fu hN (t - EnD D N i) (EnD D N i) t (Nat.le_refl _) (hR.sub (by omega)) m (t - EnD D N i) (by omega) (Nat.le_refl _)]
  congr 1
  refine stR_congr (fun hk => ?_) (fun hk => ?_) (hN.k4 i) s
  · obtain ⟨r1, r2, r3, r4, r5⟩ := hN.g2 hil hk
    rw [En_bk (Or.inl hk)] at hEt
    exact ⟨exR_fu hN _ _ _ (Nat.le_refl _) r2 m _ (by omega) (Nat.le_refl _), exR_fu hN _ _ _ (Nat.le_refl _) r1 m _ (by omega) (Nat.le_refl _)⟩
  · rw [En_bk (Or.inr hk)] at hEt
    exact exR_fu hN _ _ _ (Nat.le_refl _) (hN.g1 hil (Or.inr hk)) m _ (by omega) (Nat.le_refl _)
theorem exC_sp (hN : NsT D M N dp) : ∀ (m i b t : Nat) (s : RSt), b - i ≤ m → i ≤ b → b ≤ t → RgP D N i b → RgP D N i t → exC D M N wo i t s = exC D M N wo b t (exC D M N wo i b s) := by
  intro m
  induction m with
  | zero =>
    intro i b t s h1 h2 h3 _ _
    have e : i = b := by omega
    subst e
    rw [exC_no (t := i) (by omega)]
  | succ m ih =>
    intro i b t s h1 h2 h3 hb ht
    rcases Nat.lt_or_ge i b with h | h
    · by_cases hs : s.2.1 < 400
      · have hil : i < D.length := by have := hb.1; omega
        obtain ⟨e1, _, _⟩ := hN.1 i hil
        have hEb := hb.2 i (Nat.le_refl _) h
        rw [exC_go hN (by omega) hs ht, exC_go hN h hs hb]
        exact ih _ _ _ _ (by omega) hEb h3 (hb.sub (by omega)) (ht.sub (by omega))
      · rw [exC_no (t := t) (by omega), exC_no (t := b) (by omega), exC_no (by omega)]
    · have e : i = b := by omega
      subst e
      rw [exC_no (t := i) (by omega)]
theorem itR_st {f : RSt → RSt} {s : RSt} (h : f s = s) : ∀ k : Nat, itR f k s = s := by
  intro k
  induction k with
  | zero => rfl
  | succ k ih => show itR f k (f s) = s; rw [h, ih]
/-! what a run keeps -/
def OkS (s : RSt) : Prop := vl3 s.1 ∧ s.2.1 ≤ 400 ∧ s.2.2.length ≤ s.2.1
def VlD (D : List SRc) : Prop := ∀ (i : Nat) (g : Nat → Int32), vl3 g → v3 (vlE (cod D i) g)
theorem vl3_upd {g : Nat → Int32} {c : Nat} {x : Int32} (h : vl3 g) (hx : v3 x) : vl3 (upd g c x) := by
  intro k hk
  by_cases e : k = c
  · rw [e, upd_eq]; exact hx
  · rw [upd_ne _ _ e]; exact h k hk
theorem itR_ok {f : RSt → RSt} (hf : ∀ s : RSt, OkS s → OkS (f s)) : ∀ (k : Nat) (s : RSt), OkS s → OkS (itR f k s) := by
  intro k
  induction k with
  | zero => intro s h; exact h
  | succ k ih => intro s h; exact ih _ (hf s h)
theorem stR_ok (hV : VlD D) {f : Nat → Nat → RSt → RSt} (hf : ∀ (a b : Nat) (s : RSt), OkS s → OkS (f a b s)) {s : RSt} (h : OkS s) (hs : s.2.1 < 400) : OkS (stR D M N wo f i s) := by
  obtain ⟨h1, h2, h3⟩ := h
  have hb : OkS (s.1, s.2.1 + 1, s.2.2) := ⟨h1, by show s.2.1 + 1 ≤ 400; omega, by show s.2.2.length ≤ s.2.1 + 1; omega⟩
  unfold stR
  split
  · exact ⟨h1, h2, h3⟩
  · split
    · exact ⟨vl3_upd h1 (hV i _ h1), by show s.2.1 + 1 ≤ 400; omega, by show s.2.2.length ≤ s.2.1 + 1; omega⟩
    · split
      · refine ⟨h1, by show s.2.1 + 1 ≤ 400; omega, ?_⟩
        show (s.2.2 ++ [_]).length ≤ s.2.1 + 1
        rw [List.length_append]
        simp only [List.length_cons, List.length_nil]
        omega
      · split
        · split
          · exact hf _ _ _ hb
          · exact hf _ _ _ hb
        · exact itR_ok (hf _ _) _ _ hb
theorem exR_ok (hV : VlD D) : ∀ (n i t : Nat) (s : RSt), OkS s → OkS (exR D M N wo n i t s) := by
  intro n
  induction n with
  | zero => intro i t s h; exact h
  | succ n ih =>
    intro i t s h
    unfold exR
    by_cases hc : i < t ∧ s.2.1 < 400
    · rw [if_pos hc]
      exact ih _ _ _ (stR_ok hV ih h hc.2)
    · rw [if_neg hc]; exact h
theorem exC_ok (hV : VlD D) (i t : Nat) (s : RSt) (h : OkS s) : OkS (exC D M N wo i t s) := exR_ok hV _ _ _ _ h
end EX
theorem cod_no {D : List SRc} {i : Nat} (h : D.length ≤ i) : cod D i = [] := by unfold cod; rw [List.getElem?_eq_none h]; rfl
theorem vlE_nil (g : Nat → Int32) : vlE [] g = 0 := rfl
theorem VlD.of {D : List SRc} (h : ∀ i : Nat, i < D.length → kf D i ≠ 3 → WfC (cod D i)) (h3 : ∀ r : SRc, r ∈ D → (r.1 = 0 ∨ r.1 = 1 ∨ r.1 = 2 ∨ r.1 = 3) ∧ (r.1 = 3 → r.2.2.1 = [])) : VlD D := by
  intro i g hg
  rcases Nat.lt_or_ge i D.length with hi | hi
  · by_cases hk : kf D i = 3
    · have hx := List.getElem?_eq_getElem hi
      rw [kf_at hx] at hk
      rw [cod_at hx, (h3 _ (List.getElem_mem hi)).2 hk, vlE_nil]
      exact v3_0
    · obtain ⟨v, _, a, b⟩ := (h i hi hk).one hg
      rw [b]; exact a
  · rw [cod_no hi, vlE_nil]; exact v3_0
/-! the tape -/
def TpR (fn fl : Nat → Int32) (out : List (Int32 × Int32)) : Prop := ∀ (k : Nat) (x : Int32 × Int32), k < 20 → out[k]? = some x → fn k = x.1 ∧ fl k = x.2
theorem TpR.put {fn fl : Nat → Int32} {out : List (Int32 × Int32)} (h : TpR fn fl out) (a b : Int32) : TpR (upd fn out.length a) (upd fl out.length b) (out ++ [(a, b)]) := by
  intro k x hk hx
  rcases Nat.lt_trichotomy k out.length with h1 | h1 | h1
  · rw [upd_ne _ _ (by omega), upd_ne _ _ (by omega)]
    rw [List.getElem?_append_left h1] at hx
    exact h k x hk hx
  · rw [h1, upd_eq, upd_eq]
    rw [List.getElem?_append_right (by omega), h1, Nat.sub_self] at hx
    simp only [List.getElem?_cons_zero, Option.some.injEq] at hx
    rw [← hx]
    exact ⟨rfl, rfl⟩
  · rw [List.getElem?_eq_none (by rw [List.length_append]; simp only [List.length_cons, List.length_nil]; omega)] at hx
    cases hx
theorem TpR.full {fn fl : Nat → Int32} {out : List (Int32 × Int32)} (h : TpR fn fl out) (hl : 20 ≤ out.length) (x : Int32 × Int32) : TpR fn fl (out ++ [x]) := by
  intro k y hk hy
  rw [List.getElem?_append_left (by omega)] at hy
  exact h k y hk hy
