/-! valueOf: both work a sum out alike -/
theorem sb1 (x : Int32) (n : Nat) (h : x.toInt = ((n + 1 : Nat) : Int)) (hn : n < 1000000) : (x - 1).toInt = (n : Int) := by
  rw [Int32.toInt_sub, h]
  simp only [Int32.reduceToInt]
  rw [bmI (by omega) (by omega)]
  omega
theorem len2 {n d : Nat} (h : n + 1 + 1 = d) (h2 : d ≤ 24) : n + 1 < 1000000 ∧ n < 1000000 ∧ n ≤ 22 := by omega
theorem E_m_valueOf (K : Nat) (hK : 1000000000 ≤ K) (l1 : Int32) (astm asm avls acel : Nat → Int32) (D : List SRc) (M N : Nat → Nat) (i : Nat) (h1 : l1.toInt = (i : Int)) (hi : i < 30) (hr : FRow astm asm D M N i) (h3 : kf D i ≠ 3) (hw : WfC (cod D i)) (hg : vl3 acel) : Par (F_m_valueOf K l1 astm asm avls acel) (fun r => r.1 = vlE (cod D i) acel) := by
  obtain ⟨r, cf, a1, a2, a3, a4, a5, a6, a7, a8, a9⟩ := hr
  have hcf := a4 (by rw [← kf_at a1]; exact h3)
  rw [cod_at a1] at hw ⊢
  have h8 : (8 * l1).toInt = ((8 * i : Nat) : Int) := by
    rw [Int32.toInt_mul, h1]
    simp only [Int32.reduceToInt]
    rw [bmI (by omega) (by omega)]; omega
  have e2 : (8 * l1 + 2).toNatClampNeg = 8 * i + 2 := adN _ 2 _ 2 h8 (by decide) (by omega)
  have e3 : (8 * l1 + 3).toNatClampNeg = 8 * i + 3 := adN _ 3 _ 3 h8 (by decide) (by omega)
  generalize he : r.2.2.1 = e at hw a5 a6 a7
  have key : ∀ (n t : Nat) (l2 l3 l4 l5 l6 l7 s0 s1 : Int32) (av : Nat → Int32), l3.toInt = (cf : Int) → l4.toInt = ((cf + t : Nat) : Int) → t ≤ e.length → l2.toInt = ((evL acel (e.take t)).length : Int) → SkV av (evL acel (e.take t)) → Par (L_m_valueOf K n 1 l1 l2 l3 l4 l5 l6 l7 s0 s1 astm asm av acel) (fun q => q.1 = vlE e acel) := by
    intro n
    induction n using Nat.strongRecOn with
    | _ n ih =>
    intro t l2 l3 l4 l5 l6 l7 s0 s1 av hl3 hl4 ht hl2 hsk
    cases n with
    | zero => exact Par.no
    | succ n =>
      rw [L_m_valueOf_e1]; unfold B_m_valueOf_1
      refine Par.br (fun _ => ?_) (fun _ => Par.no)
      rw [e3]
      have hsum : (l3 + astm (8 * i + 3)).toInt = ((cf + e.length : Nat) : Int) := by
        rw [adC l3 _ (cf : Int) (e.length : Int) hl3 a5 (by omega) (by omega)]; omega
      refine Par.br (fun h => ?_) (fun h => ?_)
      · rw [Int32.le_iff_toInt_le, hsum, hl4] at h
        have : t = e.length := by omega
        rw [this, List.take_length] at hsk
        obtain ⟨v, b1, b2, b3⟩ := hw.one hg
        rw [b1] at hsk
        refine Par.ret ?_
        show av 0 = _
        rw [b3]
        exact hsk.1
      · rw [Int32.le_iff_toInt_le, hsum, hl4] at h
        have htl : t < e.length := by omega
        have hx := List.getElem?_eq_getElem htl
        generalize e[t] = x at hx
        have hax : asm l4.toNatClampNeg = x := by rw [cl1 l4 _ hl4]; exact a7 t x hx
        obtain ⟨d2, hst, hcd⟩ := hw.step hg hx
        obtain ⟨d, k1, k2, k3, k4⟩ := hw.at hg t ht
        have hev := evL_take acel e t x hx
        generalize hS : evL acel (e.take t) = st at hst k2 k3 hev hl2 hsk
        rw [k2] at hst hl2
        refine Par.br (fun _ => ?_) (fun _ => Par.no)
        rw [hax]
        have fin : ∀ (q : Nat) (m2 b1 b2 b3 b4 b5 : Int32) (av : Nat → Int32), q < n + 1 → m2.toInt = ((ev1 acel st x).length : Int) → SkV av (ev1 acel st x) → Par (L_m_valueOf K q 4 l1 m2 l3 l4 b1 b2 b3 b4 b5 astm asm av acel) (fun q => q.1 = vlE e acel) := by
          intro q m2 b1 b2 b3 b4 b5 av hq hm hav
          cases q with
          | zero => exact Par.no
          | succ q =>
            rw [L_m_valueOf_e4]; unfold B_m_valueOf_4
            refine ih q (by omega) (t + 1) m2 l3 (l4 + 1) 0 0 0 0 0 av hl3 (ad1 l4 (cf + t) hl4 (by omega)) (by omega) ?_ ?_
            · rw [hev]; exact hm
            · rw [hev]; exact hav
        have x33 : x = 33 ↔ x.toInt = 33 := by
          constructor
          · rintro rfl; decide
          · intro h; exact Int32.toInt_inj.mp (by rw [h]; decide)
        refine Par.br (fun h4 => ?_) (fun h4 => ?_)
        · refine Par.br (fun h16 => ?_) (fun h16 => ?_)
          · have h16' := h16
            rw [Int32.le_iff_toInt_le] at h16'
            simp only [Int32.reduceToInt] at h16'
            refine Par.br (fun h33 => ?_) (fun h33 => ?_)
            · cases st with
              | nil => rw [List.length_nil] at k2; unfold stepc at hst; have := x33.mp h33; omega
              | cons a s =>
                rw [List.length_cons] at k2
                have hm1 := sb1 l2 s.length (by rw [hl2]; omega) (by omega)
                have hE : ev1 acel (a :: s) x = (if a = 0 then 1 else 0) :: s := by unfold ev1; rw [if_pos h4, if_pos h16, if_pos h33]
                refine Par.br (fun _ => ?_) (fun _ => Par.no)
                rw [cl1 _ _ hm1, hsk.1]
                have two : ∀ (q : Nat) (y : Int32), q < n + 1 → y = (if a = 0 then (1 : Int32) else 0) → Par (L_m_valueOf K q 2 l1 l2 l3 l4 x 0 0 y (l2 - 1) astm asm av acel) (fun q => q.1 = vlE e acel) := by
                  intro q y hq hy
                  cases q with
                  | zero => exact Par.no
                  | succ q =>
                    rw [L_m_valueOf_e2]; unfold B_m_valueOf_2
                    refine Par.br (fun _ => fin q _ _ _ _ _ _ _ (by omega) ?_ ?_) (fun _ => Par.no)
                    · rw [hE, List.length_cons, hl2]; omega
                    · rw [hE, cl1 _ _ hm1, hy]; exact hsk.2.push
                exact Par.br (fun h0 => two n 1 (by omega) (if_pos h0).symm) (fun h0 => two n 0 (by omega) (if_neg h0).symm)
            · cases st with
              | nil =>
                rw [List.length_nil] at k2
                have h33' : x.toInt ≠ 33 := fun h => h33 (x33.mpr h)
                unfold stepc at hst; omega
              | cons b s =>
                cases s with
                | nil =>
                  rw [List.length_cons, List.length_nil] at k2
                  have h33' : x.toInt ≠ 33 := fun h => h33 (x33.mpr h)
                  unfold stepc at hst; omega
                | cons a s =>
                  rw [List.length_cons, List.length_cons] at k2
                  obtain ⟨q1, q2, q3⟩ := len2 k2 k4
                  have hm1 : (l2 + (-1)).toInt = ((s.length + 1 : Nat) : Int) := by
                    rw [subOne]
                    exact sb1 l2 (s.length + 1) (by rw [hl2, ← k2]) q1
                  have hm2 := sb1 (l2 + (-1)) s.length hm1 q2
                  have hE : ev1 acel (b :: a :: s) x = op2 x a b :: s := by unfold ev1; rw [if_pos h4, if_pos h16, if_neg h33]
                  refine Par.br (fun _ => ?_) (fun _ => Par.no)
                  refine Par.br (fun _ => ?_) (fun _ => Par.no)
                  have hb1 : av (s.length + 1) = b := hsk.1
                  have ha1 : av s.length = a := hsk.2.1
                  rw [cl1 _ _ hm1, cl1 _ _ hm2, hb1, ha1]
                  have three : ∀ (q : Nat) (y : Int32), q < n + 1 → y = op2 x a b → Par (L_m_valueOf K q 3 l1 (l2 + (-1)) l3 l4 x a b y ((l2 + (-1)) - 1) astm asm av acel) (fun q => q.1 = vlE e acel) := by
                    intro q y hq hy
                    cases q with
                    | zero => exact Par.no
                    | succ q =>
                      rw [L_m_valueOf_e3]; unfold B_m_valueOf_3
                      refine Par.br (fun _ => fin q _ _ _ _ _ _ _ (by omega) ?_ ?_) (fun _ => Par.no)
                      · rw [hE, List.length_cons, hm1]
                      · rw [hE, cl1 _ _ hm2, hy]; exact hsk.2.2.push
                  refine Par.br (fun c1 => three n _ (by omega) ?_) (fun c1 => ?_)
                  · unfold op2; rw [if_pos c1]
                  · refine Par.br (fun c2 => three n _ (by omega) ?_) (fun c2 => ?_)
                    · unfold op2; rw [if_neg c1, if_pos c2]
                    · refine Par.br (fun c3 => three n _ (by omega) ?_) (fun c3 => ?_)
                      · unfold op2; rw [if_neg c1, if_neg c2, if_pos c3]
                      · refine Par.br (fun c4 => three n _ (by omega) ?_) (fun c4 => ?_)
                        · unfold op2; rw [if_neg c1, if_neg c2, if_neg c3, if_pos c4]
                        · refine Par.br (fun c5 => ?_) (fun c5 => ?_)
                          · refine Par.br (fun c6 => three n _ (by omega) ?_) (fun c6 => three n _ (by omega) ?_)
                            · unfold op2; rw [if_neg c1, if_neg c2, if_neg c3, if_neg c4, if_pos c5, if_pos c6]
                            · unfold op2; rw [if_neg c1, if_neg c2, if_neg c3, if_neg c4, if_pos c5, if_neg c6]
                          · refine Par.br (fun c6 => three n _ (by omega) ?_) (fun c6 => three n _ (by omega) ?_)
                            · unfold op2; rw [if_neg c1, if_neg c2, if_neg c3, if_neg c4, if_neg c5, if_pos c6]
                            · unfold op2; rw [if_neg c1, if_neg c2, if_neg c3, if_neg c4, if_neg c5, if_neg c6]
          · have hE : ev1 acel st x = acel (x - 10).toNatClampNeg :: st := by unfold ev1; rw [if_pos h4, if_neg h16]
            refine Par.br (fun _ => ?_) (fun _ => Par.no)
            refine Par.br (fun _ => fin n _ _ _ _ _ _ _ (by omega) ?_ ?_) (fun _ => Par.no)
            · rw [hE, List.length_cons]; exact ad1 l2 _ (by rw [hl2, k2]) (by omega)
            · rw [hE, cl1 l2 d hl2, ← k2]; exact hsk.push
        · have hE : ev1 acel st x = x :: st := by unfold ev1; rw [if_neg h4]
          refine Par.br (fun _ => fin n _ _ _ _ _ _ _ (by omega) ?_ ?_) (fun _ => Par.no)
          · rw [hE, List.length_cons]; exact ad1 l2 _ (by rw [hl2, k2]) (by omega)
          · rw [hE, cl1 l2 d hl2, ← k2]; exact hsk.push
  unfold F_m_valueOf
  obtain ⟨n, rfl⟩ : ∃ n9, K = n9 + 1 := ⟨K - 1, by omega⟩
  rw [L_m_valueOf_e0]; unfold B_m_valueOf_0
  refine Par.br (fun _ => ?_) (fun _ => Par.no)
  rw [e2]
  exact key n 0 0 _ _ 0 0 0 0 0 avls hcf (by rw [hcf]; rfl) (Nat.zero_le _) rfl True.intro
/-- a cell's number out of all numbers -/
def cvW (w s : Int32) : Int32 := ((w.toUInt32 >>> (s.toUInt32 &&& Int32.toUInt32 31)).toInt32 &&& 3)
/-- a statement's sum in the class's rows -/
def CSm (sv : Nat → Nat → Int32) (pk : Nat → Int32) (a : Nat) (e : List Int32) : Prop := ∃ cf : Nat, (sv a 4).toInt = (cf : Int) ∧ (sv a 5).toInt = ((cf + e.length : Nat) : Int) ∧ cf + e.length ≤ 300 ∧ ∀ (t : Nat) (x : Int32), e[t]? = some x → pk (cf + t) = encc x
theorem encc_n (x : Int32) (h : 0 ≤ x.toInt ∧ x.toInt < 4) : encc x = x ∧ ¬ (4 ≤ x) := by
  rcases four_i x ⟨h.1, by omega⟩ with rfl | rfl | rfl | rfl <;> decide
theorem encc_c (x : Int32) (h : 10 ≤ x.toInt ∧ x.toInt ≤ 15) : 4 ≤ encc x ∧ ¬ (16 ≤ encc x) ∧ encc x - 4 = Int32.ofNat (2 * (x - 10).toNatClampNeg) ∧ 4 ≤ x ∧ ¬ (16 ≤ x) := by
  rcases six_x x h with rfl | rfl | rfl | rfl | rfl | rfl <;> decide
theorem E_X2_valueOf (K : Nat) (hK : 1000000000 ≤ K) (a2 : Nat) (LL : List Nat) (sv : Nat → Nat → Int32) (w : Int32) (pk : Nat → Int32) (e : List Int32) (g : Nat → Int32) (hr : CSm sv pk a2 e) (hw : WfC e) (hg : vl3 g) (hp : ∀ c : Nat, c < 6 → cvW w (Int32.ofNat (2 * c)) = g c) : Par (F_X2_valueOf K a2 LL sv w pk) (fun r => r = vlE e g) := by
  obtain ⟨cf, r1, r2, r3, r4⟩ := hr
  have seven : ∀ (n : Nat) (z : Int64) (l5 l6 l7 l8 l9 s0 : Int32) (u0 : Int64), ZRl z (evL g e) → Par (L_X2_valueOf K n 7 a2 z l5 l6 l7 l8 l9 s0 u0 LL sv w pk) (fun r => r = vlE e g) := by
    intro n z l5 l6 l7 l8 l9 s0 u0 hz
    obtain ⟨v, b1, b2, b3⟩ := hw.one hg
    cases n with
    | zero => exact Par.no
    | succ n =>
      rw [L_X2_valueOf_e7]; unfold B_X2_valueOf_7
      rw [b1] at hz
      exact Par.br (fun _ => Par.ret (by rw [b3]; exact Z_top hz b2)) (fun _ => Par.no)
  have key : ∀ (n t : Nat) (z : Int64) (l5 l6 l7 l8 l9 s0 : Int32) (u0 : Int64), l5.toInt = ((cf + t : Nat) : Int) → t ≤ e.length → ZRl z (evL g (e.take t)) → Par (L_X2_valueOf K n 1 a2 z l5 l6 l7 l8 l9 s0 u0 LL sv w pk) (fun r => r = vlE e g) := by
    intro n
    induction n using Nat.strongRecOn with
    | _ n ih =>
    intro t z l5 l6 l7 l8 l9 s0 u0 h5 ht hz
    cases n with
    | zero => exact Par.no
    | succ n =>
      rw [L_X2_valueOf_e1]; unfold B_X2_valueOf_1
      refine Par.br (fun _ => ?_) (fun _ => Par.no)
      refine Par.br (fun h => ?_) (fun h => ?_)
      · rw [Int32.le_iff_toInt_le, r2, h5] at h
        have : t = e.length := by omega
        rw [this, List.take_length] at hz
        exact seven n _ _ _ _ _ _ _ _ hz
      · rw [Int32.le_iff_toInt_le, r2, h5] at h
        have htl : t < e.length := by omega
        refine Par.not (by rw [Int32.le_iff_toInt_le, h5]; simp only [Int32.reduceToInt]; omega) ?_
        refine Par.br (fun _ => ?_) (fun _ => Par.no)
        have hx := List.getElem?_eq_getElem htl
        generalize e[t] = x at hx
        have hax : pk l5.toNatClampNeg = encc x := by rw [cl1 l5 _ h5]; exact r4 t x hx
        rw [hax]
        obtain ⟨d2, hst, hcd⟩ := hw.step hg hx
        obtain ⟨d, k1, k2, k3, k4⟩ := hw.at hg t ht
        have hev := evL_take g e t x hx
        generalize hS : evL g (e.take t) = st at hst k2 k3 hev hz
        rw [k2] at hst
        have six : ∀ (q : Nat) (y : Int64) (b1 b2 b3 b4 b5 : Int32) (u0 : Int64), q < n + 1 → ZRl y (ev1 g st x) → Par (L_X2_valueOf K q 6 a2 y l5 b1 b2 b3 b4 b5 u0 LL sv w pk) (fun r => r = vlE e g) := by
          intro q y b1 b2 b3 b4 b5 u0 hq hy
          cases q with
          | zero => exact Par.no
          | succ q =>
            rw [L_X2_valueOf_e6]; unfold B_X2_valueOf_6
            refine Par.br (fun _ => ih q (by omega) (t + 1) y (l5 + 1) _ _ _ _ _ _ (ad1 l5 (cf + t) h5 (by omega)) (by omega) ?_) (fun _ => Par.no)
            rw [hev]; exact hy
        rcases hcd with hcd | hcd | hcd
        · obtain ⟨q1, q2⟩ := encc_n x hcd
          have hE : ev1 g st x = x :: st := by unfold ev1; rw [if_neg q2]
          rw [q1]
          refine Par.not q2 (six n _ _ _ _ _ _ _ (by omega) ?_)
          rw [hE]
          exact Z_push hz k3 (by omega) ⟨hcd.1, by omega⟩
        · obtain ⟨q1, q2, q3, q4, q5⟩ := encc_c x hcd
          have hE : ev1 g st x = g (x - 10).toNatClampNeg :: st := by unfold ev1; rw [if_pos q4, if_neg q5]
          refine Par.yes q1 (Par.not q2 (six n _ _ _ _ _ _ _ (by omega) ?_))
          have hm := (mask_x x hcd).1
          rw [hE, q3, ← hp _ hm]
          have hv : v3 (cvW w (Int32.ofNat (2 * (x - 10).toNatClampNeg))) := by rw [hp _ hm]; exact hg _ hm
          exact Z_push hz k3 (by omega) hv
        · by_cases h33 : x = 33
          · subst h33
            cases st with
            | nil => rw [List.length_nil] at k2; unfold stepc at hst; simp only [Int32.reduceToInt] at hst; omega
            | cons a s =>
              rw [List.length_cons] at k2
              have ha := k3 a (List.mem_cons.mpr (Or.inl rfl))
              have hE : ev1 g (a :: s) 33 = (if a = 0 then 1 else 0) :: s := by unfold ev1; rw [if_pos (by decide), if_pos (by decide), if_pos rfl]
              have he : encc 33 = 20 := by decide
              rw [he]
              have two : ∀ (q : Nat) (y : Int32), q < n + 1 → y = (if a = 0 then (1 : Int32) else 0) → Par (L_X2_valueOf K q 2 a2 z l5 20 0 0 0 y (z &&& (-4)) LL sv w pk) (fun r => r = vlE e g) := by
                intro q y hq hy
                cases q with
                | zero => exact Par.no
                | succ q =>
                  rw [L_X2_valueOf_e2]; unfold B_X2_valueOf_2
                  refine Par.br (fun _ => six q _ _ _ _ _ _ _ (by omega) ?_) (fun _ => Par.no)
                  rw [hE, hy]
                  exact Z_not hz k3 (by omega) v3_01
              refine Par.yes (by decide) (Par.yes (by decide) (Par.yes rfl ?_))
              exact Par.br (fun h0 => two n 1 (by omega) (if_pos ((Z_tz hz ha).mp h0)).symm) (fun h0 => two n 0 (by omega) (if_neg (fun h => h0 ((Z_tz hz ha).mpr h))).symm)
          · have hx16 : 16 ≤ x.toInt ∧ x.toInt ≠ 33 := by
              rcases hcd with h | h | h | h | h | h | h
              · exact absurd h h33
              all_goals (rw [h]; decide)
            cases st with
            | nil => rw [List.length_nil] at k2; unfold stepc at hst; omega
            | cons b s =>
              cases s with
              | nil => rw [List.length_cons, List.length_nil] at k2; unfold stepc at hst; omega
              | cons a s =>
                rw [List.length_cons, List.length_cons] at k2
                have ha := k3 a (List.mem_cons.mpr (Or.inr (List.mem_cons.mpr (Or.inl rfl))))
                have hb := k3 b (List.mem_cons.mpr (Or.inl rfl))
                have hE : ev1 g (b :: a :: s) x = op2 x a b :: s := by
                  unfold ev1
                  rw [if_pos (by rw [Int32.le_iff_toInt_le]; simp only [Int32.reduceToInt]; omega), if_pos (by rw [Int32.le_iff_toInt_le]; simp only [Int32.reduceToInt]; omega), if_neg h33]
                rw [Z_sec hz ha hb, Z_top hz hb]
                have five : ∀ (q : Nat) (y b1 b2 b3 b4 : Int32) (u0 : Int64), q < n + 1 → (y &&& 3) = op2 x a b → Par (L_X2_valueOf K q 5 a2 z l5 b1 b2 b3 y b4 u0 LL sv w pk) (fun r => r = vlE e g) := by
                  intro q y b1 b2 b3 b4 u0 hq hy
                  cases q with
                  | zero => exact Par.no
                  | succ q =>
                    rw [L_X2_valueOf_e5]; unfold B_X2_valueOf_5
                    refine Par.br (fun _ => six q _ _ _ _ _ _ _ (by omega) ?_) (fun _ => Par.no)
                    rw [hE, ← hy]
                    exact Z_bin hz k3 (by omega) (v3_and3 y)
                have four : ∀ (q : Nat) (y b1 b2 b3 b4 : Int32) (u0 : Int64), q < n + 1 → (y &&& 3) = op2 x a b → Par (L_X2_valueOf K q 4 a2 z l5 b1 b2 b3 b4 y u0 LL sv w pk) (fun r => r = vlE e g) := by
                  intro q y b1 b2 b3 b4 u0 hq hy
                  cases q with
                  | zero => exact Par.no
                  | succ q =>
                    rw [L_X2_valueOf_e4]; unfold B_X2_valueOf_4
                    exact Par.br (fun _ => five q _ _ _ _ _ _ (by omega) hy) (fun _ => Par.no)
                have three : ∀ (q : Nat) (y b1 b2 b3 b4 : Int32) (u0 : Int64), q < n + 1 → (y &&& 3) = op2 x a b → Par (L_X2_valueOf K q 3 a2 z l5 b1 b2 b3 b4 y u0 LL sv w pk) (fun r => r = vlE e g) := by
                  intro q y b1 b2 b3 b4 u0 hq hy
                  cases q with
                  | zero => exact Par.no
                  | succ q =>
                    rw [L_X2_valueOf_e3]; unfold B_X2_valueOf_3
                    exact Par.br (fun _ => five q _ _ _ _ _ _ (by omega) hy) (fun _ => Par.no)
                have m01 : ((0 : Int32) &&& 3) = 0 ∧ ((1 : Int32) &&& 3) = 1 := by decide
                rcases hcd with h | h | h | h | h | h | h
                · exact absurd h h33
                · subst h
                  have he : encc 43 = 16 := by decide
                  rw [he]
                  exact Par.yes (by decide) (Par.yes (by decide) (Par.not (by decide) (Par.yes rfl (five n _ _ _ _ _ _ (by omega) rfl))))
                · subst h
                  have he : encc 45 = 17 := by decide
                  rw [he]
                  exact Par.yes (by decide) (Par.yes (by decide) (Par.not (by decide) (Par.not (by decide) (Par.yes rfl (five n _ _ _ _ _ _ (by omega) rfl)))))
                · subst h
                  have he : encc 42 = 18 := by decide
                  rw [he]
                  exact Par.yes (by decide) (Par.yes (by decide) (Par.not (by decide) (Par.not (by decide) (Par.not (by decide) (Par.yes rfl (five n _ _ _ _ _ _ (by omega) rfl))))))
                · subst h
                  have he : encc 38 = 19 := by decide
                  rw [he]
                  refine Par.yes (by decide) (Par.yes (by decide) (Par.not (by decide) (Par.not (by decide) (Par.not (by decide) (Par.not (by decide) (Par.yes rfl (five n _ _ _ _ _ _ (by omega) ?_)))))))
                  show ((a &&& b) &&& 3) = op2 38 a b
                  rcases four_i a ha with rfl | rfl | rfl | rfl <;> rcases four_i b hb with rfl | rfl | rfl | rfl <;> decide
                · subst h
                  have he : encc 60 = 21 := by decide
                  rw [he]
                  refine Par.yes (by decide) (Par.yes (by decide) (Par.not (by decide) (Par.not (by decide) (Par.not (by decide) (Par.not (by decide) (Par.not (by decide) (Par.not (by decide) (Par.yes rfl ?_))))))))
                  have ho : op2 60 a b = if b ≤ a then 0 else 1 := rfl
                  exact Par.br (fun h0 => three n 0 _ _ _ _ _ (by omega) (by rw [ho, if_pos h0]; exact m01.1)) (fun h0 => three n 1 _ _ _ _ _ (by omega) (by rw [ho, if_neg h0]; exact m01.2))
                · subst h
                  have he : encc 61 = 22 := by decide
                  rw [he]
                  refine Par.yes (by decide) (Par.yes (by decide) (Par.not (by decide) (Par.not (by decide) (Par.not (by decide) (Par.not (by decide) (Par.not (by decide) (Par.not (by decide) (Par.not (by decide) ?_))))))))
                  have ho : op2 61 a b = if a = b then 1 else 0 := rfl
                  exact Par.br (fun h0 => four n 1 _ _ _ _ _ (by omega) (by rw [ho, if_pos h0]; exact m01.2)) (fun h0 => four n 0 _ _ _ _ _ (by omega) (by rw [ho, if_neg h0]; exact m01.1))
  unfold F_X2_valueOf
  obtain ⟨n, rfl⟩ : ∃ n9, K = n9 + 1 := ⟨K - 1, by omega⟩
  rw [L_X2_valueOf_e0]; unfold B_X2_valueOf_0
  refine Par.br (fun _ => ?_) (fun _ => Par.no)
  exact key n 0 0 _ _ _ _ _ _ _ (by rw [r1]; rfl) (Nat.zero_le _) rfl
