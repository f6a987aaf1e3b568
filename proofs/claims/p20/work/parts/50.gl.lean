/-! p3: the reference's loop of statements, step by step with the machine -/
/-- row i of the reference's program -/
def FRow (astm asm : Nat → Int32) (D : List SRc) (M N : Nat → Nat) (i : Nat) : Prop :=
  ∃ (r : SRc) (cf : Nat), D[i]? = some r ∧ astm (8 * i) = r.1 ∧ astm (8 * i + 1) = r.2.1 ∧ (r.1 ≠ 3 → (astm (8 * i + 2)).toInt = (cf : Int)) ∧ (astm (8 * i + 3)).toInt = (r.2.2.1.length : Int) ∧ cf + r.2.2.1.length ≤ 300 ∧ (∀ (t : Nat) (x : Int32), r.2.2.1[t]? = some x → asm (cf + t) = x) ∧ (astm (8 * i + 4)).toInt = (M i : Int) ∧ (astm (8 * i + 5)).toInt = (N i : Int)
theorem RRow.fin {astm asm f g : Nat → Int32} {D : List SRc} {M N : Nat → Nat} {sm : Int} {i : Nat} (h : RRow astm asm D M N sm i) (hs : sm ≤ 300) (hD : D.length ≤ 30) (h1 : ∀ p : Nat, p < 240 → f p = astm (240 + p)) (h2 : ∀ p : Nat, p < 300 → g p = asm (300 + p)) : FRow f g D M N i := by
  have hi := h.lt
  obtain ⟨r, cf, a1, a2, a3, a4, a5, a6, a7, a8, a9⟩ := h
  refine ⟨r, cf, a1, by rw [h1 _ (by omega)]; exact a2, by rw [h1 _ (by omega)]; exact a3, fun h => by rw [h1 _ (by omega)]; exact a4 h, by rw [h1 _ (by omega)]; exact a5, by omega, fun t x hx => ?_, by rw [h1 _ (by omega)]; exact a8, by rw [h1 _ (by omega)]; exact a9⟩
  have ht : t < r.2.2.1.length := by
    rcases Nat.lt_or_ge t r.2.2.1.length with h | h
    · exact h
    · rw [List.getElem?_eq_none h] at hx; cases hx
  rw [h2 _ (by omega), ← Nat.add_assoc]
  exact a7 t x hx
def RDQ (ityped imany : Int32) (st0 sm0 : Nat → Int32) (k v : Nat → Int32) (c : TCg) (r : R16) : Prop :=
  (r.2.2.1 = ityped ∧ Fl2 k v c ∧ r.2.2.2.2.2.2.2.2.1 = imany ∧ (∀ p : Nat, p < 240 → r.2.2.2.2.2.2.2.2.2.2.2.1 p = st0 p) ∧ (∀ p : Nat, p < 300 → r.2.2.2.2.2.2.2.2.2.2.2.2.1 p = sm0 p)) ∨ (r.2.2.1 = 0 ∧ ∃ (D' : List SRc) (M' N' : Nat → Nat) (j' : Nat), Hl2 k v c (D', M', N', j') ∧ (r.2.2.2.2.2.2.2.2.1).toInt = (D'.length : Int) ∧ D'.length ≤ 30 ∧ ∀ i : Nat, i < D'.length → FRow r.2.2.2.2.2.2.2.2.2.2.2.1 r.2.2.2.2.2.2.2.2.2.2.2.2.1 D' M' N' i)
theorem RDQ.back {ityped imany : Int32} {st0 sm0 k v : Nat → Int32} {c d : TCg} {r : R16} (h : Rc2 k v c d) (hr : RDQ ityped imany st0 sm0 k v d r) : RDQ ityped imany st0 sm0 k v c r := by
  rcases hr with ⟨h1, h2, h3⟩ | ⟨h1, D', M', N', j', h2, h3⟩
  · exact Or.inl ⟨h1, h.fl h2, h3⟩
  · exact Or.inr ⟨h1, D', M', N', j', h.hl h2, h3⟩
theorem KpF.fl {ityped imany : Int32} {astm asm st0 sm0 k v : Nat → Int32} {c : TCg} {r : R16} (h : KpF ityped imany astm asm r) (hf : Fl2 k v c) (h1 : ∀ p : Nat, p < 240 → astm p = st0 p) (h2 : ∀ p : Nat, p < 300 → asm p = sm0 p) : RDQ ityped imany st0 sm0 k v c r := by
  obtain ⟨a1, a2, a3, a4⟩ := h
  exact Or.inl ⟨a1, hf, a2, fun p hp => by rw [a3]; exact h1 p hp, fun p hp => by rw [a4]; exact h2 p hp⟩
def NIv (E : Nat) (k v nx st0 sm0 : Nat → Int32) (D : List SRc) (M N : Nat → Nat) (S : List (Nat × Bool)) (j : Nat) (l1 inext itoken iplace ivalue ifault idrafts isumMany : Int32) (astm asm aopn aopp : Nat → Int32) : Prop :=
  ifault.toInt < 0 ∧ RTk k v nx j inext itoken iplace ivalue ∧ j ≤ E ∧ l1.toInt = (S.length : Int) ∧ S.length ≤ 6 ∧ StkO S aopn aopp D.length S.length ∧ idrafts.toInt = (D.length : Int) ∧ D.length ≤ 30 ∧ RRel D M N astm asm isumMany.toInt ∧ (0 ≤ isumMany.toInt ∧ isumMany.toInt ≤ 300) ∧ (∀ p : Nat, p < 240 → astm p = st0 p) ∧ (∀ p : Nat, p < 300 → asm p = sm0 p)
theorem DrH.low {astm f st0 : Nat → Int32} {w num : Int32} {d : Nat} (h : DrH astm w num d f) (h1 : ∀ p : Nat, p < 240 → astm p = st0 p) : ∀ p : Nat, p < 240 → f p = st0 p := fun p hp => by rw [h.1 p (by omega)]; exact h1 p hp
theorem sum_low {f st0 : Nat → Int32} {at_ x y : Int32} {d : Nat} (ha : at_.toInt = ((240 + 8 * d : Nat) : Int)) (hd : d < 30) (h : ∀ p : Nat, p < 240 → f p = st0 p) : ∀ p : Nat, p < 240 → upd (upd f (at_ + 2).toNatClampNeg x) (at_ + 3).toNatClampNeg y p = st0 p := by
  intro p hp
  rw [adN _ 2 _ 2 ha (by decide) (by omega), adN _ 3 _ 3 ha (by decide) (by omega), upd_ne _ _ (by omega), upd_ne _ _ (by omega)]
  exact h p hp
theorem EMr.top {a : Int32} {g0 : Nat → Int32} {sm : Int32} {g : Nat → Int32} {e : List Int32} (h : EMr a g0 sm g e) (ha : a.toInt ≤ 300) : sm.toInt ≤ 300 := by
  rcases h.2.2.2.2 with h9 | h9
  · exact h9
  · have := h.2.1
    rw [h9] at this
    simp at this
    omega
theorem EMr.lows {a : Int32} {g0 : Nat → Int32} {sm : Int32} {g sm0 : Nat → Int32} {e : List Int32} (h : EMr a g0 sm g e) (h1 : ∀ p : Nat, p < 300 → g0 p = sm0 p) : ∀ p : Nat, p < 300 → g p = sm0 p := fun p hp => by rw [h.2.2.1 p (by omega)]; exact h1 p hp
theorem begK_n1 {x : Int32} (h : begK x) : x ≠ 0 ∧ x ≠ 1 := by
  rcases h with rfl | rfl | rfl | rfl <;> decide
theorem sg61 : sgq 61 := by unfold sgq; decide
theorem sg59 : sgq 59 := by unfold sgq; decide
theorem sg123 : sgq 123 := by unfold sgq; decide
theorem sg125 : sgq 125 := by unfold sgq; decide
set_option maxHeartbeats 4000000 in
set_option maxRecDepth 100000 in
theorem N_1 (K : Nat) (hK : 1000000000 ≤ K) (E : Nat) (k v nx : Nat → Int32) (ityped imany : Int32) (atxt st0 sm0 : Nat → Int32) (hS : STR2 E k v) (hR : RStq K E ityped atxt k v nx) :
    ∀ (n : Nat) (D : List SRc) (M N : Nat → Nat) (S : List (Nat × Bool)) (j : Nat) (l1 ithrown inext itoken iplace ivalue ifault idrafts isumMany : Int32) (astm asm asgn aopn aopp : Nat → Int32),
    NIv E k v nx st0 sm0 D M N S j l1 inext itoken iplace ivalue ifault idrafts isumMany astm asm aopn aopp →
    Par (L_m_read K n 1 l1 0 0 0 0 0 0 ithrown ityped inext itoken iplace ivalue ifault imany idrafts isumMany atxt astm asm asgn aopn aopp) (RDQ ityped imany st0 sm0 k v (D, M, N, S, j)) := by
  intro n
  induction n using Nat.strongRecOn with
  | _ n ih =>
  intro D M N S j l1 ithrown inext itoken iplace ivalue ifault idrafts isumMany astm asm asgn aopn aopp hI
  obtain ⟨hw, hT, hj, hl1, hS6, hSt, hdr, hD, hKD, ⟨hsm, hsm3⟩, hlo1, hlo2⟩ := hI
  cases n with
  | zero => exact Par.no
  | succ n =>
  have hQ := hT.2.1
  have hpl := hT.2.2
  have go18 : ∀ (m : Nat) (D' : List SRc) (M' N' : Nat → Nat) (S' : List (Nat × Bool)) (j' : Nat) (a1 a2 e1 e2 e3 e4 e5 e6 e7 e8 : Int32) (f1 f2 f3 f4 f5 : Nat → Int32), m < n + 1 → Rc2 k v (D, M, N, S, j) (D', M', N', S', j') → NIv E k v nx st0 sm0 D' M' N' S' j' a1 e2 e3 e4 e5 e6 e7 e8 f1 f2 f4 f5 → Par (L_m_read K m 18 a1 a2 0 0 0 0 0 e1 ityped e2 e3 e4 e5 e6 imany e7 e8 atxt f1 f2 f3 f4 f5) (RDQ ityped imany st0 sm0 k v (D, M, N, S, j)) := by
    intro m D' M' N' S' j' a1 a2 e1 e2 e3 e4 e5 e6 e7 e8 f1 f2 f3 f4 f5 hm hr hi
    cases m with
    | zero => exact Par.no
    | succ m =>
      rw [L_m_read_e18]; unfold B_m_read_18
      exact (ih m (by omega) D' M' N' S' j' a1 e1 e2 e3 e4 e5 e6 e7 e8 f1 f2 f3 f4 f5 hi).mono (fun r9 h9 => RDQ.back hr h9)
  have go11 : ∀ (m : Nat) (D' : List SRc) (M' N' : Nat → Nat) (S' : List (Nat × Bool)) (j' : Nat) (a1 a2 a3 a4 a5 e1 e2 e3 e4 e5 e6 e7 e8 : Int32) (f1 f2 f3 f4 f5 : Nat → Int32), m < n + 1 → Rc2 k v (D, M, N, S, j) (D', M', N', S', j') → NIv E k v nx st0 sm0 D' M' N' S' j' a1 e2 e3 e4 e5 e6 e7 e8 f1 f2 f4 f5 → Par (L_m_read K m 11 a1 a2 a3 a4 a5 0 0 e1 ityped e2 e3 e4 e5 e6 imany e7 e8 atxt f1 f2 f3 f4 f5) (RDQ ityped imany st0 sm0 k v (D, M, N, S, j)) := by
    intro m D' M' N' S' j' a1 a2 a3 a4 a5 e1 e2 e3 e4 e5 e6 e7 e8 f1 f2 f3 f4 f5 hm hr hi
    cases m with
    | zero => exact Par.no
    | succ m =>
      rw [L_m_read_e11]; unfold B_m_read_11
      exact go18 m D' M' N' S' j' a1 a2 e1 e2 e3 e4 e5 e6 e7 e8 f1 f2 f3 f4 f5 (by omega) hr hi
  rw [L_m_read_e1]; unfold B_m_read_1
  refine Par.bd (T_m_isWell K hK ifault True.intro).pr (fun q hq => ?_)
  rcases hq with ⟨hq, _⟩ | ⟨_, h⟩
  case inr => omega
  refine Par.not (by rw [hq]; decide) ?_
  -- what closes
  have h17 : ∀ (m : Nat) (l2 : Int32), Fl2 k v (D, M, N, S, j) → Par (L_m_read K m 17 l1 l2 0 0 0 0 0 ithrown ityped inext itoken iplace ivalue ifault imany idrafts isumMany atxt astm asm asgn aopn aopp) (RDQ ityped imany st0 sm0 k v (D, M, N, S, j)) :=
    fun m l2 hf => (r17f K ityped imany atxt hK m l1 l2 ithrown inext itoken iplace ivalue ifault idrafts isumMany astm asm asgn aopn aopp (Or.inr hpl)).mono (fun r hr => hr.fl hf hlo1 hlo2)
  have h12 : ∀ (m : Nat) (l2 : Int32), m < n + 1 → (¬ begK (k j) ∨ (begK (k j) ∧ ¬ D.length < 30)) → (k j = 0 → S ≠ []) → Par (L_m_read K m 12 l1 l2 0 0 0 0 0 ithrown ityped inext itoken iplace ivalue ifault imany idrafts isumMany atxt astm asm asgn aopn aopp) (RDQ ityped imany st0 sm0 k v (D, M, N, S, j)) := by
    intro m l2 hm hb h0
    cases m with
    | zero => exact Par.no
    | succ m =>
      rw [L_m_read_e12]; unfold B_m_read_12
      refine Par.bd (T_m_isSign K hK 125 itoken ivalue ifault True.intro).pr (fun q2 hq2 => ?_)
      rcases hq2 with ⟨e1, _, e2, e3⟩ | ⟨e1, e2⟩
      · refine Par.not (by rw [e1]; decide) ?_
        have hk : k j = 125 := (hQ.sign 125 sg125).mp ⟨e2, e3⟩
        have hnb : ¬ begK (k j) := by rw [hk]; unfold begK; decide
        have hk0 : k j ≠ 0 ∧ k j ≠ 1 := by rw [hk]; decide
        refine Par.br (fun hle => ?_) (fun hle => ?_)
        · rw [Int32.le_iff_toInt_le] at hle
          simp only [Int32.reduceToInt] at hle
          have : S = [] := by
            cases S with
            | nil => rfl
            | cons x S => rw [List.length_cons] at hl1; omega
          subst this
          exact h17 m l2 (s_none hnb hk0.1)
        · rw [Int32.le_iff_toInt_le] at hle
          simp only [Int32.reduceToInt] at hle
          cases S with
          | nil => simp at hl1; omega
          | cons x S =>
            obtain ⟨i, b⟩ := x
            obtain ⟨h', z1, z2, z3, z4, z5⟩ := hSt
            have hh : h' = S.length := by simpa using z1.symm
            subst hh
            rw [List.length_cons] at hl1 hS6
            have hm1 : (l1 - 1).toInt = (S.length : Int) := subI l1 _ (by omega)
            have hmn : (l1 - 1).toNatClampNeg = S.length := cl1 _ _ hm1
            refine Par.br (fun _ => ?_) (fun _ => Par.no)
            refine Par.bd (hR.adv hS hj hT hk0) (fun p hp => ?_)
            refine Par.br (fun _ => ?_) (fun _ => Par.no)
            rw [hmn]
            have hj1 := hS.go hj hk0
            -- the entry's row
            have h13 : ∀ (m2 : Nat) (s0 : Int32), m2 < n + 1 → (s0 = if b = true then 0 else 1) → Par (L_m_read K m2 13 l1 l2 (aopn S.length) 0 0 s0 0 ithrown ityped p.1 p.2.1 p.2.2.1 p.2.2.2 ifault imany idrafts isumMany atxt astm asm asgn aopn aopp) (RDQ ityped imany st0 sm0 k v (D, M, N, (i, b) :: S, j)) := by
              intro m2 s0 hm2 hs0
              have hx4 : (aopn S.length + 4).toNatClampNeg = 240 + 8 * i + 4 := adN _ 4 _ 4 z2 (by decide) (by omega)
              have hx5 : (aopn S.length + 5).toNatClampNeg = 240 + 8 * i + 5 := adN _ 5 _ 5 z2 (by decide) (by omega)
              have hx0 : (aopn S.length).toNatClampNeg = 240 + 8 * i := clN _ _ z2
              have hlo3 : ∀ (x : Int32) (p : Nat), p < 240 → upd (upd astm (aopn S.length + 4).toNatClampNeg x) (aopn S.length + 5).toNatClampNeg idrafts p = st0 p := by
                intro x p hp
                rw [hx4, hx5, upd_ne _ _ (by omega), upd_ne _ _ (by omega)]
                exact hlo1 p hp
              have hKD2 : ∀ x : Int32, (x = if b = true then astm (240 + 8 * i + 4) else idrafts) → RRel D (if b = true then M else upN M i D.length) (upN N i D.length) (upd (upd astm (aopn S.length + 4).toNatClampNeg x) (aopn S.length + 5).toNatClampNeg idrafts) asm isumMany.toInt := by
                intro x hx
                rw [hx4, hx5]
                exact hKD.close z4 hdr hx
              obtain ⟨y, hy⟩ : ∃ y : SRc, D[i]? = some y := ⟨D[i], List.getElem?_eq_getElem z4⟩
              have hyk : astm (240 + 8 * i) = y.1 := by
                obtain ⟨r9, cf9, b1, b2, _⟩ := hKD.1 i z4
                rw [hy] at b1
                rw [b2, Option.some.inj b1]
              have hkdo : kdO D i = some y.1 := by unfold kdO; rw [hy]; rfl
              have h15 : ∀ (m3 : Nat) (l4 x : Int32), m3 < n + 1 → (x = if b = true then astm (240 + 8 * i + 4) else idrafts) → ¬ (b = false ∧ kdO D i = some 2 ∧ k (j + 1) = 6) → Par (L_m_read K m3 15 l1 l2 (aopn S.length) l4 0 0 0 ithrown ityped p.1 p.2.1 p.2.2.1 p.2.2.2 ifault imany idrafts isumMany atxt (upd (upd astm (aopn S.length + 4).toNatClampNeg x) (aopn S.length + 5).toNatClampNeg idrafts) asm asgn aopn aopp) (RDQ ityped imany st0 sm0 k v (D, M, N, (i, b) :: S, j)) := by
                intro m3 l4 x hm3 hxx hno
                cases m3 with
                | zero => exact Par.no
                | succ m3 =>
                  rw [L_m_read_e15]; unfold B_m_read_15
                  cases m3 with
                  | zero => exact Par.no
                  | succ m3 =>
                    rw [L_m_read_e16]; unfold B_m_read_16
                    rw [subOne]
                    exact go18 m3 D _ _ S (j + 1) (l1 - 1) l2 ithrown _ _ _ _ ifault idrafts isumMany _ asm asgn aopn aopp (by omega) (s_cl hk hno) ⟨hw, hp, hj1, hm1, by omega, z5, hdr, hD, hKD2 x hxx, ⟨hsm, hsm3⟩, hlo3 x, hlo2⟩
              have h14 : ∀ (m3 : Nat) (l4 x : Int32), m3 < n + 1 → (x = if b = true then astm (240 + 8 * i + 4) else idrafts) → (l4 = if b = true then 0 else 1) → Par (L_m_read K m3 14 l1 l2 (aopn S.length) l4 0 x (aopn S.length + 4) ithrown ityped p.1 p.2.1 p.2.2.1 p.2.2.2 ifault imany idrafts isumMany atxt astm asm asgn aopn aopp) (RDQ ityped imany st0 sm0 k v (D, M, N, (i, b) :: S, j)) := by
                intro m3 l4 x hm3 hxx hl4
                cases m3 with
                | zero => exact Par.no
                | succ m3 =>
                  rw [L_m_read_e14]; unfold B_m_read_14
                  refine Par.br (fun _ => ?_) (fun _ => Par.no)
                  refine Par.br (fun _ => ?_) (fun _ => Par.no)
                  refine Par.br (fun h4 => ?_) (fun h4 => ?_)
                  · refine h15 m3 l4 x (by omega) hxx ?_
                    rintro ⟨hb2, _, _⟩
                    rw [hl4, hb2] at h4
                    exact absurd h4 (by decide)
                  · have hbf : b = false := by
                      cases b with
                      | false => rfl
                      | true => exact absurd hl4 h4
                    refine Par.br (fun _ => ?_) (fun _ => Par.no)
                    have hrow : upd (upd astm (aopn S.length + 4).toNatClampNeg x) (aopn S.length + 5).toNatClampNeg idrafts (aopn S.length).toNatClampNeg = y.1 := by
                      rw [hx0, hx4, hx5, upd_ne _ _ (by omega), upd_ne _ _ (by omega)]; exact hyk
                    rw [hrow]
                    refine Par.br (fun hy2 => ?_) (fun hy2 => ?_)
                    · refine Par.bd (T_m_isWell K hK ifault True.intro).pr (fun q5 hq5 => ?_)
                      rcases hq5 with ⟨hq5, _⟩ | ⟨_, h⟩
                      case inr => omega
                      refine Par.not (by rw [hq5]; decide) ?_
                      refine Par.br (fun h3 => ?_) (fun h3 => ?_)
                      · have hk6 : k (j + 1) = 6 := (hp.2.1.tk.2.2.2.1).mp h3
                        have hel : b = false ∧ kdO D i = some 2 ∧ k (j + 1) = 6 := ⟨hbf, by rw [hkdo, hy2], hk6⟩
                        have hk60 : k (j + 1) ≠ 0 ∧ k (j + 1) ≠ 1 := by rw [hk6]; decide
                        refine Par.bd (hR.adv hS hj1 hp hk60) (fun p2 hp2 => ?_)
                        refine Par.bd (E_m_takesSign hK hS (hS.go hj1 hk60) hR hp2 hw 123 sg123) (fun p3 hp3 => ?_)
                        refine Par.br (fun _ => ?_) (fun _ => Par.no)
                        rcases hp3 with ⟨c1, c2, c3⟩ | ⟨c1, c2, c3⟩
                        · have hj3 : j + 3 ≤ E := hS.go (hS.go hj1 hk60) (by rw [c1]; decide)
                          cases m3 with
                          | zero => exact Par.no
                          | succ m3 =>
                            rw [L_m_read_e16]; unfold B_m_read_16
                            refine go18 m3 D _ _ ((i, true) :: S) (j + 3) l1 l2 ithrown _ _ _ _ _ idrafts isumMany _ asm asgn aopn _ (by omega) (s_else hk hel c1) ⟨by rw [c3]; exact hw, c2, hj3, by rw [List.length_cons]; exact hl1, by rw [List.length_cons]; exact hS6, ⟨S.length, rfl, z2, ?_, z4, ?_⟩, hdr, hD, hKD2 x hxx, ⟨hsm, hsm3⟩, hlo3 x, hlo2⟩
                            · rw [hmn, upd_eq]; rfl
                            · rw [hmn]; exact z5.part (Nat.le_refl _)
                        · cases m3 with
                          | zero => exact Par.no
                          | succ m3 =>
                            rw [L_m_read_e16]; unfold B_m_read_16
                            exact (r18f K ityped imany atxt hK m3 l1 l2 ithrown p3.1 p3.2.1 p3.2.2.1 p3.2.2.2.1 p3.2.2.2.2 idrafts isumMany _ asm asgn aopn _ c2).mono (fun r hr => hr.fl (s_else1 hk hel c1) (hlo3 x) hlo2)
                      · refine h15 m3 l4 x (by omega) hxx ?_
                        rintro ⟨_, _, h6⟩
                        exact h3 ((hp.2.1.tk.2.2.2.1).mpr h6)
                    · refine h15 m3 l4 x (by omega) hxx ?_
                      rintro ⟨_, h6, _⟩
                      rw [hkdo] at h6
                      exact hy2 (Option.some.inj h6)
              cases m2 with
              | zero => exact Par.no
              | succ m2 =>
                rw [L_m_read_e13]; unfold B_m_read_13
                refine Par.br (fun hz9 => ?_) (fun hz9 => ?_)
                · refine Par.br (fun _ => ?_) (fun _ => Par.no)
                  refine h14 m2 s0 _ (by omega) ?_ hs0
                  cases b with
                  | true => show astm (aopn S.length + 4).toNatClampNeg = astm (240 + 8 * i + 4); rw [hx4]
                  | false => rw [hz9] at hs0; exact absurd hs0 (by decide)
                · refine h14 m2 s0 _ (by omega) ?_ hs0
                  cases b with
                  | true => exact absurd hs0 hz9
                  | false => rfl
            refine Par.br (fun hz0 => ?_) (fun hz0 => ?_)
            · refine h13 m 1 (by omega) ?_
              cases b with
              | false => rfl
              | true => rw [z3] at hz0; exact absurd hz0 (by decide)
            · refine h13 m 0 (by omega) ?_
              cases b with
              | true => rfl
              | false => exact absurd z3 hz0
      · refine Par.yes e1 (h17 m l2 ?_)
        have hk125 : k j ≠ 125 := by
          intro h
          have := (hQ.sign 125 sg125).mpr h
          rcases e2 with e2 | e2 | e2
          · omega
          · exact e2 this.1
          · exact e2 this.2
        rcases hb with hb | ⟨hb, hb2⟩
        · cases S with
          | nil => exact s_none hb (fun h => h0 h rfl)
          | cons x S => exact s_ncl hb hk125
        · exact s_full hb hb2
  -- statements
  have h5 : ∀ (m : Nat) (l2 l3 l4 l5 e2 e3 e4 e5 : Int32) (e6 e7 e8 : Int32) (f1 f2 f3 : Nat → Int32) (j1 : Nat) (w : SRc), m < n + 1 → e6.toInt < 0 → RTk k v nx j1 e2 e3 e4 e5 → j1 ≤ E → e7.toInt = ((D ++ [w]).length : Int) → D.length < 30 → RRel (D ++ [w]) M N f1 f2 e8.toInt → (0 ≤ e8.toInt ∧ e8.toInt ≤ 300) → (∀ p : Nat, p < 240 → f1 p = st0 p) → (∀ p : Nat, p < 300 → f2 p = sm0 p) → (k j1 = 59 → Rc2 k v (D, M, N, S, j) (D ++ [w], M, N, S, j1 + 1)) → (k j1 ≠ 59 → Fl2 k v (D, M, N, S, j)) →
      Par (L_m_read K m 5 l1 l2 l3 l4 l5 0 0 ithrown ityped e2 e3 e4 e5 e6 imany e7 e8 atxt f1 f2 f3 aopn aopp) (RDQ ityped imany st0 sm0 k v (D, M, N, S, j)) ∧ Par (L_m_read K m 6 l1 l2 l3 l4 l5 0 0 ithrown ityped e2 e3 e4 e5 e6 imany e7 e8 atxt f1 f2 f3 aopn aopp) (RDQ ityped imany st0 sm0 k v (D, M, N, S, j)) := by
    intro m l2 l3 l4 l5 e2 e3 e4 e5 e6 e7 e8 f1 f2 f3 j1 w hm he6 hT1 hj1 he7 hD30 hK1 he8 hf1 hf2 hy hn9
    have hfin : ∀ (m : Nat), m < n + 1 → Par ((F_m_takesSign K 59 ityped e2 e3 e4 e5 e6 atxt).bind (fun o_1 => L_m_read K m 11 l1 l2 l3 l4 l5 0 0 ithrown ityped o_1.1 o_1.2.1 o_1.2.2.1 o_1.2.2.2.1 o_1.2.2.2.2 imany e7 e8 atxt f1 f2 f3 aopn aopp)) (RDQ ityped imany st0 sm0 k v (D, M, N, S, j)) := by
      intro m hm
      refine Par.bd (E_m_takesSign hK hS hj1 hR hT1 he6 59 sg59) (fun p hp => ?_)
      rcases hp with ⟨c1, c2, c3⟩ | ⟨c1, c2, c3⟩
      · refine go11 m (D ++ [w]) M N S (j1 + 1) l1 l2 l3 l4 l5 ithrown _ _ _ _ _ e7 e8 f1 f2 f3 aopn aopp hm (hy c1) ⟨by rw [c3]; exact he6, c2, hS.go hj1 (by rw [c1]; decide), hl1, hS6, ?_, he7, ?_, hK1, he8, hf1, hf2⟩
        · rw [List.length_append, List.length_singleton]; exact hSt.mono (by omega)
        · rw [List.length_append, List.length_singleton]; omega
      · exact (r11f K ityped imany atxt hK m l1 l2 l3 l4 l5 ithrown p.1 p.2.1 p.2.2.1 p.2.2.2.1 p.2.2.2.2 e7 e8 f1 f2 f3 aopn aopp c2).mono (fun r hr => hr.fl (hn9 c1) hf1 hf2)
    cases m with
    | zero => exact ⟨Par.no, Par.no⟩
    | succ m =>
      rw [L_m_read_e5, L_m_read_e6]; unfold B_m_read_5 B_m_read_6
      exact ⟨hfin m (by omega), hfin m (by omega)⟩
  have h9 : ∀ (m : Nat) (l2 l3 l4 l5 e2 e3 e4 e5 : Int32) (e6 e7 e8 : Int32) (f1 f2 f3 : Nat → Int32) (j1 : Nat) (w : SRc), m < n + 1 → e6.toInt < 0 → RTk k v nx j1 e2 e3 e4 e5 → j1 ≤ E → l5.toInt = ((240 + 8 * D.length : Nat) : Int) → e7.toInt = ((D ++ [w]).length : Int) → D.length < 30 → RRel (D ++ [w]) M N f1 f2 e8.toInt → (0 ≤ e8.toInt ∧ e8.toInt ≤ 300) → (∀ p : Nat, p < 240 → f1 p = st0 p) → (∀ p : Nat, p < 300 → f2 p = sm0 p) → (k j1 = 123 ∧ S.length < 6 → Rc2 k v (D, M, N, S, j) (D ++ [w], M, N, (D.length, false) :: S, j1 + 1)) → (¬ (k j1 = 123 ∧ S.length < 6) → Fl2 k v (D, M, N, S, j)) →
      Par (L_m_read K m 9 l1 l2 l3 l4 l5 0 0 ithrown ityped e2 e3 e4 e5 e6 imany e7 e8 atxt f1 f2 f3 aopn aopp) (RDQ ityped imany st0 sm0 k v (D, M, N, S, j)) := by
    intro m l2 l3 l4 l5 e2 e3 e4 e5 e6 e7 e8 f1 f2 f3 j1 w hm he6 hT1 hj1 hl5 he7 hD30 hK1 he8 hf1 hf2 hy hn9
    cases m with
    | zero => exact Par.no
    | succ m =>
      rw [L_m_read_e9]; unfold B_m_read_9
      refine Par.bd (T_m_isSign K hK 123 e3 e5 e6 True.intro).pr (fun q2 hq2 => ?_)
      have hno : ¬ (k j1 = 123 ∧ S.length < 6) → Par (L_m_read K m 10 l1 l2 l3 l4 l5 0 0 ithrown ityped e2 e3 e4 e5 e6 imany e7 e8 atxt f1 f2 f3 aopn aopp) (RDQ ityped imany st0 sm0 k v (D, M, N, S, j)) :=
        fun h => (r10f K ityped imany atxt hK m l1 l2 l3 l4 l5 ithrown e2 e3 e4 e5 e6 e7 e8 f1 f2 f3 aopn aopp (Or.inr hT1.2.2)).mono (fun r hr => hr.fl (hn9 h) hf1 hf2)
      rcases hq2 with ⟨c1, _, c2, c3⟩ | ⟨c1, c2⟩
      · refine Par.not (by rw [c1]; decide) ?_
        have hk := (hT1.2.1.sign 123 sg123).mp ⟨c2, c3⟩
        refine Par.br (fun h6 => ?_) (fun h6 => ?_)
        · rw [Int32.le_iff_toInt_le] at h6
          simp only [Int32.reduceToInt] at h6
          exact hno (fun h => by omega)
        · rw [Int32.le_iff_toInt_le] at h6
          simp only [Int32.reduceToInt] at h6
          refine Par.br (fun _ => ?_) (fun _ => Par.no)
          refine Par.br (fun _ => ?_) (fun _ => Par.no)
          refine Par.bd (hR.adv hS hj1 hT1 (by rw [hk]; decide)) (fun p hp => ?_)
          have hln : l1.toNatClampNeg = S.length := cl1 _ _ hl1
          refine go11 m (D ++ [w]) M N ((D.length, false) :: S) (j1 + 1) (l1 + 1) l2 l3 l4 l5 ithrown _ _ _ _ e6 e7 e8 f1 f2 f3 _ _ (by omega) (hy ⟨hk, by omega⟩) ⟨he6, hp, hS.go hj1 (by rw [hk]; decide), ?_, ?_, ⟨S.length, rfl, ?_, ?_, ?_, ?_⟩, he7, ?_, hK1, he8, hf1, hf2⟩
          · rw [ad1 l1 S.length hl1 (by omega), List.length_cons]
          · rw [List.length_cons]; omega
          · rw [hln, upd_eq]; exact hl5
          · rw [hln, upd_eq]; rfl
          · rw [List.length_append, List.length_singleton]; omega
          · rw [hln]; exact hSt.ups (Nat.le_refl _) (by rw [List.length_append, List.length_singleton]; omega)
          · rw [List.length_append, List.length_singleton]; omega
      · refine Par.yes c1 (hno (fun h => ?_))
        have := (hT1.2.1.sign 123 sg123).mpr h.1
        rcases c2 with c2 | c2 | c2
        · omega
        · exact c2 this.1
        · exact c2 this.2
  have h4 : ∀ (m : Nat) (s0 : Int32), m < n + 1 → ((s0 = 1 ∧ begK (k j)) ∨ (s0 = 0 ∧ ¬ begK (k j))) → (k j = 0 → S ≠ []) → Par (L_m_read K m 4 l1 0 0 0 0 s0 0 ithrown ityped inext itoken iplace ivalue ifault imany idrafts isumMany atxt astm asm asgn aopn aopp) (RDQ ityped imany st0 sm0 k v (D, M, N, S, j)) := by
    intro m s0 hm hs0 h00
    cases m with
    | zero => exact Par.no
    | succ m =>
      rw [L_m_read_e4]; unfold B_m_read_4
      rcases hs0 with ⟨e1, hb⟩ | ⟨e1, hb⟩
      case inr => exact Par.yes e1 (h12 m s0 (by omega) (Or.inl hb) h00)
      refine Par.not (by rw [e1]; decide) ?_
      refine Par.br (fun h30 => ?_) (fun h30 => ?_)
      · rw [Int32.le_iff_toInt_le] at h30
        simp only [Int32.reduceToInt] at h30
        exact h12 m s0 (by omega) (Or.inr ⟨hb, by omega⟩) h00
      · rw [Int32.le_iff_toInt_le] at h30
        simp only [Int32.reduceToInt] at h30
        have hD30 : D.length < 30 := by omega
        have hk0 : k j ≠ 0 ∧ k j ≠ 1 := begK_n1 hb
        have hj1 := hS.go hj hk0
        refine Par.bd (hR.adv hS hj hT hk0) (fun p hp => ?_)
        refine Par.br (fun h5e => ?_) (fun h5e => Par.br (fun h1e => ?_) (fun h1e => ?_))
        · have hk2 := hQ.cell.1.mp h5e
          refine Par.bd (E_m_begins K hK 0 ivalue idrafts astm D.length hdr hD30) (fun b hbb => ?_)
          refine Par.bd (E_m_takesSign hK hS hj1 hR hp hw 61 sg61) (fun s hs => ?_)
          refine Par.bd (T_m_isWell K hK s.2.2.2.2 True.intro).pr (fun q5 hq5 => ?_)
          rcases hs with ⟨c1, c2, c3⟩ | ⟨c1, c2, c3⟩
          · rcases hq5 with ⟨hq5, _⟩ | ⟨_, h⟩
            case inr => rw [c3] at h; omega
            refine Par.not (by rw [hq5]; decide) ?_
            have hj2 : j + 2 ≤ E := hS.go hj1 (by rw [c1]; decide)
            have hw2 : s.2.2.2.2.toInt < 0 := by rw [c3]; exact hw
            refine Par.bd (M_sum K hK E k v nx b.1 ityped s.1 s.2.1 s.2.2.1 s.2.2.2.1 s.2.2.2.2 isumMany atxt b.2.2 asm asgn (j + 2) hS hR hw2 c2 hj2 hsm) (fun u hu => ?_)
            rcases hu with ⟨d1, d2, d3, d4⟩ | ⟨d1, j', e, d2, d3, d4, d5, d6⟩
            · obtain ⟨xx, hxx⟩ := d4
              exact (r5f K ityped imany atxt hK m l1 s0 itoken ivalue b.1 ithrown u.1 u.2.1 u.2.2.1 u.2.2.2.1 u.2.2.2.2.1 b.2.1 u.2.2.2.2.2.1 u.2.2.2.2.2.2.1 u.2.2.2.2.2.2.2.1 u.2.2.2.2.2.2.2.2 aopn aopp d1).mono (fun r hr => hr.fl (s_set2 hk2 hD30 c1 d2) (by rw [hxx]; exact sum_low hbb.1 hD30 (hbb.2.2.low hlo1)) (fun p hp => by rw [d3 p hp]; exact hlo2 p hp))
            · refine (h5 m s0 itoken ivalue b.1 _ _ _ _ _ b.2.1 _ _ _ _ j' (0, v j, e, parO S) (by omega) d1 d4 d3 (by rw [List.length_append, List.length_singleton]; exact hbb.2.1) hD30 ?_ ⟨d5.nn, d5.top hsm3⟩ ?_ (d5.lows hlo2) (fun h59 => s_set hk2 hD30 c1 d2 h59) (fun h59 => s_set3 hk2 hD30 c1 d2 h59)).1
              · have hb2 := hbb.2.2
                rw [hQ.cell.2 hk2] at hb2
                exact hKD.sum hsm hD30 (by decide) hb2 hbb.1 d5 d6
              · rw [d6]; exact sum_low hbb.1 hD30 (hbb.2.2.low hlo1)
          · rcases hq5 with ⟨_, h⟩ | ⟨hq5, _⟩
            · omega
            · refine Par.yes hq5 ?_
              exact (r5f K ityped imany atxt hK m l1 s0 itoken ivalue b.1 ithrown s.1 s.2.1 s.2.2.1 s.2.2.2.1 s.2.2.2.2 b.2.1 isumMany b.2.2 asm asgn aopn aopp c2).mono (fun r hr => hr.fl (s_set1 hk2 hD30 c1) (hbb.2.2.low hlo1) hlo2)
        · have hk4 := hQ.tk.2.1.mp h1e
          refine Par.bd (E_m_takesNumber hK hS hj1 hR hp hw 3) (fun s hs => ?_)
          refine Par.bd (E_m_begins K hK 1 s.1 idrafts astm D.length hdr hD30) (fun b hbb => ?_)
          refine Par.bd (T_m_isWell K hK s.2.2.2.2.2 True.intro).pr (fun q5 hq5 => ?_)
          rcases hs with ⟨c1, c0, c2, c3⟩ | ⟨c1, c2, c3⟩
          · rcases hq5 with ⟨hq5, _⟩ | ⟨_, h⟩
            case inr => rw [c3] at h; omega
            refine Par.not (by rw [hq5]; decide) ?_
            have hj2 : j + 2 ≤ E := hS.go hj1 (by rw [c1.1]; decide)
            have hw2 : s.2.2.2.2.2.toInt < 0 := by rw [c3]; exact hw
            refine Par.bd (M_sum K hK E k v nx b.1 ityped s.2.1 s.2.2.1 s.2.2.2.1 s.2.2.2.2.1 s.2.2.2.2.2 isumMany atxt b.2.2 asm asgn (j + 2) hS hR hw2 c2 hj2 hsm) (fun u hu => ?_)
            rcases hu with ⟨d1, d2, d3, d4⟩ | ⟨d1, j', e, d2, d3, d4, d5, d6⟩
            · obtain ⟨xx, hxx⟩ := d4
              exact (r6f K ityped imany atxt hK m l1 s0 itoken ivalue b.1 ithrown u.1 u.2.1 u.2.2.1 u.2.2.2.1 u.2.2.2.2.1 b.2.1 u.2.2.2.2.2.1 u.2.2.2.2.2.2.1 u.2.2.2.2.2.2.2.1 u.2.2.2.2.2.2.2.2 aopn aopp d1).mono (fun r hr => hr.fl (s_out2 hk4 hD30 c1 d2) (by rw [hxx]; exact sum_low hbb.1 hD30 (hbb.2.2.low hlo1)) (fun p hp => by rw [d3 p hp]; exact hlo2 p hp))
            · refine (h5 m s0 itoken ivalue b.1 _ _ _ _ _ b.2.1 _ _ _ _ j' (1, v (j + 1), e, parO S) (by omega) d1 d4 d3 (by rw [List.length_append, List.length_singleton]; exact hbb.2.1) hD30 ?_ ⟨d5.nn, d5.top hsm3⟩ ?_ (d5.lows hlo2) (fun h59 => s_out hk4 hD30 c1 d2 h59) (fun h59 => s_out3 hk4 hD30 c1 d2 h59)).2
              · have hb2 := hbb.2.2
                rw [c0] at hb2
                exact hKD.sum hsm hD30 (by decide) hb2 hbb.1 d5 d6
              · rw [d6]; exact sum_low hbb.1 hD30 (hbb.2.2.low hlo1)
          · rcases hq5 with ⟨_, h⟩ | ⟨hq5, _⟩
            · omega
            · refine Par.yes hq5 ?_
              exact (r6f K ityped imany atxt hK m l1 s0 itoken ivalue b.1 ithrown s.2.1 s.2.2.1 s.2.2.2.1 s.2.2.2.2.1 s.2.2.2.2.2 b.2.1 isumMany b.2.2 asm asgn aopn aopp c2).mono (fun r hr => hr.fl (s_out1 hk4 hD30 c1) (hbb.2.2.low hlo1) hlo2)
        · have hk2 : k j ≠ 2 := fun h => h5e (hQ.cell.1.mpr h)
          have hk4 : k j ≠ 4 := fun h => h1e (hQ.tk.2.1.mpr h)
          refine Par.br (fun h2e => ?_) (fun h2e => ?_)
          · have hk5 := hQ.tk.2.2.1.mp h2e
            cases m with
            | zero => exact Par.no
            | succ m =>
              rw [L_m_read_e7]; unfold B_m_read_7
              refine Par.yes h2e ?_
              cases m with
              | zero => exact Par.no
              | succ m =>
                rw [L_m_read_e8]; unfold B_m_read_8
                refine Par.bd (E_m_begins K hK 2 0 idrafts astm D.length hdr hD30) (fun b hbb => ?_)
                refine Par.yes h2e ?_
                refine Par.bd (T_m_isWell K hK ifault True.intro).pr (fun q5 hq5 => ?_)
                rcases hq5 with ⟨hq5, _⟩ | ⟨_, h⟩
                case inr => omega
                refine Par.not (by rw [hq5]; decide) ?_
                refine Par.bd (M_sum K hK E k v nx b.1 ityped p.1 p.2.1 p.2.2.1 p.2.2.2 ifault isumMany atxt b.2.2 asm asgn (j + 1) hS hR hw hp hj1 hsm) (fun u hu => ?_)
                rcases hu with ⟨d1, d2, d3, d4⟩ | ⟨d1, j', e, d2, d3, d4, d5, d6⟩
                · obtain ⟨xx, hxx⟩ := d4
                  exact (r9f K ityped imany atxt hK m l1 s0 itoken ivalue b.1 ithrown u.1 u.2.1 u.2.2.1 u.2.2.2.1 u.2.2.2.2.1 b.2.1 u.2.2.2.2.2.1 u.2.2.2.2.2.2.1 u.2.2.2.2.2.2.2.1 u.2.2.2.2.2.2.2.2 aopn aopp d1).mono (fun r hr => hr.fl (s_if2 hk5 hD30 d2) (by rw [hxx]; exact sum_low hbb.1 hD30 (hbb.2.2.low hlo1)) (fun p hp => by rw [d3 p hp]; exact hlo2 p hp))
                · refine h9 m s0 itoken ivalue b.1 _ _ _ _ _ b.2.1 _ _ _ _ j' (2, 0, e, parO S) (by omega) d1 d4 d3 hbb.1 (by rw [List.length_append, List.length_singleton]; exact hbb.2.1) hD30 ?_ ⟨d5.nn, d5.top hsm3⟩ ?_ (d5.lows hlo2) (fun h9e => s_if hk5 hD30 d2 h9e) (fun h9e => s_if3 hk5 hD30 d2 h9e)
                  · exact hKD.sum hsm hD30 (by decide) hbb.2.2 hbb.1 d5 d6
                  · rw [d6]; exact sum_low hbb.1 hD30 (hbb.2.2.low hlo1)
          · have hk5 : k j ≠ 5 := fun h => h2e (hQ.tk.2.2.1.mpr h)
            have hk7 : k j = 7 := by
              rcases hb with h | h | h | h
              · exact absurd h hk2
              · exact absurd h hk4
              · exact absurd h hk5
              · exact h
            cases m with
            | zero => exact Par.no
            | succ m =>
              rw [L_m_read_e7]; unfold B_m_read_7
              refine Par.not h2e ?_
              refine Par.bd (E_m_takesNumber hK hS hj1 hR hp hw 8) (fun s hs => ?_)
              cases m with
              | zero => exact Par.no
              | succ m =>
                rw [L_m_read_e8]; unfold B_m_read_8
                refine Par.bd (E_m_begins K hK 3 s.1 idrafts astm D.length hdr hD30) (fun b hbb => ?_)
                refine Par.not h2e ?_
                rcases hs with ⟨c1, c0, c2, c3⟩ | ⟨c1, c2, c3⟩
                · have hj2 : j + 2 ≤ E := hS.go hj1 (by rw [c1.1]; decide)
                  refine h9 m s0 itoken ivalue b.1 _ _ _ _ _ b.2.1 isumMany b.2.2 asm asgn (j + 2) (3, v (j + 1), [], parO S) (by omega) (by rw [c3]; exact hw) c2 hj2 hbb.1 (by rw [List.length_append, List.length_singleton]; exact hbb.2.1) hD30 ?_ ⟨hsm, hsm3⟩ (hbb.2.2.low hlo1) hlo2 (fun h9e => s_loop hk7 hD30 c1 h9e) (fun h9e => s_loop3 hk7 hD30 c1 h9e)
                  have hb2 := hbb.2.2
                  rw [c0] at hb2
                  exact hKD.loop hsm hb2
                · exact (r9f K ityped imany atxt hK m l1 s0 itoken ivalue b.1 ithrown s.2.1 s.2.2.1 s.2.2.2.1 s.2.2.2.2.1 s.2.2.2.2.2 b.2.1 isumMany b.2.2 asm asgn aopn aopp c2).mono (fun r hr => hr.fl (s_loop1 hk7 hD30 c1) (hbb.2.2.low hlo1) hlo2)
  have h2 : ∀ (m : Nat), m < n + 1 → (k j = 0 → S ≠ []) → Par (L_m_read K m 2 l1 0 0 0 0 0 0 ithrown ityped inext itoken iplace ivalue ifault imany idrafts isumMany atxt astm asm asgn aopn aopp) (RDQ ityped imany st0 sm0 k v (D, M, N, S, j)) := by
    intro m hm h00
    cases m with
    | zero => exact Par.no
    | succ m =>
      rw [L_m_read_e2]; unfold B_m_read_2
      have h3 : begK (k j) → Par (L_m_read K m 3 l1 0 0 0 0 0 0 ithrown ityped inext itoken iplace ivalue ifault imany idrafts isumMany atxt astm asm asgn aopn aopp) (RDQ ityped imany st0 sm0 k v (D, M, N, S, j)) := by
        intro hb
        cases m with
        | zero => exact Par.no
        | succ m =>
          rw [L_m_read_e3]; unfold B_m_read_3
          exact h4 m 1 (by omega) (Or.inl ⟨rfl, hb⟩) h00
      refine Par.br (fun a => h3 (Or.inl (hQ.cell.1.mp a))) (fun a1 => Par.br (fun a => h3 (Or.inr (Or.inl (hQ.tk.2.1.mp a)))) (fun a2 => Par.br (fun a => h3 (Or.inr (Or.inr (Or.inl (hQ.tk.2.2.1.mp a))))) (fun a3 => Par.br (fun a => h3 (Or.inr (Or.inr (Or.inr (hQ.tk.2.2.2.2.mp a))))) (fun a4 => ?_))))
      refine h4 m 0 (by omega) (Or.inr ⟨rfl, ?_⟩) h00
      rintro (h | h | h | h)
      · exact a1 (hQ.cell.1.mpr h)
      · exact a2 (hQ.tk.2.1.mpr h)
      · exact a3 (hQ.tk.2.2.1.mpr h)
      · exact a4 (hQ.tk.2.2.2.2.mpr h)
  refine Par.br (fun h0 => ?_) (fun h0 => ?_)
  · have hk0 := hQ.tk.1.mp h0
    refine Par.br (fun hle => ?_) (fun hle => ?_)
    · rw [Int32.le_iff_toInt_le] at hle
      simp only [Int32.reduceToInt] at hle
      have : S = [] := by
        cases S with
        | nil => rfl
        | cons x S => rw [List.length_cons] at hl1; omega
      subst this
      cases n with
      | zero => exact Par.no
      | succ n =>
        rw [L_m_read_e19]; unfold B_m_read_19
        refine Par.bd (T_m_isWell K hK ifault True.intro).pr (fun q5 hq5 => ?_)
        rcases hq5 with ⟨hq5, _⟩ | ⟨_, h⟩
        case inr => omega
        refine Par.not (by rw [hq5]; decide) ?_
        refine (r20 K ityped imany atxt n l1 ithrown inext itoken iplace ivalue ifault idrafts isumMany asm asgn aopn aopp astm 0 0 astm rfl (by omega) (fun p hp => by omega) (fun _ _ => rfl)).mono (fun r hr => Or.inr ⟨hr.1, D, M, N, j, s_end hk0, by rw [hr.2.1]; exact hdr, hD, fun i hi => (hKD.1 i hi).fin hsm3 hD hr.2.2.1 hr.2.2.2⟩)
    · rw [Int32.le_iff_toInt_le] at hle
      simp only [Int32.reduceToInt] at hle
      refine h2 n (by omega) (fun _ h => ?_)
      rw [h] at hl1
      simp at hl1
      omega
  · exact h2 n (by omega) (fun h => absurd (hQ.tk.1.mpr h) h0)
/-- the reference's read, whole -/
theorem N_read (K : Nat) (hK : 1000000000 ≤ K) (E : Nat) (k v nx : Nat → Int32) (ithrown ityped inext itoken iplace ivalue ifault imany idrafts isumMany : Int32) (atxt astm asm asgn aopn aopp : Nat → Int32) (hS : STR2 E k v) (hR : RStq K E ityped atxt k v nx) (h0 : ∀ itoken iplace ivalue : Int32, Par (F_m_advances K ityped 0 itoken iplace ivalue atxt) (fun r => RTk k v nx 0 r.1 r.2.1 r.2.2.1 r.2.2.2)) :
    Par (F_m_read K ithrown ityped inext itoken iplace ivalue ifault imany idrafts isumMany atxt astm asm asgn aopn aopp) (RDQ ityped imany astm asm k v ([], fun _ => 0, fun _ => 0, [], 0)) := by
  unfold F_m_read
  obtain ⟨n, hn⟩ : ∃ n9, K = n9 + 1 := ⟨K - 1, by omega⟩
  generalize hz : L_m_read K K 0 0 0 0 0 0 0 0 ithrown ityped inext itoken iplace ivalue ifault imany idrafts isumMany atxt astm asm asgn aopn aopp = z
  have hz2 : z = L_m_read K (n + 1) 0 0 0 0 0 0 0 0 ithrown ityped inext itoken iplace ivalue ifault imany idrafts isumMany atxt astm asm asgn aopn aopp := by rw [← hn, hz]
  rw [hz2, L_m_read_e0]; unfold B_m_read_0
  refine Par.bd (h0 itoken iplace ivalue) (fun p hp => ?_)
  exact N_1 K hK E k v nx ityped imany atxt astm asm hS hR n [] (fun _ => 0) (fun _ => 0) [] 0 0 0 _ _ _ _ (-1) 0 0 astm asm asgn aopn aopp ⟨by decide, hp, Nat.zero_le _, rfl, by simp, rfl, rfl, by simp, ⟨fun i hi => by simp at hi, fun i _ => ⟨rfl, rfl⟩⟩, ⟨by decide, by decide⟩, fun _ _ => rfl, fun _ _ => rfl⟩
