/-! p3: the reference's loop of statements, step by step with the machine -/
def RDQ (ityped : Int32) (k v : Nat → Int32) (c : TCg) (r : R16) : Prop :=
  (r.2.2.1 = ityped ∧ Fl2 k v c) ∨ (r.2.2.1 = 0 ∧ ∃ (D' : List Int32) (j' : Nat), Hl2 k v c (D', j') ∧ r.2.2.2.2.2.2.2.2.1.toInt = (D'.length : Int))
theorem RDQ.back {ityped : Int32} {k v : Nat → Int32} {c d : TCg} {r : R16} (h : Rc2 k v c d) (hr : RDQ ityped k v d r) : RDQ ityped k v c r := by
  rcases hr with ⟨h1, h2⟩ | ⟨h1, D', j', h2, h3⟩
  · exact Or.inl ⟨h1, h.fl h2⟩
  · exact Or.inr ⟨h1, D', j', h.hl h2, h3⟩
def NIv (E : Nat) (k v nx : Nat → Int32) (D : List Int32) (S : List (Nat × Bool)) (j : Nat) (l1 inext itoken iplace ivalue ifault idrafts isumMany : Int32) (astm aopn aopp : Nat → Int32) : Prop :=
  ifault.toInt < 0 ∧ RTk k v nx j inext itoken iplace ivalue ∧ j ≤ E ∧ l1.toInt = (S.length : Int) ∧ S.length ≤ 6 ∧ StkO S aopn aopp D.length S.length ∧ idrafts.toInt = (D.length : Int) ∧ D.length ≤ 30 ∧ KDr D astm ∧ 0 ≤ isumMany.toInt
theorem KDr.sum {D : List Int32} {astm : Nat → Int32} {at_ : Int32} {w x y : Int32} (h : KDr (D ++ [w]) astm) (ha : at_.toInt = ((240 + 8 * D.length : Nat) : Int)) (hD : D.length < 30) : KDr (D ++ [w]) (upd (upd astm (at_ + 2).toNatClampNeg x) (at_ + 3).toNatClampNeg y) := by
  rw [adN _ 2 _ 2 ha (by decide) (by omega), adN _ 3 _ 3 ha (by decide) (by omega)]
  refine (h.up x (fun i hi => ?_)).up y (fun i hi => ?_) <;> omega
theorem begK_n1 {x : Int32} (h : begK x) : x ≠ 0 ∧ x ≠ 1 := by
  rcases h with rfl | rfl | rfl | rfl <;> decide
theorem sg61 : sgq 61 := by unfold sgq; decide
theorem sg59 : sgq 59 := by unfold sgq; decide
theorem sg123 : sgq 123 := by unfold sgq; decide
theorem sg125 : sgq 125 := by unfold sgq; decide
set_option maxHeartbeats 4000000 in
set_option maxRecDepth 100000 in
theorem N_1 (K : Nat) (hK : 1000000000 ≤ K) (E : Nat) (k v nx : Nat → Int32) (ityped imany : Int32) (atxt : Nat → Int32) (hS : STR2 E k v) (hR : RStq K E ityped atxt k v nx) :
    ∀ (n : Nat) (D : List Int32) (S : List (Nat × Bool)) (j : Nat) (l1 ithrown inext itoken iplace ivalue ifault idrafts isumMany : Int32) (astm asm asgn aopn aopp : Nat → Int32),
    NIv E k v nx D S j l1 inext itoken iplace ivalue ifault idrafts isumMany astm aopn aopp →
    Par (L_m_read K n 1 l1 0 0 0 0 0 0 ithrown ityped inext itoken iplace ivalue ifault imany idrafts isumMany atxt astm asm asgn aopn aopp) (RDQ ityped k v (D, S, j)) := by
  intro n
  induction n using Nat.strongRecOn with
  | _ n ih =>
  intro D S j l1 ithrown inext itoken iplace ivalue ifault idrafts isumMany astm asm asgn aopn aopp hI
  obtain ⟨hw, hT, hj, hl1, hS6, hSt, hdr, hD, hKD, hsm⟩ := hI
  cases n with
  | zero => exact Par.no
  | succ n =>
  have hQ := hT.2.1
  have hpl := hT.2.2
  have go18 : ∀ (m : Nat) (D' : List Int32) (S' : List (Nat × Bool)) (j' : Nat) (a1 a2 e1 e2 e3 e4 e5 e6 e7 e8 : Int32) (f1 f2 f3 f4 f5 : Nat → Int32), m < n + 1 → Rc2 k v (D, S, j) (D', S', j') → NIv E k v nx D' S' j' a1 e2 e3 e4 e5 e6 e7 e8 f1 f4 f5 → Par (L_m_read K m 18 a1 a2 0 0 0 0 0 e1 ityped e2 e3 e4 e5 e6 imany e7 e8 atxt f1 f2 f3 f4 f5) (RDQ ityped k v (D, S, j)) := by
    intro m D' S' j' a1 a2 e1 e2 e3 e4 e5 e6 e7 e8 f1 f2 f3 f4 f5 hm hr hi
    cases m with
    | zero => exact Par.no
    | succ m =>
      rw [L_m_read_e18]; unfold B_m_read_18
      exact (ih m (by omega) D' S' j' a1 e1 e2 e3 e4 e5 e6 e7 e8 f1 f2 f3 f4 f5 hi).mono (fun r9 h9 => RDQ.back hr h9)
  have go11 : ∀ (m : Nat) (D' : List Int32) (S' : List (Nat × Bool)) (j' : Nat) (a1 a2 a3 a4 a5 e1 e2 e3 e4 e5 e6 e7 e8 : Int32) (f1 f2 f3 f4 f5 : Nat → Int32), m < n + 1 → Rc2 k v (D, S, j) (D', S', j') → NIv E k v nx D' S' j' a1 e2 e3 e4 e5 e6 e7 e8 f1 f4 f5 → Par (L_m_read K m 11 a1 a2 a3 a4 a5 0 0 e1 ityped e2 e3 e4 e5 e6 imany e7 e8 atxt f1 f2 f3 f4 f5) (RDQ ityped k v (D, S, j)) := by
    intro m D' S' j' a1 a2 a3 a4 a5 e1 e2 e3 e4 e5 e6 e7 e8 f1 f2 f3 f4 f5 hm hr hi
    cases m with
    | zero => exact Par.no
    | succ m =>
      rw [L_m_read_e11]; unfold B_m_read_11
      exact go18 m D' S' j' a1 a2 e1 e2 e3 e4 e5 e6 e7 e8 f1 f2 f3 f4 f5 (by omega) hr hi
  rw [L_m_read_e1]; unfold B_m_read_1
  refine Par.bd (T_m_isWell K hK ifault True.intro).pr (fun q hq => ?_)
  rcases hq with ⟨hq, _⟩ | ⟨_, h⟩
  case inr => omega
  refine Par.not (by rw [hq]; decide) ?_
  -- what closes
  have h17 : ∀ (m : Nat) (l2 : Int32), Fl2 k v (D, S, j) → Par (L_m_read K m 17 l1 l2 0 0 0 0 0 ithrown ityped inext itoken iplace ivalue ifault imany idrafts isumMany atxt astm asm asgn aopn aopp) (RDQ ityped k v (D, S, j)) :=
    fun m l2 hf => (r17f K ityped imany atxt hK m l1 l2 ithrown inext itoken iplace ivalue ifault idrafts isumMany astm asm asgn aopn aopp (Or.inr hpl)).mono (fun r hr => Or.inl ⟨hr, hf⟩)
  have h12 : ∀ (m : Nat) (l2 : Int32), m < n + 1 → (¬ begK (k j) ∨ (begK (k j) ∧ ¬ D.length < 30)) → (k j = 0 → S ≠ []) → Par (L_m_read K m 12 l1 l2 0 0 0 0 0 ithrown ityped inext itoken iplace ivalue ifault imany idrafts isumMany atxt astm asm asgn aopn aopp) (RDQ ityped k v (D, S, j)) := by
    intro m l2 hm hb h0
    cases m with
    | zero => exact Par.no
    | succ m =>
      rw [L_m_read_e12]; unfold B_m_read_12
      refine Par.bd (T_m_isSign K hK 125 itoken ivalue ifault True.intro).pr (fun q2 hq2 => ?_)
      rcases hq2 with ⟨e1, _, e2, e3⟩ | ⟨e1, e2⟩
      · refine Par.not (by rw [e1]; decide) ?_
        have hk : k j = 125 := (hQ.sign 125 sg125).mp ⟨e2, e3⟩
        have hnb : ¬ begK (k j) := by rw [hk]; unfold begK; decide
        have hk0 : k j ≠ 0 ∧ k j ≠ 1 := by rw [hk]; decide
        refine Par.br (fun hle => ?_) (fun hle => ?_)
        · rw [Int32.le_iff_toInt_le] at hle
          simp only [Int32.reduceToInt] at hle
          have : S = [] := by
            cases S with
            | nil => rfl
            | cons x S => rw [List.length_cons] at hl1; omega
          subst this
          exact h17 m l2 (s_none hnb hk0.1)
        · rw [Int32.le_iff_toInt_le] at hle
          simp only [Int32.reduceToInt] at hle
          cases S with
          | nil => simp at hl1; omega
          | cons x S =>
            obtain ⟨i, b⟩ := x
            obtain ⟨h', z1, z2, z3, z4, z5⟩ := hSt
            have hh : h' = S.length := by simpa using z1.symm
            subst hh
            rw [List.length_cons] at hl1 hS6
            have hm1 : (l1 - 1).toInt = (S.length : Int) := subI l1 _ (by omega)
            have hmn : (l1 - 1).toNatClampNeg = S.length := cl1 _ _ hm1
            refine Par.br (fun _ => ?_) (fun _ => Par.no)
            refine Par.bd (hR.adv hS hj hT hk0) (fun p hp => ?_)
            refine Par.br (fun _ => ?_) (fun _ => Par.no)
            rw [hmn]
            have hj1 := hS.go hj hk0
            -- the entry's row
            have h13 : ∀ (m2 : Nat) (s0 : Int32), m2 < n + 1 → (s0 = if b = true then 0 else 1) → Par (L_m_read K m2 13 l1 l2 (aopn S.length) 0 0 s0 0 ithrown ityped p.1 p.2.1 p.2.2.1 p.2.2.2 ifault imany idrafts isumMany atxt astm asm asgn aopn aopp) (RDQ ityped k v (D, (i, b) :: S, j)) := by
              intro m2 s0 hm2 hs0
              have hx4 : (aopn S.length + 4).toNatClampNeg = 240 + 8 * i + 4 := adN _ 4 _ 4 z2 (by decide) (by omega)
              have hx5 : (aopn S.length + 5).toNatClampNeg = 240 + 8 * i + 5 := adN _ 5 _ 5 z2 (by decide) (by omega)
              have hx0 : (aopn S.length).toNatClampNeg = 240 + 8 * i := clN _ _ z2
              have hKD2 : ∀ x : Int32, KDr D (upd (upd astm (aopn S.length + 4).toNatClampNeg x) (aopn S.length + 5).toNatClampNeg idrafts) := by
                intro x
                rw [hx4, hx5]
                exact (hKD.up x (fun i2 hi2 => by omega)).up idrafts (fun i2 hi2 => by omega)
              have hDi : ∃ y : Int32, D[i]? = some y := ⟨D[i], List.getElem?_eq_getElem z4⟩
              obtain ⟨y, hy⟩ := hDi
              have h15 : ∀ (m3 : Nat) (l4 x : Int32), m3 < n + 1 → ¬ (b = false ∧ D[i]? = some 2 ∧ k (j + 1) = 6) → Par (L_m_read K m3 15 l1 l2 (aopn S.length) l4 0 0 0 ithrown ityped p.1 p.2.1 p.2.2.1 p.2.2.2 ifault imany idrafts isumMany atxt (upd (upd astm (aopn S.length + 4).toNatClampNeg x) (aopn S.length + 5).toNatClampNeg idrafts) asm asgn aopn aopp) (RDQ ityped k v (D, (i, b) :: S, j)) := by
                intro m3 l4 x hm3 hno
                cases m3 with
                | zero => exact Par.no
                | succ m3 =>
                  rw [L_m_read_e15]; unfold B_m_read_15
                  cases m3 with
                  | zero => exact Par.no
                  | succ m3 =>
                    rw [L_m_read_e16]; unfold B_m_read_16
                    rw [subOne]
                    exact go18 m3 D S (j + 1) (l1 - 1) l2 ithrown _ _ _ _ ifault idrafts isumMany _ asm asgn aopn aopp (by omega) (s_cl hk hno) ⟨hw, hp, hj1, hm1, by omega, z5, hdr, hD, hKD2 x, hsm⟩
              have h14 : ∀ (m3 : Nat) (l4 x : Int32), m3 < n + 1 → (l4 = if b = true then 0 else 1) → Par (L_m_read K m3 14 l1 l2 (aopn S.length) l4 0 x (aopn S.length + 4) ithrown ityped p.1 p.2.1 p.2.2.1 p.2.2.2 ifault imany idrafts isumMany atxt astm asm asgn aopn aopp) (RDQ ityped k v (D, (i, b) :: S, j)) := by
                intro m3 l4 x hm3 hl4
                cases m3 with
                | zero => exact Par.no
                | succ m3 =>
                  rw [L_m_read_e14]; unfold B_m_read_14
                  refine Par.br (fun _ => ?_) (fun _ => Par.no)
                  refine Par.br (fun _ => ?_) (fun _ => Par.no)
                  refine Par.br (fun h4 => ?_) (fun h4 => ?_)
                  · refine h15 m3 l4 x (by omega) ?_
                    rintro ⟨hb2, _, _⟩
                    rw [hl4, hb2] at h4
                    exact absurd h4 (by decide)
                  · have hbf : b = false := by
                      cases b with
                      | false => rfl
                      | true => exact absurd hl4 h4
                    refine Par.br (fun _ => ?_) (fun _ => Par.no)
                    have hrow : upd (upd astm (aopn S.length + 4).toNatClampNeg x) (aopn S.length + 5).toNatClampNeg idrafts (aopn S.length).toNatClampNeg = y := by
                      rw [hx0]; exact hKD2 x i y hy
                    rw [hrow]
                    refine Par.br (fun hy2 => ?_) (fun hy2 => ?_)
                    · refine Par.bd (T_m_isWell K hK ifault True.intro).pr (fun q5 hq5 => ?_)
                      rcases hq5 with ⟨hq5, _⟩ | ⟨_, h⟩
                      case inr => omega
                      refine Par.not (by rw [hq5]; decide) ?_
                      refine Par.br (fun h3 => ?_) (fun h3 => ?_)
                      · have hk6 : k (j + 1) = 6 := (hp.2.1.tk.2.2.2.1).mp h3
                        have hel : b = false ∧ D[i]? = some 2 ∧ k (j + 1) = 6 := ⟨hbf, by rw [hy, hy2], hk6⟩
                        have hk60 : k (j + 1) ≠ 0 ∧ k (j + 1) ≠ 1 := by rw [hk6]; decide
                        refine Par.bd (hR.adv hS hj1 hp hk60) (fun p2 hp2 => ?_)
                        refine Par.bd (E_m_takesSign hK hS (hS.go hj1 hk60) hR hp2 hw 123 sg123) (fun p3 hp3 => ?_)
                        refine Par.br (fun _ => ?_) (fun _ => Par.no)
                        rcases hp3 with ⟨c1, c2, c3⟩ | ⟨c1, c2, c3⟩
                        · have hj3 : j + 3 ≤ E := hS.go (hS.go hj1 hk60) (by rw [c1]; decide)
                          cases m3 with
                          | zero => exact Par.no
                          | succ m3 =>
                            rw [L_m_read_e16]; unfold B_m_read_16
                            refine go18 m3 D ((i, true) :: S) (j + 3) l1 l2 ithrown _ _ _ _ _ idrafts isumMany _ asm asgn aopn _ (by omega) (s_else hk hel c1) ⟨by rw [c3]; exact hw, c2, hj3, by rw [List.length_cons]; exact hl1, by rw [List.length_cons]; exact hS6, ⟨S.length, rfl, z2, ?_, z4, ?_⟩, hdr, hD, hKD2 x, hsm⟩
                            · rw [hmn, upd_eq]; rfl
                            · rw [hmn]; exact z5.part (Nat.le_refl _)
                        · cases m3 with
                          | zero => exact Par.no
                          | succ m3 =>
                            rw [L_m_read_e16]; unfold B_m_read_16
                            exact (r18f K ityped imany atxt hK m3 l1 l2 ithrown p3.1 p3.2.1 p3.2.2.1 p3.2.2.2.1 p3.2.2.2.2 idrafts isumMany _ asm asgn aopn _ c2).mono (fun r hr => Or.inl ⟨hr, s_else1 hk hel c1⟩)
                      · refine h15 m3 l4 x (by omega) ?_
                        rintro ⟨_, _, h6⟩
                        exact h3 ((hp.2.1.tk.2.2.2.1).mpr h6)
                    · refine h15 m3 l4 x (by omega) ?_
                      rintro ⟨_, h6, _⟩
                      rw [hy] at h6
                      exact hy2 (Option.some.inj h6)
              cases m2 with
              | zero => exact Par.no
              | succ m2 =>
                rw [L_m_read_e13]; unfold B_m_read_13
                refine Par.br (fun _ => ?_) (fun _ => ?_)
                · refine Par.br (fun _ => ?_) (fun _ => Par.no)
                  exact h14 m2 s0 _ (by omega) hs0
                · exact h14 m2 s0 _ (by omega) hs0
            refine Par.br (fun hz0 => ?_) (fun hz0 => ?_)
            · refine h13 m 1 (by omega) ?_
              cases b with
              | false => rfl
              | true => rw [z3] at hz0; exact absurd hz0 (by decide)
            · refine h13 m 0 (by omega) ?_
              cases b with
              | true => rfl
              | false => exact absurd z3 hz0
      · refine Par.yes e1 (h17 m l2 ?_)
        have hk125 : k j ≠ 125 := by
          intro h
          have := (hQ.sign 125 sg125).mpr h
          rcases e2 with e2 | e2 | e2
          · omega
          · exact e2 this.1
          · exact e2 this.2
        rcases hb with hb | ⟨hb, hb2⟩
        · cases S with
          | nil => exact s_none hb (fun h => h0 h rfl)
          | cons x S => exact s_ncl hb hk125
        · exact s_full hb hb2
  -- statements
  have h5 : ∀ (m : Nat) (l2 l3 l4 l5 e2 e3 e4 e5 : Int32) (e6 e7 e8 : Int32) (f1 f2 f3 : Nat → Int32) (j1 : Nat) (w : Int32), m < n + 1 → e6.toInt < 0 → RTk k v nx j1 e2 e3 e4 e5 → j1 ≤ E → e7.toInt = ((D ++ [w]).length : Int) → D.length < 30 → KDr (D ++ [w]) f1 → 0 ≤ e8.toInt → (k j1 = 59 → Rc2 k v (D, S, j) (D ++ [w], S, j1 + 1)) → (k j1 ≠ 59 → Fl2 k v (D, S, j)) →
      Par (L_m_read K m 5 l1 l2 l3 l4 l5 0 0 ithrown ityped e2 e3 e4 e5 e6 imany e7 e8 atxt f1 f2 f3 aopn aopp) (RDQ ityped k v (D, S, j)) ∧ Par (L_m_read K m 6 l1 l2 l3 l4 l5 0 0 ithrown ityped e2 e3 e4 e5 e6 imany e7 e8 atxt f1 f2 f3 aopn aopp) (RDQ ityped k v (D, S, j)) := by
    intro m l2 l3 l4 l5 e2 e3 e4 e5 e6 e7 e8 f1 f2 f3 j1 w hm he6 hT1 hj1 he7 hD30 hK1 he8 hy hn9
    have hfin : ∀ (m : Nat), m < n + 1 → Par ((F_m_takesSign K 59 ityped e2 e3 e4 e5 e6 atxt).bind (fun o_1 => L_m_read K m 11 l1 l2 l3 l4 l5 0 0 ithrown ityped o_1.1 o_1.2.1 o_1.2.2.1 o_1.2.2.2.1 o_1.2.2.2.2 imany e7 e8 atxt f1 f2 f3 aopn aopp)) (RDQ ityped k v (D, S, j)) := by
      intro m hm
      refine Par.bd (E_m_takesSign hK hS hj1 hR hT1 he6 59 sg59) (fun p hp => ?_)
      rcases hp with ⟨c1, c2, c3⟩ | ⟨c1, c2, c3⟩
      · refine go11 m (D ++ [w]) S (j1 + 1) l1 l2 l3 l4 l5 ithrown _ _ _ _ _ e7 e8 f1 f2 f3 aopn aopp hm (hy c1) ⟨by rw [c3]; exact he6, c2, hS.go hj1 (by rw [c1]; decide), hl1, hS6, ?_, he7, ?_, hK1, he8⟩
        · rw [List.length_append, List.length_singleton]; exact hSt.mono (by omega)
        · rw [List.length_append, List.length_singleton]; omega
      · exact (r11f K ityped imany atxt hK m l1 l2 l3 l4 l5 ithrown p.1 p.2.1 p.2.2.1 p.2.2.2.1 p.2.2.2.2 e7 e8 f1 f2 f3 aopn aopp c2).mono (fun r hr => Or.inl ⟨hr, hn9 c1⟩)
    cases m with
    | zero => exact ⟨Par.no, Par.no⟩
    | succ m =>
      rw [L_m_read_e5, L_m_read_e6]; unfold B_m_read_5 B_m_read_6
      exact ⟨hfin m (by omega), hfin m (by omega)⟩
  have h9 : ∀ (m : Nat) (l2 l3 l4 l5 e2 e3 e4 e5 : Int32) (e6 e7 e8 : Int32) (f1 f2 f3 : Nat → Int32) (j1 : Nat) (w : Int32), m < n + 1 → e6.toInt < 0 → RTk k v nx j1 e2 e3 e4 e5 → j1 ≤ E → l5.toInt = ((240 + 8 * D.length : Nat) : Int) → e7.toInt = ((D ++ [w]).length : Int) → D.length < 30 → KDr (D ++ [w]) f1 → 0 ≤ e8.toInt → (k j1 = 123 ∧ S.length < 6 → Rc2 k v (D, S, j) (D ++ [w], (D.length, false) :: S, j1 + 1)) → (¬ (k j1 = 123 ∧ S.length < 6) → Fl2 k v (D, S, j)) →
      Par (L_m_read K m 9 l1 l2 l3 l4 l5 0 0 ithrown ityped e2 e3 e4 e5 e6 imany e7 e8 atxt f1 f2 f3 aopn aopp) (RDQ ityped k v (D, S, j)) := by
    intro m l2 l3 l4 l5 e2 e3 e4 e5 e6 e7 e8 f1 f2 f3 j1 w hm he6 hT1 hj1 hl5 he7 hD30 hK1 he8 hy hn9
    cases m with
    | zero => exact Par.no
    | succ m =>
      rw [L_m_read_e9]; unfold B_m_read_9
      refine Par.bd (T_m_isSign K hK 123 e3 e5 e6 True.intro).pr (fun q2 hq2 => ?_)
      have hno : ¬ (k j1 = 123 ∧ S.length < 6) → Par (L_m_read K m 10 l1 l2 l3 l4 l5 0 0 ithrown ityped e2 e3 e4 e5 e6 imany e7 e8 atxt f1 f2 f3 aopn aopp) (RDQ ityped k v (D, S, j)) :=
        fun h => (r10f K ityped imany atxt hK m l1 l2 l3 l4 l5 ithrown e2 e3 e4 e5 e6 e7 e8 f1 f2 f3 aopn aopp (Or.inr hT1.2.2)).mono (fun r hr => Or.inl ⟨hr, hn9 h⟩)
      rcases hq2 with ⟨c1, _, c2, c3⟩ | ⟨c1, c2⟩
      · refine Par.not (by rw [c1]; decide) ?_
        have hk := (hT1.2.1.sign 123 sg123).mp ⟨c2, c3⟩
        refine Par.br (fun h6 => ?_) (fun h6 => ?_)
        · rw [Int32.le_iff_toInt_le] at h6
          simp only [Int32.reduceToInt] at h6
          exact hno (fun h => by omega)
        · rw [Int32.le_iff_toInt_le] at h6
          simp only [Int32.reduceToInt] at h6
          refine Par.br (fun _ => ?_) (fun _ => Par.no)
          refine Par.br (fun _ => ?_) (fun _ => Par.no)
          refine Par.bd (hR.adv hS hj1 hT1 (by rw [hk]; decide)) (fun p hp => ?_)
          have hln : l1.toNatClampNeg = S.length := cl1 _ _ hl1
          refine go11 m (D ++ [w]) ((D.length, false) :: S) (j1 + 1) (l1 + 1) l2 l3 l4 l5 ithrown _ _ _ _ e6 e7 e8 f1 f2 f3 _ _ (by omega) (hy ⟨hk, by omega⟩) ⟨he6, hp, hS.go hj1 (by rw [hk]; decide), ?_, ?_, ⟨S.length, rfl, ?_, ?_, ?_, ?_⟩, he7, ?_, hK1, he8⟩
          · rw [ad1 l1 S.length hl1 (by omega), List.length_cons]
          · rw [List.length_cons]; omega
          · rw [hln, upd_eq]; exact hl5
          · rw [hln, upd_eq]; rfl
          · rw [List.length_append, List.length_singleton]; omega
          · rw [hln]; exact hSt.ups (Nat.le_refl _) (by rw [List.length_append, List.length_singleton]; omega)
          · rw [List.length_append, List.length_singleton]; omega
      · refine Par.yes c1 (hno (fun h => ?_))
        have := (hT1.2.1.sign 123 sg123).mpr h.1
        rcases c2 with c2 | c2 | c2
        · omega
        · exact c2 this.1
        · exact c2 this.2
  have h4 : ∀ (m : Nat) (s0 : Int32), m < n + 1 → ((s0 = 1 ∧ begK (k j)) ∨ (s0 = 0 ∧ ¬ begK (k j))) → (k j = 0 → S ≠ []) → Par (L_m_read K m 4 l1 0 0 0 0 s0 0 ithrown ityped inext itoken iplace ivalue ifault imany idrafts isumMany atxt astm asm asgn aopn aopp) (RDQ ityped k v (D, S, j)) := by
    intro m s0 hm hs0 h00
    cases m with
    | zero => exact Par.no
    | succ m =>
      rw [L_m_read_e4]; unfold B_m_read_4
      rcases hs0 with ⟨e1, hb⟩ | ⟨e1, hb⟩
      case inr => exact Par.yes e1 (h12 m s0 (by omega) (Or.inl hb) h00)
      refine Par.not (by rw [e1]; decide) ?_
      refine Par.br (fun h30 => ?_) (fun h30 => ?_)
      · rw [Int32.le_iff_toInt_le] at h30
        simp only [Int32.reduceToInt] at h30
        exact h12 m s0 (by omega) (Or.inr ⟨hb, by omega⟩) h00
      · rw [Int32.le_iff_toInt_le] at h30
        simp only [Int32.reduceToInt] at h30
        have hD30 : D.length < 30 := by omega
        have hk0 : k j ≠ 0 ∧ k j ≠ 1 := begK_n1 hb
        have hj1 := hS.go hj hk0
        refine Par.bd (hR.adv hS hj hT hk0) (fun p hp => ?_)
        refine Par.br (fun h5e => ?_) (fun h5e => Par.br (fun h1e => ?_) (fun h1e => ?_))
        · have hk2 := hQ.cell.1.mp h5e
          refine Par.bd (E_m_begins K hK 0 ivalue idrafts astm D hdr hD30 hKD) (fun b hbb => ?_)
          refine Par.bd (E_m_takesSign hK hS hj1 hR hp hw 61 sg61) (fun s hs => ?_)
          refine Par.bd (T_m_isWell K hK s.2.2.2.2 True.intro).pr (fun q5 hq5 => ?_)
          rcases hs with ⟨c1, c2, c3⟩ | ⟨c1, c2, c3⟩
          · rcases hq5 with ⟨hq5, _⟩ | ⟨_, h⟩
            case inr => rw [c3] at h; omega
            refine Par.not (by rw [hq5]; decide) ?_
            have hj2 : j + 2 ≤ E := hS.go hj1 (by rw [c1]; decide)
            have hw2 : s.2.2.2.2.toInt < 0 := by rw [c3]; exact hw
            refine Par.bd (M_sum K hK E k v nx b.1 ityped s.1 s.2.1 s.2.2.1 s.2.2.2.1 s.2.2.2.2 isumMany atxt b.2.2 asm asgn (j + 2) hS hR hw2 c2 hj2 hsm) (fun u hu => ?_)
            rcases hu with ⟨d1, d2⟩ | ⟨d1, j', e, d2, d3, d4, d5, d6⟩
            · exact (r5f K ityped imany atxt hK m l1 s0 itoken ivalue b.1 ithrown u.1 u.2.1 u.2.2.1 u.2.2.2.1 u.2.2.2.2.1 b.2.1 u.2.2.2.2.2.1 u.2.2.2.2.2.2.1 u.2.2.2.2.2.2.2.1 u.2.2.2.2.2.2.2.2 aopn aopp d1).mono (fun r hr => Or.inl ⟨hr, s_set2 hk2 hD30 c1 d2⟩)
            · refine (h5 m s0 itoken ivalue b.1 _ _ _ _ _ b.2.1 _ _ _ _ j' 0 (by omega) d1 d4 d3 hbb.2.1 hD30 ?_ d5.nn (fun h59 => s_set hk2 hD30 c1 d2 h59) (fun h59 => s_set3 hk2 hD30 c1 d2 h59)).1
              rw [d6]
              exact hbb.2.2.sum hbb.1 hD30
          · rcases hq5 with ⟨_, h⟩ | ⟨hq5, _⟩
            · omega
            · refine Par.yes hq5 ?_
              exact (r5f K ityped imany atxt hK m l1 s0 itoken ivalue b.1 ithrown s.1 s.2.1 s.2.2.1 s.2.2.2.1 s.2.2.2.2 b.2.1 isumMany b.2.2 asm asgn aopn aopp c2).mono (fun r hr => Or.inl ⟨hr, s_set1 hk2 hD30 c1⟩)
        · have hk4 := hQ.tk.2.1.mp h1e
          refine Par.bd (E_m_takesNumber hK hS hj1 hR hp hw 3) (fun s hs => ?_)
          refine Par.bd (E_m_begins K hK 1 s.1 idrafts astm D hdr hD30 hKD) (fun b hbb => ?_)
          refine Par.bd (T_m_isWell K hK s.2.2.2.2.2 True.intro).pr (fun q5 hq5 => ?_)
          rcases hs with ⟨c1, c0, c2, c3⟩ | ⟨c1, c2, c3⟩
          · rcases hq5 with ⟨hq5, _⟩ | ⟨_, h⟩
            case inr => rw [c3] at h; omega
            refine Par.not (by rw [hq5]; decide) ?_
            have hj2 : j + 2 ≤ E := hS.go hj1 (by rw [c1.1]; decide)
            have hw2 : s.2.2.2.2.2.toInt < 0 := by rw [c3]; exact hw
            refine Par.bd (M_sum K hK E k v nx b.1 ityped s.2.1 s.2.2.1 s.2.2.2.1 s.2.2.2.2.1 s.2.2.2.2.2 isumMany atxt b.2.2 asm asgn (j + 2) hS hR hw2 c2 hj2 hsm) (fun u hu => ?_)
            rcases hu with ⟨d1, d2⟩ | ⟨d1, j', e, d2, d3, d4, d5, d6⟩
            · exact (r6f K ityped imany atxt hK m l1 s0 itoken ivalue b.1 ithrown u.1 u.2.1 u.2.2.1 u.2.2.2.1 u.2.2.2.2.1 b.2.1 u.2.2.2.2.2.1 u.2.2.2.2.2.2.1 u.2.2.2.2.2.2.2.1 u.2.2.2.2.2.2.2.2 aopn aopp d1).mono (fun r hr => Or.inl ⟨hr, s_out2 hk4 hD30 c1 d2⟩)
            · refine (h5 m s0 itoken ivalue b.1 _ _ _ _ _ b.2.1 _ _ _ _ j' 1 (by omega) d1 d4 d3 hbb.2.1 hD30 ?_ d5.nn (fun h59 => s_out hk4 hD30 c1 d2 h59) (fun h59 => s_out3 hk4 hD30 c1 d2 h59)).2
              rw [d6]
              exact hbb.2.2.sum hbb.1 hD30
          · rcases hq5 with ⟨_, h⟩ | ⟨hq5, _⟩
            · omega
            · refine Par.yes hq5 ?_
              exact (r6f K ityped imany atxt hK m l1 s0 itoken ivalue b.1 ithrown s.2.1 s.2.2.1 s.2.2.2.1 s.2.2.2.2.1 s.2.2.2.2.2 b.2.1 isumMany b.2.2 asm asgn aopn aopp c2).mono (fun r hr => Or.inl ⟨hr, s_out1 hk4 hD30 c1⟩)
        · have hk2 : k j ≠ 2 := fun h => h5e (hQ.cell.1.mpr h)
          have hk4 : k j ≠ 4 := fun h => h1e (hQ.tk.2.1.mpr h)
          refine Par.br (fun h2e => ?_) (fun h2e => ?_)
          · have hk5 := hQ.tk.2.2.1.mp h2e
            cases m with
            | zero => exact Par.no
            | succ m =>
              rw [L_m_read_e7]; unfold B_m_read_7
              refine Par.yes h2e ?_
              cases m with
              | zero => exact Par.no
              | succ m =>
                rw [L_m_read_e8]; unfold B_m_read_8
                refine Par.bd (E_m_begins K hK 2 0 idrafts astm D hdr hD30 hKD) (fun b hbb => ?_)
                refine Par.yes h2e ?_
                refine Par.bd (T_m_isWell K hK ifault True.intro).pr (fun q5 hq5 => ?_)
                rcases hq5 with ⟨hq5, _⟩ | ⟨_, h⟩
                case inr => omega
                refine Par.not (by rw [hq5]; decide) ?_
                refine Par.bd (M_sum K hK E k v nx b.1 ityped p.1 p.2.1 p.2.2.1 p.2.2.2 ifault isumMany atxt b.2.2 asm asgn (j + 1) hS hR hw hp hj1 hsm) (fun u hu => ?_)
                rcases hu with ⟨d1, d2⟩ | ⟨d1, j', e, d2, d3, d4, d5, d6⟩
                · exact (r9f K ityped imany atxt hK m l1 s0 itoken ivalue b.1 ithrown u.1 u.2.1 u.2.2.1 u.2.2.2.1 u.2.2.2.2.1 b.2.1 u.2.2.2.2.2.1 u.2.2.2.2.2.2.1 u.2.2.2.2.2.2.2.1 u.2.2.2.2.2.2.2.2 aopn aopp d1).mono (fun r hr => Or.inl ⟨hr, s_if2 hk5 hD30 d2⟩)
                · refine h9 m s0 itoken ivalue b.1 _ _ _ _ _ b.2.1 _ _ _ _ j' 2 (by omega) d1 d4 d3 hbb.1 hbb.2.1 hD30 ?_ d5.nn (fun h9e => s_if hk5 hD30 d2 h9e) (fun h9e => s_if3 hk5 hD30 d2 h9e)
                  rw [d6]
                  exact hbb.2.2.sum hbb.1 hD30
          · have hk5 : k j ≠ 5 := fun h => h2e (hQ.tk.2.2.1.mpr h)
            have hk7 : k j = 7 := by
              rcases hb with h | h | h | h
              · exact absurd h hk2
              · exact absurd h hk4
              · exact absurd h hk5
              · exact h
            cases m with
            | zero => exact Par.no
            | succ m =>
              rw [L_m_read_e7]; unfold B_m_read_7
              refine Par.not h2e ?_
              refine Par.bd (E_m_takesNumber hK hS hj1 hR hp hw 8) (fun s hs => ?_)
              cases m with
              | zero => exact Par.no
              | succ m =>
                rw [L_m_read_e8]; unfold B_m_read_8
                refine Par.bd (E_m_begins K hK 3 s.1 idrafts astm D hdr hD30 hKD) (fun b hbb => ?_)
                refine Par.not h2e ?_
                rcases hs with ⟨c1, c0, c2, c3⟩ | ⟨c1, c2, c3⟩
                · have hj2 : j + 2 ≤ E := hS.go hj1 (by rw [c1.1]; decide)
                  exact h9 m s0 itoken ivalue b.1 _ _ _ _ _ b.2.1 isumMany b.2.2 asm asgn (j + 2) 3 (by omega) (by rw [c3]; exact hw) c2 hj2 hbb.1 hbb.2.1 hD30 hbb.2.2 hsm (fun h9e => s_loop hk7 hD30 c1 h9e) (fun h9e => s_loop3 hk7 hD30 c1 h9e)
                · exact (r9f K ityped imany atxt hK m l1 s0 itoken ivalue b.1 ithrown s.2.1 s.2.2.1 s.2.2.2.1 s.2.2.2.2.1 s.2.2.2.2.2 b.2.1 isumMany b.2.2 asm asgn aopn aopp c2).mono (fun r hr => Or.inl ⟨hr, s_loop1 hk7 hD30 c1⟩)
  have h2 : ∀ (m : Nat), m < n + 1 → (k j = 0 → S ≠ []) → Par (L_m_read K m 2 l1 0 0 0 0 0 0 ithrown ityped inext itoken iplace ivalue ifault imany idrafts isumMany atxt astm asm asgn aopn aopp) (RDQ ityped k v (D, S, j)) := by
    intro m hm h00
    cases m with
    | zero => exact Par.no
    | succ m =>
      rw [L_m_read_e2]; unfold B_m_read_2
      have h3 : begK (k j) → Par (L_m_read K m 3 l1 0 0 0 0 0 0 ithrown ityped inext itoken iplace ivalue ifault imany idrafts isumMany atxt astm asm asgn aopn aopp) (RDQ ityped k v (D, S, j)) := by
        intro hb
        cases m with
        | zero => exact Par.no
        | succ m =>
          rw [L_m_read_e3]; unfold B_m_read_3
          exact h4 m 1 (by omega) (Or.inl ⟨rfl, hb⟩) h00
      refine Par.br (fun a => h3 (Or.inl (hQ.cell.1.mp a))) (fun a1 => Par.br (fun a => h3 (Or.inr (Or.inl (hQ.tk.2.1.mp a)))) (fun a2 => Par.br (fun a => h3 (Or.inr (Or.inr (Or.inl (hQ.tk.2.2.1.mp a))))) (fun a3 => Par.br (fun a => h3 (Or.inr (Or.inr (Or.inr (hQ.tk.2.2.2.2.mp a))))) (fun a4 => ?_))))
      refine h4 m 0 (by omega) (Or.inr ⟨rfl, ?_⟩) h00
      rintro (h | h | h | h)
      · exact a1 (hQ.cell.1.mpr h)
      · exact a2 (hQ.tk.2.1.mpr h)
      · exact a3 (hQ.tk.2.2.1.mpr h)
      · exact a4 (hQ.tk.2.2.2.2.mpr h)
  refine Par.br (fun h0 => ?_) (fun h0 => ?_)
  · have hk0 := hQ.tk.1.mp h0
    refine Par.br (fun hle => ?_) (fun hle => ?_)
    · rw [Int32.le_iff_toInt_le] at hle
      simp only [Int32.reduceToInt] at hle
      have : S = [] := by
        cases S with
        | nil => rfl
        | cons x S => rw [List.length_cons] at hl1; omega
      subst this
      cases n with
      | zero => exact Par.no
      | succ n =>
        rw [L_m_read_e19]; unfold B_m_read_19
        refine Par.bd (T_m_isWell K hK ifault True.intro).pr (fun q5 hq5 => ?_)
        rcases hq5 with ⟨hq5, _⟩ | ⟨_, h⟩
        case inr => omega
        refine Par.not (by rw [hq5]; decide) ?_
        refine (r20 K ityped imany atxt n l1 ithrown inext itoken iplace ivalue ifault idrafts isumMany asm asgn aopn aopp 0 astm).mono (fun r hr => Or.inr ⟨hr.1, D, j, s_end hk0, ?_⟩)
        rw [hr.2]; exact hdr
    · rw [Int32.le_iff_toInt_le] at hle
      simp only [Int32.reduceToInt] at hle
      refine h2 n (by omega) (fun _ h => ?_)
      rw [h] at hl1
      simp at hl1
      omega
  · exact h2 n (by omega) (fun h => absurd (hQ.tk.1.mpr h) h0)
/-- the reference's read, whole -/
theorem N_read (K : Nat) (hK : 1000000000 ≤ K) (E : Nat) (k v nx : Nat → Int32) (ithrown ityped inext itoken iplace ivalue ifault imany idrafts isumMany : Int32) (atxt astm asm asgn aopn aopp : Nat → Int32) (hS : STR2 E k v) (hR : RStq K E ityped atxt k v nx) (h0 : ∀ itoken iplace ivalue : Int32, Par (F_m_advances K ityped 0 itoken iplace ivalue atxt) (fun r => RTk k v nx 0 r.1 r.2.1 r.2.2.1 r.2.2.2)) :
    Par (F_m_read K ithrown ityped inext itoken iplace ivalue ifault imany idrafts isumMany atxt astm asm asgn aopn aopp) (RDQ ityped k v ([], [], 0)) := by
  unfold F_m_read
  obtain ⟨n, hn⟩ : ∃ n9, K = n9 + 1 := ⟨K - 1, by omega⟩
  generalize hz : L_m_read K K 0 0 0 0 0 0 0 0 ithrown ityped inext itoken iplace ivalue ifault imany idrafts isumMany atxt astm asm asgn aopn aopp = z
  have hz2 : z = L_m_read K (n + 1) 0 0 0 0 0 0 0 0 ithrown ityped inext itoken iplace ivalue ifault imany idrafts isumMany atxt astm asm asgn aopn aopp := by rw [← hn, hz]
  rw [hz2, L_m_read_e0]; unfold B_m_read_0
  refine Par.bd (h0 itoken iplace ivalue) (fun p hp => ?_)
  exact N_1 K hK E k v nx ityped imany atxt hS hR n [] [] 0 0 0 _ _ _ _ (-1) 0 0 astm asm asgn aopn aopp ⟨by decide, hp, Nat.zero_le _, rfl, by simp, rfl, rfl, by simp, fun i x h => by simp at h, by decide⟩
