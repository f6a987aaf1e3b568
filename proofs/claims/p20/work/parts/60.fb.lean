/-! levels of sums, and what statements are held to: the class's side -/
/-- the class's rows, as far as the rules of flow want them -/
def CFl (pg : Nat → Option Nat) (sv : Nat → Nat → Int32) (D : List SRc) : Prop := ∀ i : Nat, i < D.length → ∃ (r : SRc) (a : Nat), D[i]? = some r ∧ pg i = some a ∧ sv a 0 = r.1 ∧ sv a 1 = r.2.1 ∧ sv a 3 = r.2.2.2 ∧ sv a 6 = CMk r.2.2.1 0
theorem RowC.cfl {pg : Nat → Option Nat} {sv : Nat → Nat → Int32} {pk : Nat → Int32} {D : List SRc} {M N : Nat → Nat} {cs : Int} (h : ∀ i : Nat, i < D.length → RowC pg sv pk D M N cs i) : CFl pg sv D := by
  intro i hi
  obtain ⟨r, a, cf, h1, h2, h3, h4, h5, h6, h7, h8, h9, h10, h11⟩ := h i hi
  exact ⟨r, a, h1, h2, h3, h4, h5, h10⟩
def MsP (g : Nat → Int32) (D : List SRc) (N : Nat → Nat) (i : Nat) (fh fs : Nat → Int32) : Prop := ∀ k : Nat, k < i → fh k = hld g D N k k ∧ fs k = slv g (cod D k)
abbrev wiP (a b : Int32) : Prop := (a &&& (b ^^^ (-1))) = 0
/-- statement i leaks: what flows by the levels g2, the cells' levels g -/
def lkP (g2 g : Nat → Int32) (D : List SRc) (N : Nat → Nat) (i : Nat) : Prop := (kf D i = 0 ∧ ¬ wiP (slv g2 (cod D i) ||| hld g2 D N i i) (g (nf D i).toNatClampNeg)) ∨ (kf D i = 1 ∧ ¬ wiP (slv g2 (cod D i) ||| hld g2 D N i i) (nf D i))
theorem E_X9_isWithin (K : Nat) (hK : 1000000000 ≤ K) (a b : Int32) : Par (F_X9_isWithin K a b) (fun r => (r = 1 ∧ wiP a b) ∨ (r = 0 ∧ ¬ wiP a b)) := by
  unfold F_X9_isWithin
  obtain ⟨n, rfl⟩ : ∃ n9, K = n9 + 1 := ⟨K - 1, by omega⟩
  rw [L_X9_isWithin_e0]; unfold B_X9_isWithin_0
  exact Par.br (fun h => Par.ret (Or.inl ⟨rfl, h⟩)) (fun h => Par.ret (Or.inr ⟨rfl, h⟩))
theorem E_m_isWithin (K : Nat) (hK : 1000000000 ≤ K) (a b : Int32) : Par (F_m_isWithin K a b) (fun r => (r = 1 ∧ wiP a b) ∨ (r = 0 ∧ ¬ wiP a b)) := by
  unfold F_m_isWithin
  obtain ⟨n, rfl⟩ : ∃ n9, K = n9 + 1 := ⟨K - 1, by omega⟩
  rw [L_m_isWithin_e0]; unfold B_m_isWithin_0
  exact Par.br (fun h => Par.ret (Or.inl ⟨rfl, h⟩)) (fun h => Par.ret (Or.inr ⟨rfl, h⟩))
theorem E_X9_isFlag (K : Nat) (hK : 1000000000 ≤ K) (a : Int32) : Par (F_X9_isFlag K a) (fun r => (r = 1 ∧ (a = 0 ∨ a = 1)) ∨ (r = 0 ∧ a ≠ 0 ∧ a ≠ 1)) := by
  have one : ∀ n : Nat, (a = 0 ∨ a = 1) → Par (L_X9_isFlag K n 1 a) (fun r => (r = 1 ∧ (a = 0 ∨ a = 1)) ∨ (r = 0 ∧ a ≠ 0 ∧ a ≠ 1)) := by
    intro n h
    cases n with
    | zero => exact Par.no
    | succ n => rw [L_X9_isFlag_e1]; unfold B_X9_isFlag_1; exact Par.ret (Or.inl ⟨rfl, h⟩)
  unfold F_X9_isFlag
  obtain ⟨n, rfl⟩ : ∃ n9, K = n9 + 1 := ⟨K - 1, by omega⟩
  rw [L_X9_isFlag_e0]; unfold B_X9_isFlag_0
  exact Par.br (fun h => one n (Or.inl h)) (fun h => Par.br (fun h2 => one n (Or.inr h2)) (fun h2 => Par.ret (Or.inr ⟨rfl, h, h2⟩)))
theorem E_m_in (K : Nat) (hK : 1000000000 ≤ K) (x a b : Int32) : Par (F_m_in K x a b) (fun r => (r = 1 ∧ a.toInt ≤ x.toInt ∧ x.toInt ≤ b.toInt) ∨ (r = 0 ∧ ¬ (a.toInt ≤ x.toInt ∧ x.toInt ≤ b.toInt))) := by
  refine (T_m_in K hK x a b True.intro).pr.mono (fun q hq => ?_)
  rcases hq with ⟨p, q1, q2⟩ | ⟨p, q1⟩
  · exact Or.inl ⟨p, q1, q2⟩
  · exact Or.inr ⟨p, by omega⟩
theorem flag_i (x : Int32) : (x = 0 ∨ x = 1) ↔ (0 ≤ x.toInt ∧ x.toInt ≤ 1) := by
  constructor
  · rintro (rfl | rfl) <;> decide
  · intro h
    have h2 : x.toInt = (0 : Int32).toInt ∨ x.toInt = (1 : Int32).toInt := by simp only [Int32.reduceToInt]; omega
    simpa only [Int32.toInt_inj] using h2
theorem E_X0_measure (K : Nat) (hK : 1000000000 ≤ K) (LL : List Nat) (sv : Nat → Nat → Int32) (flfh flfs g : Nat → Int32) (sz : Int32) (pg : Nat → Option Nat) (D : List SRc) (M N dp : Nat → Nat) (hs : sz.toInt = (D.length : Int)) (hD : D.length ≤ 30) (hC : CFl pg sv D) (hN : NsT D M N dp) : Par (F_X0_measure K LL sv flfh flfs sz pg g) (fun r => MsP g D N D.length r.1 r.2) := by
  have key : ∀ (n i : Nat) (l3 : Int32) (a4 : Nat) (s0 s1 : Int32) (fh fs : Nat → Int32), l3.toInt = (i : Int) → i ≤ D.length → MsP g D N i fh fs → Par (L_X0_measure K n 1 l3 a4 s0 s1 LL sv fh fs sz pg g) (fun r => MsP g D N D.length r.1 r.2) := by
    intro n
    induction n using Nat.strongRecOn with
    | _ n ih =>
    intro i l3 a4 s0 s1 fh fs h3 hi hM
    cases n with
    | zero => exact Par.no
    | succ n =>
      rw [L_X0_measure_e1]; unfold B_X0_measure_1
      refine Par.br (fun h => ?_) (fun h => ?_)
      · rw [Int32.le_iff_toInt_le, hs, h3] at h
        have : i = D.length := by omega
        rw [this] at hM
        exact Par.ret hM
      · rw [Int32.le_iff_toInt_le, hs, h3] at h
        have hil : i < D.length := by omega
        obtain ⟨r, a, b1, b2, b3, b4, b5, b6⟩ := hC i hil
        refine Par.br (fun _ => ?_) (fun _ => Par.no)
        rw [cl1 l3 i h3]
        refine Par.bd (P := fun z => z = a) (fun z hz => by rw [b2] at hz; exact (Option.some.inj hz).symm) (fun z hz => ?_)
        subst hz
        refine Par.br (fun _ => ?_) (fun _ => Par.no)
        rw [b6]
        refine Par.bd (E_X0_levelOf K hK r.2.2.1 g) (fun o ho => ?_)
        refine Par.br (fun _ => ?_) (fun _ => Par.no)
        rw [b5]
        have hcod := cod_at b1
        have hpf := pf_at b1
        have hst : ∀ (x : Int32), x = hld g D N i i → MsP g D N (i + 1) (upd fh i x) (upd fs i o) := by
          intro x hx k hk
          by_cases hki : k = i
          · rw [hki, upd_eq, upd_eq]
            exact ⟨hx, by rw [ho, hcod]⟩
          · rw [upd_ne _ _ hki, upd_ne _ _ hki]
            exact hM k (by omega)
        have fin : ∀ (q : Nat) (a4 : Nat) (x : Int32), q < n + 1 → x = hld g D N i i → Par (L_X0_measure K q 3 l3 a4 x l3 LL sv fh (upd fs i o) sz pg g) (fun r => MsP g D N D.length r.1 r.2) := by
          intro q a4 x hq hx
          cases q with
          | zero => exact Par.no
          | succ q =>
            rw [L_X0_measure_e3]; unfold B_X0_measure_3
            refine Par.br (fun _ => ?_) (fun _ => Par.no)
            refine Par.br (fun _ => ?_) (fun _ => Par.no)
            rw [cl1 l3 i h3]
            exact ih q (by omega) (i + 1) (l3 + 1) 0 0 0 _ _ (ad1 l3 i h3 (by omega)) (by omega) (hst x hx)
        have two : ∀ (q : Nat) (a4 : Nat), q < n + 1 → (0 : Int32) = hld g D N i i → Par (L_X0_measure K q 2 l3 a4 l3 0 LL sv fh (upd fs i o) sz pg g) (fun r => MsP g D N D.length r.1 r.2) := by
          intro q a4 hq hx
          cases q with
          | zero => exact Par.no
          | succ q =>
            rw [L_X0_measure_e2]; unfold B_X0_measure_2
            exact Par.br (fun _ => fin q _ _ (by omega) hx) (fun _ => Par.no)
        rcases hN.2.2.2.2.1 i hil with ⟨c1, c2⟩ | ⟨p, c1, c2, c3, c4, c5⟩
        · have hneg : r.2.2.2 < 0 := by rw [← hpf, c1]; decide
          exact Par.yes hneg (two n _ (by omega) (hld_no c2 i (Nat.le_refl _)).symm)
        · have hpi : r.2.2.2.toInt = (p : Int) := by rw [← hpf, c1]; exact ofn_i p (by omega)
          refine Par.not (by rw [Int32.lt_iff_toInt_lt, hpi]; simp only [Int32.reduceToInt]; omega) ?_
          refine Par.yes (by rw [Int32.lt_iff_toInt_lt, hpi, h3]; omega) ?_
          refine Par.br (fun _ => ?_) (fun _ => Par.no)
          refine Par.br (fun _ => ?_) (fun _ => Par.no)
          rw [cl1 _ p hpi, upd_ne _ _ (by omega)]
          refine fin n _ _ (by omega) ?_
          obtain ⟨d1, d2⟩ := hM p c2
          rw [d1, d2]
          refine (hld_par c2 c3 c4 (fun h9 => ?_) c5).symm
          obtain ⟨rp, _, e1, _⟩ := hC p (by omega)
          rw [cod_at e1]
          exact (hN.2.2.2.2.2 rp (List.mem_of_getElem? e1)).2 (by rw [← kf_at e1]; exact h9)
  unfold F_X0_measure
  obtain ⟨n, rfl⟩ : ∃ n9, K = n9 + 1 := ⟨K - 1, by omega⟩
  rw [L_X0_measure_e0]; unfold B_X0_measure_0
  exact key n 0 0 0 0 0 _ _ rfl (Nat.zero_le _) (fun k hk => absurd hk (Nat.not_lt_zero _))
theorem E_X0_leaks (K : Nat) (hK : 1000000000 ≤ K) (l3 : Int32) (LL : List Nat) (sv : Nat → Nat → Int32) (flfh flfs g g2 : Nat → Int32) (pg : Nat → Option Nat) (D : List SRc) (N : Nat → Nat) (i : Nat) (h3 : l3.toInt = (i : Int)) (hi : i < D.length) (hC : CFl pg sv D) (hM : MsP g2 D N D.length flfh flfs) : Par (F_X0_leaks K l3 LL sv flfh flfs pg g) (fun r => (r = 1 ∧ lkP g2 g D N i) ∨ (r = 0 ∧ ¬ lkP g2 g D N i)) := by
  have one : ∀ (n : Nat) (a4 : Nat) (Q : Int32 → Prop), Q 0 → Par (L_X0_leaks K n 1 l3 a4 LL sv flfh flfs pg g) Q := by
    intro n a4 Q hQ
    cases n with
    | zero => exact Par.no
    | succ n =>
      rw [L_X0_leaks_e1]; unfold B_X0_leaks_1
      exact Par.br (fun _ => Par.ret hQ) (fun _ => Par.no)
  obtain ⟨r, a, b1, b2, b3, b4, b5, b6⟩ := hC i hi
  obtain ⟨d1, d2⟩ := hM i hi
  have hk := kf_at b1
  have hn := nf_at b1
  unfold F_X0_leaks
  obtain ⟨n, rfl⟩ : ∃ n9, K = n9 + 1 := ⟨K - 1, by omega⟩
  rw [L_X0_leaks_e0]; unfold B_X0_leaks_0
  refine Par.br (fun _ => ?_) (fun _ => Par.no)
  rw [cl1 l3 i h3]
  refine Par.bd (P := fun z => z = a) (fun z hz => by rw [b2] at hz; exact (Option.some.inj hz).symm) (fun z hz => ?_)
  subst hz
  refine Par.br (fun _ => ?_) (fun _ => Par.no)
  rw [b3, b4, d1, d2, Int32.or_comm]
  refine Par.br (fun hk1 => ?_) (fun hk1 => ?_)
  · refine Par.br (fun _ => ?_) (fun _ => Par.no)
    refine Par.br (fun _ => ?_) (fun _ => Par.no)
    refine Par.bd (E_X9_isWithin _ hK _ _) (fun o ho => ?_)
    have e : lkP g2 g D N i ↔ ¬ wiP (slv g2 (cod D i) ||| hld g2 D N i i) r.2.1 := by
      unfold lkP
      rw [hk, hk1, hn]
      exact ⟨fun h => h.elim (fun h => absurd h.1 (by decide)) (fun h => h.2), fun h => Or.inr ⟨rfl, h⟩⟩
    rcases ho with ⟨o1, o2⟩ | ⟨o1, o2⟩
    · exact Par.not (by rw [o1]; decide) (Par.ret (Or.inr ⟨rfl, fun h => (e.mp h) o2⟩))
    · exact Par.yes o1 (Par.ret (Or.inl ⟨rfl, e.mpr o2⟩))
  · refine Par.br (fun hk0 => ?_) (fun hk0 => ?_)
    · refine Par.br (fun _ => ?_) (fun _ => Par.no)
      refine Par.br (fun _ => ?_) (fun _ => Par.no)
      refine Par.br (fun _ => ?_) (fun _ => Par.no)
      refine Par.bd (E_X9_isWithin _ hK _ _) (fun o ho => ?_)
      have e : lkP g2 g D N i ↔ ¬ wiP (slv g2 (cod D i) ||| hld g2 D N i i) (g r.2.1.toNatClampNeg) := by
        unfold lkP
        rw [hk, hk0, hn]
        exact ⟨fun h => h.elim (fun h => h.2) (fun h => absurd h.1 (by decide)), fun h => Or.inl ⟨rfl, h⟩⟩
      rcases ho with ⟨o1, o2⟩ | ⟨o1, o2⟩
      · exact Par.not (by rw [o1]; decide) (one _ _ _ (Or.inr ⟨rfl, fun h => (e.mp h) o2⟩))
      · exact Par.yes o1 (Par.ret (Or.inl ⟨rfl, e.mpr o2⟩))
    · refine one _ _ _ (Or.inr ⟨rfl, fun h => ?_⟩)
      unfold lkP at h
      rw [hk] at h
      exact h.elim (fun h => hk0 h.1) (fun h => hk1 h.1)
theorem E_X0_measureL (K : Nat) (hK : 1000000000 ≤ K) (LL : List Nat) (sv : Nat → Nat → Int32) (flfh flfs g : Nat → Int32) (sz : Int32) (pg : Nat → Option Nat) (D : List SRc) (M N dp : Nat → Nat) (hs : sz.toInt = (D.length : Int)) (hD : D.length ≤ 30) (hC : CFl pg sv D) (hN : NsT D M N dp) : Par (F_X0_measureL K LL sv flfh flfs g sz pg) (fun r => MsP g D N D.length r.1 r.2) := by
  have key : ∀ (n i : Nat) (l3 : Int32) (a4 : Nat) (s0 s1 : Int32) (fh fs : Nat → Int32), l3.toInt = (i : Int) → i ≤ D.length → MsP g D N i fh fs → Par (L_X0_measureL K n 1 l3 a4 s0 s1 LL sv fh fs g sz pg) (fun r => MsP g D N D.length r.1 r.2) := by
    intro n
    induction n using Nat.strongRecOn with
    | _ n ih =>
    intro i l3 a4 s0 s1 fh fs h3 hi hM
    cases n with
    | zero => exact Par.no
    | succ n =>
      rw [L_X0_measureL_e1]; unfold B_X0_measureL_1
      refine Par.br (fun h => ?_) (fun h => ?_)
      · rw [Int32.le_iff_toInt_le, hs, h3] at h
        have : i = D.length := by omega
        rw [this] at hM
        exact Par.ret hM
      · rw [Int32.le_iff_toInt_le, hs, h3] at h
        have hil : i < D.length := by omega
        obtain ⟨r, a, b1, b2, b3, b4, b5, b6⟩ := hC i hil
        refine Par.br (fun _ => ?_) (fun _ => Par.no)
        rw [cl1 l3 i h3]
        refine Par.bd (P := fun z => z = a) (fun z hz => by rw [b2] at hz; exact (Option.some.inj hz).symm) (fun z hz => ?_)
        subst hz
        refine Par.br (fun _ => ?_) (fun _ => Par.no)
        rw [b6]
        refine Par.bd (E_X0_levelOf K hK r.2.2.1 g) (fun o ho => ?_)
        refine Par.br (fun _ => ?_) (fun _ => Par.no)
        rw [b5]
        have hcod := cod_at b1
        have hpf := pf_at b1
        have hst : ∀ (x : Int32), x = hld g D N i i → MsP g D N (i + 1) (upd fh i x) (upd fs i o) := by
          intro x hx k hk
          by_cases hki : k = i
          · rw [hki, upd_eq, upd_eq]
            exact ⟨hx, by rw [ho, hcod]⟩
          · rw [upd_ne _ _ hki, upd_ne _ _ hki]
            exact hM k (by omega)
        have fin : ∀ (q : Nat) (a4 : Nat) (x : Int32), q < n + 1 → x = hld g D N i i → Par (L_X0_measureL K q 3 l3 a4 x l3 LL sv fh (upd fs i o) g sz pg) (fun r => MsP g D N D.length r.1 r.2) := by
          intro q a4 x hq hx
          cases q with
          | zero => exact Par.no
          | succ q =>
            rw [L_X0_measureL_e3]; unfold B_X0_measureL_3
            refine Par.br (fun _ => ?_) (fun _ => Par.no)
            refine Par.br (fun _ => ?_) (fun _ => Par.no)
            rw [cl1 l3 i h3]
            exact ih q (by omega) (i + 1) (l3 + 1) 0 0 0 _ _ (ad1 l3 i h3 (by omega)) (by omega) (hst x hx)
        have two : ∀ (q : Nat) (a4 : Nat), q < n + 1 → (0 : Int32) = hld g D N i i → Par (L_X0_measureL K q 2 l3 a4 l3 0 LL sv fh (upd fs i o) g sz pg) (fun r => MsP g D N D.length r.1 r.2) := by
          intro q a4 hq hx
          cases q with
          | zero => exact Par.no
          | succ q =>
            rw [L_X0_measureL_e2]; unfold B_X0_measureL_2
            exact Par.br (fun _ => fin q _ _ (by omega) hx) (fun _ => Par.no)
        rcases hN.2.2.2.2.1 i hil with ⟨c1, c2⟩ | ⟨p, c1, c2, c3, c4, c5⟩
        · have hneg : r.2.2.2 < 0 := by rw [← hpf, c1]; decide
          exact Par.yes hneg (two n _ (by omega) (hld_no c2 i (Nat.le_refl _)).symm)
        · have hpi : r.2.2.2.toInt = (p : Int) := by rw [← hpf, c1]; exact ofn_i p (by omega)
          refine Par.not (by rw [Int32.lt_iff_toInt_lt, hpi]; simp only [Int32.reduceToInt]; omega) ?_
          refine Par.yes (by rw [Int32.lt_iff_toInt_lt, hpi, h3]; omega) ?_
          refine Par.br (fun _ => ?_) (fun _ => Par.no)
          refine Par.br (fun _ => ?_) (fun _ => Par.no)
          rw [cl1 _ p hpi, upd_ne _ _ (by omega)]
          refine fin n _ _ (by omega) ?_
          obtain ⟨d1, d2⟩ := hM p c2
          rw [d1, d2]
          refine (hld_par c2 c3 c4 (fun h9 => ?_) c5).symm
          obtain ⟨rp, _, e1, _⟩ := hC p (by omega)
          rw [cod_at e1]
          exact (hN.2.2.2.2.2 rp (List.mem_of_getElem? e1)).2 (by rw [← kf_at e1]; exact h9)
  unfold F_X0_measureL
  obtain ⟨n, rfl⟩ : ∃ n9, K = n9 + 1 := ⟨K - 1, by omega⟩
  rw [L_X0_measureL_e0]; unfold B_X0_measureL_0
  exact key n 0 0 0 0 0 _ _ rfl (Nat.zero_le _) (fun k hk => absurd hk (Nat.not_lt_zero _))
theorem E_X0_leaksL (K : Nat) (hK : 1000000000 ≤ K) (l3 : Int32) (LL : List Nat) (sv : Nat → Nat → Int32) (flfh flfs g g2 : Nat → Int32) (pg : Nat → Option Nat) (D : List SRc) (N : Nat → Nat) (i : Nat) (h3 : l3.toInt = (i : Int)) (hi : i < D.length) (hC : CFl pg sv D) (hM : MsP g2 D N D.length flfh flfs) : Par (F_X0_leaksL K l3 LL sv flfh flfs g pg) (fun r => (r = 1 ∧ lkP g2 g D N i) ∨ (r = 0 ∧ ¬ lkP g2 g D N i)) := by
  have one : ∀ (n : Nat) (a4 : Nat) (Q : Int32 → Prop), Q 0 → Par (L_X0_leaksL K n 1 l3 a4 LL sv flfh flfs g pg) Q := by
    intro n a4 Q hQ
    cases n with
    | zero => exact Par.no
    | succ n =>
      rw [L_X0_leaksL_e1]; unfold B_X0_leaksL_1
      exact Par.br (fun _ => Par.ret hQ) (fun _ => Par.no)
  obtain ⟨r, a, b1, b2, b3, b4, b5, b6⟩ := hC i hi
  obtain ⟨d1, d2⟩ := hM i hi
  have hk := kf_at b1
  have hn := nf_at b1
  unfold F_X0_leaksL
  obtain ⟨n, rfl⟩ : ∃ n9, K = n9 + 1 := ⟨K - 1, by omega⟩
  rw [L_X0_leaksL_e0]; unfold B_X0_leaksL_0
  refine Par.br (fun _ => ?_) (fun _ => Par.no)
  rw [cl1 l3 i h3]
  refine Par.bd (P := fun z => z = a) (fun z hz => by rw [b2] at hz; exact (Option.some.inj hz).symm) (fun z hz => ?_)
  subst hz
  refine Par.br (fun _ => ?_) (fun _ => Par.no)
  rw [b3, b4, d1, d2, Int32.or_comm]
  refine Par.br (fun hk1 => ?_) (fun hk1 => ?_)
  · refine Par.br (fun _ => ?_) (fun _ => Par.no)
    refine Par.br (fun _ => ?_) (fun _ => Par.no)
    refine Par.bd (E_X9_isWithin _ hK _ _) (fun o ho => ?_)
    have e : lkP g2 g D N i ↔ ¬ wiP (slv g2 (cod D i) ||| hld g2 D N i i) r.2.1 := by
      unfold lkP
      rw [hk, hk1, hn]
      exact ⟨fun h => h.elim (fun h => absurd h.1 (by decide)) (fun h => h.2), fun h => Or.inr ⟨rfl, h⟩⟩
    rcases ho with ⟨o1, o2⟩ | ⟨o1, o2⟩
    · exact Par.not (by rw [o1]; decide) (Par.ret (Or.inr ⟨rfl, fun h => (e.mp h) o2⟩))
    · exact Par.yes o1 (Par.ret (Or.inl ⟨rfl, e.mpr o2⟩))
  · refine Par.br (fun hk0 => ?_) (fun hk0 => ?_)
    · refine Par.br (fun _ => ?_) (fun _ => Par.no)
      refine Par.br (fun _ => ?_) (fun _ => Par.no)
      refine Par.br (fun _ => ?_) (fun _ => Par.no)
      refine Par.bd (E_X9_isWithin _ hK _ _) (fun o ho => ?_)
      have e : lkP g2 g D N i ↔ ¬ wiP (slv g2 (cod D i) ||| hld g2 D N i i) (g r.2.1.toNatClampNeg) := by
        unfold lkP
        rw [hk, hk0, hn]
        exact ⟨fun h => h.elim (fun h => h.2) (fun h => absurd h.1 (by decide)), fun h => Or.inl ⟨rfl, h⟩⟩
      rcases ho with ⟨o1, o2⟩ | ⟨o1, o2⟩
      · exact Par.not (by rw [o1]; decide) (one _ _ _ (Or.inr ⟨rfl, fun h => (e.mp h) o2⟩))
      · exact Par.yes o1 (Par.ret (Or.inl ⟨rfl, e.mpr o2⟩))
    · refine one _ _ _ (Or.inr ⟨rfl, fun h => ?_⟩)
      unfold lkP at h
      rw [hk] at h
      exact h.elim (fun h => hk0 h.1) (fun h => hk1 h.1)
