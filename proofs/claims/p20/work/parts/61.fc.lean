/-! flows and statement: both answer alike -/
theorem E_m_leaks (K : Nat) (hK : 1000000000 ≤ K) (l1 : Int32) (alev astm asm arsd : Nat → Int32) (D : List SRc) (M N : Nat → Nat) (i : Nat) (h1 : l1.toInt = (i : Int)) (hi : i < D.length) (hD : D.length ≤ 30) (hr : ∀ k : Nat, k < D.length → FRow astm asm D M N k) (hkd : ∀ r : SRc, r ∈ D → (r.1 = 0 ∨ r.1 = 1 ∨ r.1 = 2 ∨ r.1 = 3) ∧ (r.1 = 3 → r.2.2.1 = [])) : Par (F_m_leaks K l1 alev astm asm arsd) (fun r => (r = 1 ∧ lkP alev alev D N i) ∨ (r = 0 ∧ ¬ lkP alev alev D N i)) := by
  have hrow := hr i hi
  obtain ⟨r, cf, a1, a2, a3, a4, a5, a6, a7, a8, a9⟩ := id hrow
  have hk := kf_at a1
  have hn := nf_at a1
  have hk4 := (hkd r (List.mem_of_getElem? a1)).1
  have h8 : (8 * l1).toInt = ((8 * i : Nat) : Int) := by
    rw [Int32.toInt_mul, h1]
    simp only [Int32.reduceToInt]
    rw [bmI (by omega) (by omega)]; omega
  have e1 : (8 * l1 + 1).toNatClampNeg = 8 * i + 1 := adN _ 1 _ 1 h8 (by decide) (by omega)
  have one : ∀ (n : Nat) (l2 s0 : Int32), kf D i ≠ 3 → (lkP alev alev D N i ↔ ¬ wiP (slv alev (cod D i) ||| hld alev D N i i) s0) → Par (L_m_leaks K n 1 l1 l2 s0 alev astm asm arsd) (fun r => (r = 1 ∧ lkP alev alev D N i) ∨ (r = 0 ∧ ¬ lkP alev alev D N i)) := by
    intro n l2 s0 h3 he
    cases n with
    | zero => exact Par.no
    | succ n =>
      rw [L_m_leaks_e1]; unfold B_m_leaks_1
      refine Par.bd (E_m_sumLevel K hK l1 0 alev astm asm arsd alev D M N i h1 (by omega) hrow h3 (if_pos rfl).symm) (fun o ho => ?_)
      refine Par.bd (E_m_heldTo K hK l1 0 alev astm asm arsd alev D M N i h1 (by omega) (fun k hk => hr k (by omega)) (if_pos rfl).symm) (fun q hq => ?_)
      rw [ho, hq]
      refine Par.bd (E_m_isWithin K hK _ _) (fun p hp => ?_)
      rcases hp with ⟨o1, o2⟩ | ⟨o1, o2⟩
      · exact Par.not (by rw [o1]; decide) (Par.ret (Or.inr ⟨rfl, fun h => (he.mp h) o2⟩))
      · exact Par.yes o1 (Par.ret (Or.inl ⟨rfl, he.mpr o2⟩))
  unfold F_m_leaks
  obtain ⟨n, rfl⟩ : ∃ n9, K = n9 + 1 := ⟨K - 1, by omega⟩
  rw [L_m_leaks_e0]; unfold B_m_leaks_0
  refine Par.br (fun _ => ?_) (fun _ => Par.no)
  rw [cl1 _ _ h8, e1, a2, a3]
  refine Par.br (fun hle => ?_) (fun hle => ?_)
  · refine Par.br (fun _ => ?_) (fun _ => Par.no)
    refine Par.br (fun hk0 => ?_) (fun hk0 => ?_)
    · refine Par.br (fun _ => ?_) (fun _ => Par.no)
      refine Par.br (fun _ => ?_) (fun _ => Par.no)
      refine one n _ _ (by rw [hk, hk0]; decide) ?_
      unfold lkP
      rw [hk, hk0, hn]
      exact ⟨fun h => h.elim (fun h => h.2) (fun h => absurd h.1 (by decide)), fun h => Or.inl ⟨rfl, h⟩⟩
    · have hk1 : r.1 = 1 := by
        rcases hk4 with h | h | h | h
        · exact absurd h hk0
        · exact h
        · rw [h] at hle; exact absurd hle (by decide)
        · rw [h] at hle; exact absurd hle (by decide)
      refine Par.br (fun _ => ?_) (fun _ => Par.no)
      refine one n _ _ (by rw [hk, hk1]; decide) ?_
      unfold lkP
      rw [hk, hk1, hn]
      exact ⟨fun h => h.elim (fun h => absurd h.1 (by decide)) (fun h => h.2), fun h => Or.inr ⟨rfl, h⟩⟩
  · refine Par.ret (Or.inr ⟨rfl, fun h => ?_⟩)
    unfold lkP at h
    rw [hk] at h
    rcases h with h | h
    · rw [h.1] at hle; exact hle (by decide)
    · rw [h.1] at hle; exact hle (by decide)
noncomputable def cntQ (P : Nat → Prop) : Nat → Nat
  | 0 => 0
  | k + 1 => cntQ P k + @ite Nat (P k) (Classical.propDecidable _) 1 0
theorem cntQ_y {P : Nat → Prop} {k : Nat} (h : P k) : cntQ P (k + 1) = cntQ P k + 1 := by
  show cntQ P k + @ite Nat (P k) (Classical.propDecidable _) 1 0 = _
  rw [if_pos h]
theorem cntQ_n {P : Nat → Prop} {k : Nat} (h : ¬ P k) : cntQ P (k + 1) = cntQ P k := by
  show cntQ P k + @ite Nat (P k) (Classical.propDecidable _) 1 0 = _
  rw [if_neg h]; rfl
theorem cntQ_le (P : Nat → Prop) : ∀ k : Nat, cntQ P k ≤ k := by
  intro k
  induction k with
  | zero => exact Nat.le_refl _
  | succ k ih =>
    rcases Classical.em (P k) with h | h
    · rw [cntQ_y h]; omega
    · rw [cntQ_n h]; omega
def fstQ (P : Nat → Prop) (n : Nat) (r : Int32) : Prop := (r = -9 ∧ ∀ k : Nat, k < n → ¬ P k) ∨ ∃ i : Nat, i < n ∧ r.toInt = (i : Int) ∧ P i ∧ ∀ k : Nat, k < i → ¬ P k
theorem fstQ_u {P : Nat → Prop} {n : Nat} {r s : Int32} (h1 : fstQ P n r) (h2 : fstQ P n s) : r = s := by
  rcases h1 with ⟨a, b⟩ | ⟨i, a, b, c, d⟩
  · rcases h2 with ⟨a2, _⟩ | ⟨i2, a2, _, c2, _⟩
    · rw [a, a2]
    · exact absurd c2 (b i2 a2)
  · rcases h2 with ⟨_, b2⟩ | ⟨i2, a2, b2, c2, d2⟩
    · exact absurd c (b2 i a)
    · have : i = i2 := by
        rcases Nat.lt_trichotomy i i2 with h | h | h
        · exact absurd c (d2 i h)
        · exact h
        · exact absurd c2 (d i2 h)
      exact Int32.toInt_inj.mp (by rw [b, b2, this])
theorem E_X0_countLeaks (K : Nat) (hK : 1000000000 ≤ K) (LL : List Nat) (sv : Nat → Nat → Int32) (flfh flfs g : Nat → Int32) (sz : Int32) (pg : Nat → Option Nat) (D : List SRc) (N : Nat → Nat) (hs : sz.toInt = (D.length : Int)) (hD : D.length ≤ 30) (hC : CFl pg sv D) (hM : MsP g D N D.length flfh flfs) : Par (F_X0_countLeaks K LL sv flfh flfs sz pg g) (fun r => r.toInt = (cntQ (lkP g g D N) D.length : Int)) := by
  have key : ∀ (n i : Nat) (l3 l4 : Int32), l4.toInt = (i : Int) → i ≤ D.length → l3.toInt = (cntQ (lkP g g D N) i : Int) → Par (L_X0_countLeaks K n 1 l3 l4 LL sv flfh flfs sz pg g) (fun r => r.toInt = (cntQ (lkP g g D N) D.length : Int)) := by
    intro n
    induction n using Nat.strongRecOn with
    | _ n ih =>
    intro i l3 l4 h4 hi h3
    cases n with
    | zero => exact Par.no
    | succ n =>
      rw [L_X0_countLeaks_e1]; unfold B_X0_countLeaks_1
      refine Par.br (fun h => ?_) (fun h => ?_)
      · rw [Int32.le_iff_toInt_le, hs, h4] at h
        have : i = D.length := by omega
        rw [this] at h3
        exact Par.ret h3
      · rw [Int32.le_iff_toInt_le, hs, h4] at h
        have hil : i < D.length := by omega
        have hle := cntQ_le (lkP g g D N) i
        have fin : ∀ (q : Nat) (x : Int32), q < n + 1 → x.toInt = (cntQ (lkP g g D N) (i + 1) : Int) → Par (L_X0_countLeaks K q 2 x l4 LL sv flfh flfs sz pg g) (fun r => r.toInt = (cntQ (lkP g g D N) D.length : Int)) := by
          intro q x hq hx
          cases q with
          | zero => exact Par.no
          | succ q =>
            rw [L_X0_countLeaks_e2]; unfold B_X0_countLeaks_2
            exact ih q (by omega) (i + 1) x (l4 + 1) (ad1 l4 i h4 (by omega)) (by omega) hx
        refine Par.bd (E_X0_leaks K hK l4 LL sv flfh flfs g g pg D N i h4 hil hC hM) (fun o ho => ?_)
        rcases ho with ⟨o1, o2⟩ | ⟨o1, o2⟩
        · exact Par.not (by rw [o1]; decide) (fin n _ (by omega) (by rw [cntQ_y o2]; exact ad1 l3 _ h3 (by omega)))
        · exact Par.yes o1 (fin n _ (by omega) (by rw [cntQ_n o2]; exact h3))
  unfold F_X0_countLeaks
  obtain ⟨n, rfl⟩ : ∃ n9, K = n9 + 1 := ⟨K - 1, by omega⟩
  rw [L_X0_countLeaks_e0]; unfold B_X0_countLeaks_0
  exact key n 0 0 0 rfl (Nat.zero_le _) rfl
theorem E_X0_firstLeak (K : Nat) (hK : 1000000000 ≤ K) (LL : List Nat) (sv : Nat → Nat → Int32) (flfh flfs g : Nat → Int32) (sz : Int32) (pg : Nat → Option Nat) (D : List SRc) (N : Nat → Nat) (hs : sz.toInt = (D.length : Int)) (hD : D.length ≤ 30) (hC : CFl pg sv D) (hM : MsP g D N D.length flfh flfs) : Par (F_X0_firstLeak K LL sv flfh flfs sz pg g) (fun r => fstQ (lkP g g D N) D.length r) := by
  have key : ∀ (n i : Nat) (l3 : Int32), l3.toInt = (i : Int) → i ≤ D.length → (∀ k : Nat, k < i → ¬ lkP g g D N k) → Par (L_X0_firstLeak K n 1 l3 LL sv flfh flfs sz pg g) (fun r => fstQ (lkP g g D N) D.length r) := by
    intro n
    induction n using Nat.strongRecOn with
    | _ n ih =>
    intro i l3 h3 hi hno
    cases n with
    | zero => exact Par.no
    | succ n =>
      rw [L_X0_firstLeak_e1]; unfold B_X0_firstLeak_1
      refine Par.br (fun h => ?_) (fun h => ?_)
      · rw [Int32.le_iff_toInt_le, hs, h3] at h
        have : i = D.length := by omega
        rw [this] at hno
        exact Par.ret (Or.inl ⟨rfl, hno⟩)
      · rw [Int32.le_iff_toInt_le, hs, h3] at h
        have hil : i < D.length := by omega
        refine Par.bd (E_X0_leaks K hK l3 LL sv flfh flfs g g pg D N i h3 hil hC hM) (fun o ho => ?_)
        rcases ho with ⟨o1, o2⟩ | ⟨o1, o2⟩
        · exact Par.not (by rw [o1]; decide) (Par.ret (Or.inr ⟨i, hil, h3, o2, hno⟩))
        · refine Par.yes o1 (ih n (by omega) (i + 1) (l3 + 1) (ad1 l3 i h3 (by omega)) (by omega) (fun k hk => ?_))
          by_cases hki : k = i
          · rw [hki]; exact o2
          · exact hno k (by omega)
  unfold F_X0_firstLeak
  obtain ⟨n, rfl⟩ : ∃ n9, K = n9 + 1 := ⟨K - 1, by omega⟩
  rw [L_X0_firstLeak_e0]; unfold B_X0_firstLeak_0
  exact key n 0 0 rfl (Nat.zero_le _) (fun k hk => absurd hk (Nat.not_lt_zero _))
def FloP (P : Nat → Prop) (n : Nat) (l1 r : Int32) : Prop := (l1 = 0 ∧ r.toInt = (cntQ P n : Int)) ∨ (l1 = 1 ∧ fstQ P n r) ∨ (l1 ≠ 0 ∧ l1 ≠ 1 ∧ r = -1)
theorem FloP_u {P : Nat → Prop} {n : Nat} {l1 r s : Int32} (h1 : FloP P n l1 r) (h2 : FloP P n l1 s) : r = s := by
  rcases h1 with ⟨a, b⟩ | ⟨a, b⟩ | ⟨a, a2, b⟩
  · rcases h2 with ⟨c, d⟩ | ⟨c, d⟩ | ⟨c, _, d⟩
    · exact Int32.toInt_inj.mp (by rw [b, d])
    · rw [a] at c; exact absurd c (by decide)
    · exact absurd a c
  · rcases h2 with ⟨c, d⟩ | ⟨c, d⟩ | ⟨_, c, d⟩
    · rw [a] at c; exact absurd c (by decide)
    · exact fstQ_u b d
    · exact absurd a c
  · rcases h2 with ⟨c, d⟩ | ⟨c, d⟩ | ⟨_, c, d⟩
    · exact absurd c a
    · exact absurd c a2
    · rw [b, d]
theorem E_X9_flows (K : Nat) (hK : 1000000000 ≤ K) (l1 : Int32) (LL : List Nat) (sv : Nat → Nat → Int32) (g flfh flfs : Nat → Int32) (sz : Int32) (pg : Nat → Option Nat) (D : List SRc) (M N dp : Nat → Nat) (hs : sz.toInt = (D.length : Int)) (hD : D.length ≤ 30) (hC : CFl pg sv D) (hN : NsT D M N dp) : Par (F_X9_flows K l1 LL sv g flfh flfs sz pg) (fun r => FloP (lkP g g D N) D.length l1 r.1) := by
  unfold F_X9_flows
  obtain ⟨n, rfl⟩ : ∃ n9, K = n9 + 1 := ⟨K - 1, by omega⟩
  rw [L_X9_flows_e0]; unfold B_X9_flows_0
  refine Par.bd (E_X9_isFlag _ hK l1) (fun o ho => ?_)
  rcases ho with ⟨o1, o2⟩ | ⟨o1, o2, o3⟩
  · refine Par.not (by rw [o1]; decide) ?_
    refine Par.bd (E_X0_measure _ hK LL sv flfh flfs g sz pg D M N dp hs hD hC hN) (fun q hq => ?_)
    refine Par.br (fun h => ?_) (fun h => ?_)
    · exact Par.bd (E_X0_countLeaks _ hK LL sv _ _ g sz pg D N hs hD hC hq) (fun p hp => Par.ret (Or.inl ⟨h, hp⟩))
    · exact Par.bd (E_X0_firstLeak _ hK LL sv _ _ g sz pg D N hs hD hC hq) (fun p hp => Par.ret (Or.inr (Or.inl ⟨o2.elim (fun e => absurd e h) id, hp⟩)))
  · exact Par.yes o1 (Par.ret (Or.inr (Or.inr ⟨o2, o3, rfl⟩)))
theorem E_m_flows (K : Nat) (hK : 1000000000 ≤ K) (l1 ith imany : Int32) (alev astm asm arsd : Nat → Int32) (D : List SRc) (M N dp : Nat → Nat) (hs : imany.toInt = (D.length : Int)) (hD : D.length ≤ 30) (hr : ∀ k : Nat, k < D.length → FRow astm asm D M N k) (hN : NsT D M N dp) : Par (F_m_flows K l1 ith imany alev astm asm arsd) (fun r => FloP (lkP alev alev D N) D.length l1 r.1) := by
  have key : ∀ (n i : Nat) (l2 l3 l4 s0 t9 : Int32), (l1 = 0 ∨ l1 = 1) → l4.toInt = (i : Int) → i ≤ D.length → l2.toInt = (cntQ (lkP alev alev D N) i : Int) → fstQ (lkP alev alev D N) i l3 → Par (L_m_flows K n 1 l1 l2 l3 l4 s0 t9 imany alev astm asm arsd) (fun r => FloP (lkP alev alev D N) D.length l1 r.1) := by
    intro n
    induction n using Nat.strongRecOn with
    | _ n ih =>
    intro i l2 l3 l4 s0 t9 hl h4 hi h2 h3
    cases n with
    | zero => exact Par.no
    | succ n =>
      rw [L_m_flows_e1]; unfold B_m_flows_1
      refine Par.br (fun h => ?_) (fun h => ?_)
      · rw [Int32.le_iff_toInt_le, hs, h4] at h
        have : i = D.length := by omega
        rw [this] at h2 h3
        exact Par.br (fun e => Par.ret (Or.inl ⟨e, h2⟩)) (fun e => Par.ret (Or.inr (Or.inl ⟨hl.elim (fun e2 => absurd e2 e) id, h3⟩)))
      · rw [Int32.le_iff_toInt_le, hs, h4] at h
        have hil : i < D.length := by omega
        have hle := cntQ_le (lkP alev alev D N) i
        have fin : ∀ (q : Nat) (x y z : Int32), q < n + 1 → x.toInt = (cntQ (lkP alev alev D N) (i + 1) : Int) → fstQ (lkP alev alev D N) (i + 1) y → Par (L_m_flows K q 3 l1 x y l4 z t9 imany alev astm asm arsd) (fun r => FloP (lkP alev alev D N) D.length l1 r.1) := by
          intro q x y z hq hx hy
          cases q with
          | zero => exact Par.no
          | succ q =>
            rw [L_m_flows_e3]; unfold B_m_flows_3
            exact ih q (by omega) (i + 1) x y (l4 + 1) 0 t9 hl (ad1 l4 i h4 (by omega)) (by omega) hx hy
        have two : ∀ (q : Nat) (x y z : Int32), q < n + 1 → x.toInt = (cntQ (lkP alev alev D N) (i + 1) : Int) → fstQ (lkP alev alev D N) (i + 1) z → Par (L_m_flows K q 2 l1 x y l4 z t9 imany alev astm asm arsd) (fun r => FloP (lkP alev alev D N) D.length l1 r.1) := by
          intro q x y z hq hx hy
          cases q with
          | zero => exact Par.no
          | succ q =>
            rw [L_m_flows_e2]; unfold B_m_flows_2
            exact fin q _ _ _ (by omega) hx hy
        refine Par.bd (E_m_leaks K hK l4 alev astm asm arsd D M N i h4 hil hD hr hN.2.2.2.2.2) (fun o ho => ?_)
        rcases ho with ⟨o1, o2⟩ | ⟨o1, o2⟩
        · refine Par.not (by rw [o1]; decide) ?_
          have hx : (l2 + 1).toInt = (cntQ (lkP alev alev D N) (i + 1) : Int) := by rw [cntQ_y o2]; exact ad1 l2 _ h2 (by omega)
          refine Par.br (fun e => two n _ _ _ (by omega) hx ?_) (fun e => two n _ _ _ (by omega) hx ?_)
          · rcases h3 with ⟨_, b⟩ | ⟨k, b1, b2, _⟩
            · exact Or.inr ⟨i, by omega, h4, o2, b⟩
            · rw [e] at b2
              have e9 : (-9 : Int32).toInt = -9 := by decide
              rw [e9] at b2
              omega
          · rcases h3 with ⟨a, _⟩ | ⟨k, b1, b2⟩
            · exact absurd a e
            · exact Or.inr ⟨k, by omega, b2⟩
        · refine Par.yes o1 (fin n _ _ _ (by omega) (by rw [cntQ_n o2]; exact h2) ?_)
          rcases h3 with ⟨a, b⟩ | ⟨k, b1, b2⟩
          · refine Or.inl ⟨a, fun k hk => ?_⟩
            by_cases hki : k = i
            · rw [hki]; exact o2
            · exact b k (by omega)
          · exact Or.inr ⟨k, by omega, b2⟩
  unfold F_m_flows
  obtain ⟨n, rfl⟩ : ∃ n9, K = n9 + 1 := ⟨K - 1, by omega⟩
  rw [L_m_flows_e0]; unfold B_m_flows_0
  refine Par.bd (E_m_in _ hK l1 0 1) (fun o ho => ?_)
  have hfl := flag_i l1
  simp only [Int32.reduceToInt] at ho
  rcases ho with ⟨o1, o2⟩ | ⟨o1, o2⟩
  · exact Par.not (by rw [o1]; decide) (key n 0 _ _ _ _ _ (hfl.mpr o2) rfl (Nat.zero_le _) rfl (Or.inl ⟨rfl, fun k hk => absurd hk (Nat.not_lt_zero _)⟩))
  · exact Par.yes o1 (Par.ret (Or.inr (Or.inr ⟨fun e => o2 (hfl.mp (Or.inl e)), fun e => o2 (hfl.mp (Or.inr e)), rfl⟩)))
theorem fl_ans {K : Nat} (hK : 1000000000 ≤ K) {l1 th sz cs ou us imany : Int32} {LL : List Nat} {lvf alev flfh flfs astm asm arsd pk : Nat → Int32} {pg : Nat → Option Nat} {sv : Nat → Nat → Int32} {rc : Int32 × (Nat → Int32) × (Nat → Int32)} {rm : Int32 × Int32} (hl : lvf = alev) (hP : SameP pg sv pk sz cs ou us imany astm asm) (hc : F_X9_flows K l1 LL sv lvf flfh flfs sz pg = some rc) (hm : F_m_flows K l1 th imany alev astm asm arsd = some rm) : rc.1 = rm.1 := by
  subst hl
  obtain ⟨D, M, N, ⟨k, v, j, hH, _⟩, hD, h1, h2, _, _, hRC, hRF⟩ := hP
  obtain ⟨dp, hN⟩ := hH.ns
  exact FloP_u (E_X9_flows K hK l1 LL sv lvf flfh flfs sz pg D M N dp h1 hD (RowC.cfl hRC) hN rc hc) (E_m_flows K hK l1 th imany lvf astm asm arsd D M N dp h2 hD hRF hN rm hm)
/-- what statement() answers -/
def StaP (g : Nat → Int32) (D : List SRc) (N : Nat → Nat) (l1 l2 r : Int32) : Prop :=
  (∃ i : Nat, l1.toInt = (i : Int) ∧ i < D.length ∧ ((l2 = 0 ∧ r = hld g D N i i) ∨ (l2 = 1 ∧ r = slv g (cod D i)) ∨ (l2 = 2 ∧ ((r = 1 ∧ lkP g g D N i) ∨ (r = 0 ∧ ¬ lkP g g D N i))) ∨ (l2 = 3 ∧ r = kf D i))) ∨ (¬ (0 ≤ l1.toInt ∧ l1.toInt < (D.length : Int) ∧ 0 ≤ l2.toInt ∧ l2.toInt ≤ 3) ∧ r = -1)
theorem four_i (x : Int32) (h : 0 ≤ x.toInt ∧ x.toInt ≤ 3) : x = 0 ∨ x = 1 ∨ x = 2 ∨ x = 3 := by
  have h2 : x.toInt = (0 : Int32).toInt ∨ x.toInt = (1 : Int32).toInt ∨ x.toInt = (2 : Int32).toInt ∨ x.toInt = (3 : Int32).toInt := by simp only [Int32.reduceToInt]; omega
  simpa only [Int32.toInt_inj] using h2
theorem StaP_u {g : Nat → Int32} {D : List SRc} {N : Nat → Nat} {l1 l2 r s : Int32} (h1 : StaP g D N l1 l2 r) (h2 : StaP g D N l1 l2 s) : r = s := by
  have hin : ∀ i : Nat, l1.toInt = (i : Int) → i < D.length → (l2 = 0 ∨ l2 = 1 ∨ l2 = 2 ∨ l2 = 3) → (0 ≤ l1.toInt ∧ l1.toInt < (D.length : Int) ∧ 0 ≤ l2.toInt ∧ l2.toInt ≤ 3) := by
    intro i a b c
    refine ⟨by omega, by omega, ?_⟩
    rcases c with rfl | rfl | rfl | rfl <;> decide
  rcases h1 with ⟨i, a, b, c⟩ | ⟨a, b⟩
  · rcases h2 with ⟨i2, a2, b2, c2⟩ | ⟨a2, b2⟩
    · have e : i = i2 := by omega
      subst e
      rcases c with ⟨c, d⟩ | ⟨c, d⟩ | ⟨c, d⟩ | ⟨c, d⟩ <;> subst c
      · rcases c2 with ⟨c2, d2⟩ | ⟨c2, d2⟩ | ⟨c2, d2⟩ | ⟨c2, d2⟩
        · rw [d, d2]
        · exact absurd c2 (by decide)
        · exact absurd c2 (by decide)
        · exact absurd c2 (by decide)
      · rcases c2 with ⟨c2, d2⟩ | ⟨c2, d2⟩ | ⟨c2, d2⟩ | ⟨c2, d2⟩
        · exact absurd c2 (by decide)
        · rw [d, d2]
        · exact absurd c2 (by decide)
        · exact absurd c2 (by decide)
      · rcases c2 with ⟨c2, d2⟩ | ⟨c2, d2⟩ | ⟨c2, d2⟩ | ⟨c2, d2⟩
        · exact absurd c2 (by decide)
        · exact absurd c2 (by decide)
        · rcases d with ⟨e1, e2⟩ | ⟨e1, e2⟩
          · rcases d2 with ⟨f1, f2⟩ | ⟨f1, f2⟩
            · rw [e1, f1]
            · exact absurd e2 f2
          · rcases d2 with ⟨f1, f2⟩ | ⟨f1, f2⟩
            · exact absurd f2 e2
            · rw [e1, f1]
        · exact absurd c2 (by decide)
      · rcases c2 with ⟨c2, d2⟩ | ⟨c2, d2⟩ | ⟨c2, d2⟩ | ⟨c2, d2⟩
        · exact absurd c2 (by decide)
        · exact absurd c2 (by decide)
        · exact absurd c2 (by decide)
        · rw [d, d2]
    · exact absurd (hin i a b (by rcases c with c | c | c | c <;> simp [c.1])) a2
  · rcases h2 with ⟨i2, a2, b2, c2⟩ | ⟨a2, b2⟩
    · exact absurd (hin i2 a2 b2 (by rcases c2 with c | c | c | c <;> simp [c.1])) a
    · rw [b, b2]
theorem E_X9_statement (K : Nat) (hK : 1000000000 ≤ K) (l1 l2 : Int32) (LL : List Nat) (sv : Nat → Nat → Int32) (g flfh flfs : Nat → Int32) (sz : Int32) (pg : Nat → Option Nat) (D : List SRc) (M N dp : Nat → Nat) (hs : sz.toInt = (D.length : Int)) (hD : D.length ≤ 30) (hC : CFl pg sv D) (hN : NsT D M N dp) : Par (F_X9_statement K l1 l2 LL sv g flfh flfs sz pg) (fun r => StaP g D N l1 l2 r.1) := by
  have one : ∀ n : Nat, ¬ (0 ≤ l1.toInt ∧ l1.toInt < (D.length : Int) ∧ 0 ≤ l2.toInt ∧ l2.toInt ≤ 3) → Par (L_X9_statement K n 1 l1 l2 LL sv g flfh flfs sz pg) (fun r => StaP g D N l1 l2 r.1) := by
    intro n h
    cases n with
    | zero => exact Par.no
    | succ n => rw [L_X9_statement_e1]; unfold B_X9_statement_1; exact Par.ret (Or.inr ⟨h, rfl⟩)
  unfold F_X9_statement
  obtain ⟨n, rfl⟩ : ∃ n9, K = n9 + 1 := ⟨K - 1, by omega⟩
  rw [L_X9_statement_e0]; unfold B_X9_statement_0
  refine Par.br (fun h => one n (fun h9 => ?_)) (fun ha => Par.br (fun h => one n (fun h9 => ?_)) (fun hb => Par.br (fun h => one n (fun h9 => ?_)) (fun hc => Par.br (fun hd => ?_) (fun h => one n (fun h9 => ?_)))))
  · rw [Int32.lt_iff_toInt_lt] at h
    simp only [Int32.reduceToInt] at h
    omega
  · rw [Int32.le_iff_toInt_le, hs] at h
    omega
  · rw [Int32.lt_iff_toInt_lt] at h
    simp only [Int32.reduceToInt] at h
    omega
  · rw [Int32.lt_iff_toInt_lt] at ha hc
    rw [Int32.le_iff_toInt_le, hs] at hb
    rw [Int32.le_iff_toInt_le] at hd
    simp only [Int32.reduceToInt] at ha hc hd
    obtain ⟨i, hi⟩ : ∃ i : Nat, l1.toInt = (i : Int) := ⟨l1.toInt.toNat, by omega⟩
    have hil : i < D.length := by omega
    have h4 := four_i l2 ⟨by omega, by omega⟩
    refine Par.bd (E_X0_measure _ hK LL sv flfh flfs g sz pg D M N dp hs hD hC hN) (fun q hq => ?_)
    obtain ⟨d1, d2⟩ := hq i hil
    refine Par.br (fun e => ?_) (fun e0 => ?_)
    · refine Par.br (fun _ => Par.ret (Or.inl ⟨i, hi, hil, Or.inl ⟨e, ?_⟩⟩)) (fun _ => Par.no)
      show q.1 l1.toNatClampNeg = _
      rw [cl1 l1 i hi, d1]
    · refine Par.br (fun e => ?_) (fun e1 => ?_)
      · refine Par.br (fun _ => Par.ret (Or.inl ⟨i, hi, hil, Or.inr (Or.inl ⟨e, ?_⟩)⟩)) (fun _ => Par.no)
        show q.2 l1.toNatClampNeg = _
        rw [cl1 l1 i hi, d2]
      · refine Par.br (fun e => ?_) (fun e2 => ?_)
        · refine Par.bd (E_X0_leaks _ hK l1 LL sv _ _ g g pg D N i hi hil hC hq) (fun o ho => ?_)
          rcases ho with ⟨o1, o2⟩ | ⟨o1, o2⟩
          · exact Par.not (by rw [o1]; decide) (Par.ret (Or.inl ⟨i, hi, hil, Or.inr (Or.inr (Or.inl ⟨e, Or.inl ⟨rfl, o2⟩⟩))⟩))
          · exact Par.yes o1 (Par.ret (Or.inl ⟨i, hi, hil, Or.inr (Or.inr (Or.inl ⟨e, Or.inr ⟨rfl, o2⟩⟩))⟩))
        · obtain ⟨r, a, b1, b2, b3, _⟩ := hC i hil
          refine Par.br (fun _ => ?_) (fun _ => Par.no)
          rw [cl1 l1 i hi]
          refine Par.bd (P := fun z => z = a) (fun z hz => by rw [b2] at hz; exact (Option.some.inj hz).symm) (fun z hz => ?_)
          subst hz
          refine Par.br (fun _ => Par.ret (Or.inl ⟨i, hi, hil, Or.inr (Or.inr (Or.inr ⟨?_, ?_⟩))⟩)) (fun _ => Par.no)
          · rcases h4 with h | h | h | h
            · exact absurd h e0
            · exact absurd h e1
            · exact absurd h e2
            · exact h
          · show sv _ 0 = _
            rw [b3, kf_at b1]
  · rw [Int32.le_iff_toInt_le] at h
    simp only [Int32.reduceToInt] at h
    omega
theorem E_m_statement (K : Nat) (hK : 1000000000 ≤ K) (l1 l2 ith imany : Int32) (alev astm asm arsd : Nat → Int32) (D : List SRc) (M N dp : Nat → Nat) (hs : imany.toInt = (D.length : Int)) (hD : D.length ≤ 30) (hr : ∀ k : Nat, k < D.length → FRow astm asm D M N k) (hN : NsT D M N dp) : Par (F_m_statement K l1 l2 ith imany alev astm asm arsd) (fun r => StaP alev D N l1 l2 r.1) := by
  have one : ∀ (n : Nat) (t9 : Int32), ¬ (0 ≤ l1.toInt ∧ l1.toInt < (D.length : Int) ∧ 0 ≤ l2.toInt ∧ l2.toInt ≤ 3) → Par (L_m_statement K n 1 l1 l2 t9 imany alev astm asm arsd) (fun r => StaP alev D N l1 l2 r.1) := by
    intro n t9 h
    cases n with
    | zero => exact Par.no
    | succ n => rw [L_m_statement_e1]; unfold B_m_statement_1; exact Par.ret (Or.inr ⟨h, rfl⟩)
  have hm1 : (imany - 1).toInt = (D.length : Int) - 1 := by
    rw [Int32.toInt_sub, hs]
    simp only [Int32.reduceToInt]
    exact bmI (by omega) (by omega)
  unfold F_m_statement
  obtain ⟨n, rfl⟩ : ∃ n9, K = n9 + 1 := ⟨K - 1, by omega⟩
  rw [L_m_statement_e0]; unfold B_m_statement_0
  refine Par.bd (E_m_in _ hK l1 0 (imany - 1)) (fun o ho => ?_)
  rw [hm1] at ho
  simp only [Int32.reduceToInt] at ho
  rcases ho with ⟨o1, o2⟩ | ⟨o1, o2⟩
  · refine Par.not (by rw [o1]; decide) ?_
    refine Par.bd (E_m_in _ hK l2 0 3) (fun q hq => ?_)
    simp only [Int32.reduceToInt] at hq
    rcases hq with ⟨q1, q2⟩ | ⟨q1, q2⟩
    · refine Par.not (by rw [q1]; decide) ?_
      obtain ⟨i, hi⟩ : ∃ i : Nat, l1.toInt = (i : Int) := ⟨l1.toInt.toNat, by omega⟩
      have hil : i < D.length := by omega
      have h4 := four_i l2 q2
      have hrow := hr i hil
      obtain ⟨r, cf, a1, a2, a3, _⟩ := id hrow
      have hk := kf_at a1
      have h8 : (8 * l1).toInt = ((8 * i : Nat) : Int) := by
        rw [Int32.toInt_mul, hi]
        simp only [Int32.reduceToInt]
        rw [bmI (by omega) (by omega)]; omega
      refine Par.br (fun e => ?_) (fun e0 => ?_)
      · refine Par.bd (E_m_heldTo _ hK l1 0 alev astm asm arsd alev D M N i hi (by omega) (fun k hk => hr k (by omega)) (if_pos rfl).symm) (fun p hp => Par.ret (Or.inl ⟨i, hi, hil, Or.inl ⟨e, hp⟩⟩))
      · refine Par.br (fun e => ?_) (fun e1 => ?_)
        · refine Par.br (fun _ => ?_) (fun _ => Par.no)
          rw [cl1 _ _ h8, a2]
          refine Par.br (fun h3 => ?_) (fun h3 => ?_)
          · refine Par.ret (Or.inl ⟨i, hi, hil, Or.inr (Or.inl ⟨e, ?_⟩)⟩)
            rw [cod_at a1, (hN.2.2.2.2.2 r (List.mem_of_getElem? a1)).2 h3]
            rfl
          · exact Par.bd (E_m_sumLevel _ hK l1 0 alev astm asm arsd alev D M N i hi (by omega) hrow (by rw [hk]; exact h3) (if_pos rfl).symm) (fun p hp => Par.ret (Or.inl ⟨i, hi, hil, Or.inr (Or.inl ⟨e, hp⟩)⟩))
        · refine Par.br (fun e => ?_) (fun e2 => ?_)
          · refine Par.bd (E_m_leaks _ hK l1 alev astm asm arsd D M N i hi hil hD hr hN.2.2.2.2.2) (fun o ho => ?_)
            rcases ho with ⟨o1, o2⟩ | ⟨o1, o2⟩
            · exact Par.not (by rw [o1]; decide) (Par.ret (Or.inl ⟨i, hi, hil, Or.inr (Or.inr (Or.inl ⟨e, Or.inl ⟨rfl, o2⟩⟩))⟩))
            · exact Par.yes o1 (Par.ret (Or.inl ⟨i, hi, hil, Or.inr (Or.inr (Or.inl ⟨e, Or.inr ⟨rfl, o2⟩⟩))⟩))
          · refine Par.br (fun _ => Par.ret (Or.inl ⟨i, hi, hil, Or.inr (Or.inr (Or.inr ⟨?_, ?_⟩))⟩)) (fun _ => Par.no)
            · rcases h4 with h | h | h | h
              · exact absurd h e0
              · exact absurd h e1
              · exact absurd h e2
              · exact h
            · show astm (8 * l1).toNatClampNeg = _
              rw [cl1 _ _ h8, a2, hk]
    · exact Par.yes q1 (one n _ (fun h => q2 ⟨h.2.2.1, h.2.2.2⟩))
  · exact Par.yes o1 (one n _ (fun h => o2 ⟨h.1, by omega⟩))
theorem st_ans {K : Nat} (hK : 1000000000 ≤ K) {l1 l2 th sz cs ou us imany : Int32} {LL : List Nat} {lvf alev flfh flfs astm asm arsd pk : Nat → Int32} {pg : Nat → Option Nat} {sv : Nat → Nat → Int32} {rc : Int32 × (Nat → Int32) × (Nat → Int32)} {rm : Int32 × Int32} (hl : lvf = alev) (hP : SameP pg sv pk sz cs ou us imany astm asm) (hc : F_X9_statement K l1 l2 LL sv lvf flfh flfs sz pg = some rc) (hm : F_m_statement K l1 l2 th imany alev astm asm arsd = some rm) : rc.1 = rm.1 := by
  subst hl
  obtain ⟨D, M, N, ⟨k, v, j, hH, _⟩, hD, h1, h2, _, _, hRC, hRF⟩ := hP
  obtain ⟨dp, hN⟩ := hH.ns
  exact StaP_u (E_X9_statement K hK l1 l2 LL sv lvf flfh flfs sz pg D M N dp h1 hD (RowC.cfl hRC) hN rc hc) (E_m_statement K hK l1 l2 th imany lvf astm asm arsd D M N dp h2 hD hRF hN rm hm)
