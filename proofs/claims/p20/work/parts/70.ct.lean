/-! count: both answer alike -/
theorem cn1_take (D : List SRc) (i : Nat) (r : SRc) (h : D[i]? = some r) : D.take (i + 1) = D.take i ++ [r] := by
  rw [List.take_succ, h]; rfl
theorem E_m_outs (K : Nat) (hK : 1000000000 ≤ K) (imany : Int32) (astm : Nat → Int32) (D : List SRc) (hm : imany.toInt = (D.length : Int)) (hD : D.length ≤ 30) (hr : ∀ i : Nat, i < D.length → ∃ r : SRc, D[i]? = some r ∧ astm (8 * i) = r.1) :
    Par (F_m_outs K imany astm) (fun r => r.toInt = (cn1 D : Int)) := by
  have key : ∀ (n i : Nat) (l1 l2 : Int32), l2.toInt = (i : Int) → i ≤ D.length → l1.toInt = (cn1 (D.take i) : Int) → Par (L_m_outs K n 1 l1 l2 0 0 imany astm) (fun r => r.toInt = (cn1 D : Int)) := by
    intro n
    induction n using Nat.strongRecOn with
    | _ n ih =>
    intro i l1 l2 h2 hi h1
    cases n with
    | zero => exact Par.no
    | succ n =>
      rw [L_m_outs_e1]; unfold B_m_outs_1
      refine Par.br (fun h => ?_) (fun h => ?_)
      · rw [Int32.le_iff_toInt_le, hm, h2] at h
        have : i = D.length := by omega
        refine Par.ret ?_
        rw [h1, this, List.take_length]
      · rw [Int32.le_iff_toInt_le, hm, h2] at h
        obtain ⟨r, hr1, hr2⟩ := hr i (by omega)
        have h8 : (8 * l2).toInt = ((8 * i : Nat) : Int) := by
          rw [Int32.toInt_mul, h2]
          simp only [Int32.reduceToInt]
          rw [bmI (by omega) (by omega)]; omega
        have hcl := cn1_le (D.take i)
        rw [List.length_take] at hcl
        refine Par.br (fun _ => ?_) (fun _ => Par.no)
        rw [cl1 _ _ h8, hr2]
        have go : ∀ (m : Nat) (s0 : Int32), m < n + 1 → ((s0 = 1 ∧ r.1 = 1) ∨ (s0 = 0 ∧ r.1 ≠ 1)) → Par (L_m_outs K m 2 l1 l2 s0 l1 imany astm) (fun r => r.toInt = (cn1 D : Int)) := by
          intro m s0 hm9 hs
          cases m with
          | zero => exact Par.no
          | succ m =>
            rw [L_m_outs_e2]; unfold B_m_outs_2
            refine ih m (by omega) (i + 1) _ _ (ad1 l2 i h2 (by omega)) (by omega) ?_
            rw [cn1_take D i r hr1]
            rcases hs with ⟨a, b⟩ | ⟨a, b⟩
            · rw [a, cn1_1 _ _ b, adC l1 1 _ 1 h1 (by decide) (by omega) (by omega)]; omega
            · rw [a, cn1_0 _ _ b, adC l1 0 _ 0 h1 (by decide) (by omega) (by omega)]; omega
        exact Par.br (fun c => go n 1 (by omega) (Or.inl ⟨rfl, c⟩)) (fun c => go n 0 (by omega) (Or.inr ⟨rfl, c⟩))
  unfold F_m_outs
  obtain ⟨n, hn⟩ : ∃ n9, K = n9 + 1 := ⟨K - 1, by omega⟩
  generalize hz : L_m_outs K K 0 0 0 0 0 imany astm = z
  have hz2 : z = L_m_outs K (n + 1) 0 0 0 0 0 imany astm := by rw [← hn, hz]
  rw [hz2, L_m_outs_e0]; unfold B_m_outs_0
  exact key n 0 0 0 rfl (Nat.zero_le _) (by simp [cn1])
def cnL (f : Nat → Int32) (l : Int32) : Nat → Nat
  | 0 => 0
  | k + 1 => cnL f l k + (if f k = l then 1 else 0)
theorem cnL_le (f : Nat → Int32) (l : Int32) : ∀ k : Nat, cnL f l k ≤ k := by
  intro k
  induction k with
  | zero => exact Nat.le_refl _
  | succ k ih => unfold cnL; split <;> omega
theorem E_X9_countCells (K : Nat) (hK : 1000000000 ≤ K) (l1 : Int32) (f : Nat → Int32) : Par (F_X9_countCells K l1 f) (fun r => r.toInt = (cnL f l1 6 : Int)) := by
  have key : ∀ (n k : Nat) (l2 l3 : Int32), l3.toInt = (k : Int) → k ≤ 6 → l2.toInt = (cnL f l1 k : Int) → Par (L_X9_countCells K n 1 l1 l2 l3 f) (fun r => r.toInt = (cnL f l1 6 : Int)) := by
    intro n
    induction n using Nat.strongRecOn with
    | _ n ih =>
    intro k l2 l3 h3 hk h2
    cases n with
    | zero => exact Par.no
    | succ n =>
      rw [L_X9_countCells_e1]; unfold B_X9_countCells_1
      refine Par.br (fun h => ?_) (fun h => ?_)
      · rw [Int32.le_iff_toInt_le, h3] at h
        simp only [Int32.reduceToInt] at h
        have : k = 6 := by omega
        rw [this] at h2
        exact Par.ret h2
      · rw [Int32.le_iff_toInt_le, h3] at h
        simp only [Int32.reduceToInt] at h
        have hc := cnL_le f l1 k
        refine Par.br (fun _ => ?_) (fun _ => Par.no)
        rw [cl1 _ _ h3]
        have go : ∀ (m : Nat) (x : Int32), m < n + 1 → x.toInt = (cnL f l1 (k + 1) : Int) → Par (L_X9_countCells K m 2 l1 x l3 f) (fun r => r.toInt = (cnL f l1 6 : Int)) := by
          intro m x hm hx
          cases m with
          | zero => exact Par.no
          | succ m =>
            rw [L_X9_countCells_e2]; unfold B_X9_countCells_2
            exact ih m (by omega) (k + 1) x (l3 + 1) (ad1 l3 k h3 (by omega)) (by omega) hx
        refine Par.br (fun c => go n _ (by omega) ?_) (fun c => go n _ (by omega) ?_)
        · unfold cnL; rw [if_pos c, ad1 l2 _ h2 (by omega)]
        · unfold cnL; rw [if_neg c, h2]; rfl
  unfold F_X9_countCells
  obtain ⟨n, hn⟩ : ∃ n9, K = n9 + 1 := ⟨K - 1, by omega⟩
  generalize hz : L_X9_countCells K K 0 l1 0 0 f = z
  have hz2 : z = L_X9_countCells K (n + 1) 0 l1 0 0 f := by rw [← hn, hz]
  rw [hz2, L_X9_countCells_e0]; unfold B_X9_countCells_0
  exact key n 0 0 0 rfl (Nat.zero_le _) rfl
def CtP (l1 sz ou len : Int32) (f : Nat → Int32) (r : Int32) : Prop :=
  r.toInt = (if l1 = 0 then sz.toInt else if l1 = 1 then ou.toInt else if l1 = 2 then len.toInt else if 3 ≤ l1.toInt ∧ l1.toInt ≤ 6 then (cnL f (l1 - 3) 6 : Int) else -1)
theorem E_X9_count (K : Nat) (hK : 1000000000 ≤ K) (l1 sz ou len : Int32) (f : Nat → Int32) : Par (F_X9_count K l1 sz ou len f) (CtP l1 sz ou len f) := by
  unfold F_X9_count
  have h1c : l1 ≠ 0 → l1 ≠ 1 → l1 ≠ 2 → ¬ (3 ≤ l1.toInt ∧ l1.toInt ≤ 6) → ∀ m, Par (L_X9_count K m 1 l1 sz ou len f) (CtP l1 sz ou len f) := by
    intro a b c d m
    cases m with
    | zero => exact Par.no
    | succ m =>
      rw [L_X9_count_e1]; unfold B_X9_count_1
      refine Par.ret ?_
      unfold CtP; rw [if_neg a, if_neg b, if_neg c, if_neg d]; rfl
  obtain ⟨n, hn⟩ : ∃ n9, K = n9 + 1 := ⟨K - 1, by omega⟩
  generalize hz : L_X9_count K K 0 l1 sz ou len f = z
  have hz2 : z = L_X9_count K (n + 1) 0 l1 sz ou len f := by rw [← hn, hz]
  rw [hz2, L_X9_count_e0]; unfold B_X9_count_0
  refine Par.br (fun a => Par.ret ?_) (fun a => Par.br (fun b => Par.ret ?_) (fun b => Par.br (fun c => Par.ret ?_) (fun c => Par.br (fun d => h1c a b c ?_ n) (fun d => Par.br (fun e => h1c a b c ?_ n) (fun e => ?_)))))
  · unfold CtP; rw [if_pos a]
  · unfold CtP; rw [if_neg a, if_pos b]
  · unfold CtP; rw [if_neg a, if_neg b, if_pos c]
  · rw [Int32.lt_iff_toInt_lt] at d
    simp only [Int32.reduceToInt] at d
    omega
  · rw [Int32.lt_iff_toInt_lt] at e
    simp only [Int32.reduceToInt] at e
    omega
  · rw [Int32.lt_iff_toInt_lt] at d e
    simp only [Int32.reduceToInt] at d e
    refine Par.bd (E_X9_countCells K hK (l1 - 3) f) (fun o ho => Par.ret ?_)
    unfold CtP; rw [if_neg a, if_neg b, if_neg c, if_pos ⟨by omega, by omega⟩]; exact ho
theorem E_m_count (K : Nat) (hK : 1000000000 ≤ K) (l1 th ityped imany : Int32) (f astm : Nat → Int32) (ou : Int32) (ho : Par (F_m_outs K imany astm) (fun r => r.toInt = ou.toInt)) : Par (F_m_count K l1 th ityped imany f astm) (fun r => CtP l1 imany ou ityped f r.1) := by
  have key : ∀ (n k : Nat) (l2 l3 t9 : Int32), l3.toInt = (k : Int) → k ≤ 6 → l2.toInt = (cnL f (l1 - 3) k : Int) → Par (L_m_count K n 1 l1 l2 l3 0 0 t9 ityped imany f astm) (fun r => CtP l1 imany ou ityped f r.1) := by
    intro n
    induction n using Nat.strongRecOn with
    | _ n ih =>
    intro k l2 l3 t9 h3 hk h2
    cases n with
    | zero => exact Par.no
    | succ n =>
      rw [L_m_count_e1]; unfold B_m_count_1
      have hc := cnL_le f (l1 - 3) k
      refine Par.br (fun h => ?_) (fun h => ?_)
      · rw [Int32.le_iff_toInt_le, h3] at h
        simp only [Int32.reduceToInt] at h
        have : k = 6 := by omega
        rw [this] at h2
        refine Par.br (fun a => Par.ret ?_) (fun a => Par.br (fun b => ?_) (fun b => Par.br (fun c => Par.ret ?_) (fun c => ?_)))
        · unfold CtP; rw [if_pos a]
        · refine Par.bd ho (fun o h9 => Par.ret ?_)
          unfold CtP; rw [if_neg a, if_pos b]; exact h9
        · unfold CtP; rw [if_neg a, if_neg b, if_pos c]
        · refine Par.bd (T_m_in K hK l1 3 6 True.intro).pr (fun o h9 => ?_)
          simp only [Int32.reduceToInt] at h9
          rcases h9 with ⟨e, d⟩ | ⟨e, d⟩
          · refine Par.not (by rw [e]; decide) (Par.ret ?_)
            unfold CtP; rw [if_neg a, if_neg b, if_neg c, if_pos d]; exact h2
          · refine Par.yes e (Par.ret ?_)
            unfold CtP; rw [if_neg a, if_neg b, if_neg c, if_neg (by omega)]; rfl
      · rw [Int32.le_iff_toInt_le, h3] at h
        simp only [Int32.reduceToInt] at h
        refine Par.br (fun _ => ?_) (fun _ => Par.no)
        rw [cl1 _ _ h3]
        have go : ∀ (m : Nat) (s0 : Int32), m < n + 1 → ((s0 = 1 ∧ f k = l1 - 3) ∨ (s0 = 0 ∧ f k ≠ l1 - 3)) → Par (L_m_count K m 2 l1 l2 l3 s0 l2 t9 ityped imany f astm) (fun r => CtP l1 imany ou ityped f r.1) := by
          intro m s0 hm hs
          cases m with
          | zero => exact Par.no
          | succ m =>
            rw [L_m_count_e2]; unfold B_m_count_2
            refine ih m (by omega) (k + 1) _ (l3 + 1) t9 (ad1 l3 k h3 (by omega)) (by omega) ?_
            unfold cnL
            rcases hs with ⟨a, b⟩ | ⟨a, b⟩
            · rw [a, if_pos b, adC l2 1 _ 1 h2 (by decide) (by omega) (by omega)]; omega
            · rw [a, if_neg b, adC l2 0 _ 0 h2 (by decide) (by omega) (by omega)]; omega
        exact Par.br (fun c => go n 1 (by omega) (Or.inl ⟨rfl, c⟩)) (fun c => go n 0 (by omega) (Or.inr ⟨rfl, c⟩))
  unfold F_m_count
  obtain ⟨n, hn⟩ : ∃ n9, K = n9 + 1 := ⟨K - 1, by omega⟩
  generalize hz : L_m_count K K 0 l1 0 0 0 0 th ityped imany f astm = z
  have hz2 : z = L_m_count K (n + 1) 0 l1 0 0 0 0 th ityped imany f astm := by rw [← hn, hz]
  rw [hz2, L_m_count_e0]; unfold B_m_count_0
  exact key n 0 0 0 0 rfl (Nat.zero_le _) rfl
theorem ct_ans {K : Nat} (hK : 1000000000 ≤ K) {l1 th sz ou cs us len ityped imany : Int32} {lvf alev astm asm ppk : Nat → Int32} {ppg : Nat → Option Nat} {sv : Nat → Nat → Int32} {rc : Int32} {rm : Int32 × Int32} (hl : lvf = alev) (he : len = ityped) (hP : SameP ppg sv ppk sz cs ou us imany astm asm) (hc : F_X9_count K l1 sz ou len lvf = some rc) (hm : F_m_count K l1 th ityped imany alev astm = some rm) : rc = rm.1 := by
  subst hl
  subst he
  obtain ⟨D, M, N, _, hD, h1, h2, h3, _, _, hF⟩ := hP
  have hou := (E_m_outs K hK imany astm D h2 hD (fun i hi => by
    obtain ⟨r, cf, a, b, _⟩ := hF i hi
    exact ⟨r, a, b⟩)).mono (Q := fun r => r.toInt = ou.toInt) (fun r hr => by rw [hr, h3])
  have hs : sz = imany := Int32.toInt_inj.mp (by rw [h1, h2])
  subst hs
  have a1 := E_X9_count K hK l1 sz ou len lvf rc hc
  have a2 := E_m_count K hK l1 th len sz lvf astm ou hou rm hm
  unfold CtP at a1 a2
  exact Int32.toInt_inj.mp (by rw [a1, a2])
