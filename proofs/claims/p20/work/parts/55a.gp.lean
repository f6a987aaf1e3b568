/-! p3: the place at hand is never below 0 -/
def PLc (mn : Int32) (fp : Nat → Int32) : Prop := ∀ j : Nat, (j : Int) < mn.toInt → 0 ≤ (fp j).toInt
theorem PL_X7_advance (K : Nat) (hK : 1000000000 ≤ K) (tk_many : Int32) (tk_at : Int32) (tk_kind : Int32) (tk_value : Int32) (tk_place : Int32) (tkfk : Nat → Int32) (tkfv : Nat → Int32) (tkfp : Nat → Int32) (h1 : PLc tk_many tkfp) (h2 : 0 ≤ tk_place.toInt) : Par (F_X7_advance K tk_many tk_at tk_kind tk_value tk_place tkfk tkfv tkfp) (fun r => 0 ≤ (r.2.2.2).toInt) := by
  unfold F_X7_advance
  obtain ⟨n, rfl⟩ : ∃ n9, K = n9 + 1 := ⟨K - 1, by omega⟩
  rw [L_X7_advance_e0]; unfold B_X7_advance_0
  refine Par.br (fun h => ?_) (fun _ => Par.ret h2)
  refine Par.br (fun hok => ?_) (fun _ => Par.no)
  refine Par.br (fun _ => ?_) (fun _ => Par.no)
  refine Par.br (fun _ => ?_) (fun _ => Par.no)
  refine Par.ret ?_
  have hk := (okIx_iff _ _).mp hok
  rw [Int32.lt_iff_toInt_lt] at h
  refine h1 _ ?_
  rw [clampI hk.1]; exact h
set_option maxRecDepth 100000 in
theorem PLL_X3_take (K : Nat) (hK : 1000000000 ≤ K)  : ∀ (n c : Nat) (l1 : Int32) (tk_many : Int32) (tk_at : Int32) (tk_kind : Int32) (tk_value : Int32) (tk_place : Int32) (tkfk : Nat → Int32) (tkfv : Nat → Int32) (tkfp : Nat → Int32), PLc tk_many tkfp → 0 ≤ tk_place.toInt → Par (L_X3_take K  n c l1 tk_many tk_at tk_kind tk_value tk_place tkfk tkfv tkfp) (fun r => 0 ≤ (r.2.2.2.2).toInt) := by
  intro n
  induction n with
  | zero => intros; exact Par.no
  | succ n ih =>
    intro c l1 tk_many tk_at tk_kind tk_value tk_place tkfk tkfv tkfp hfp hpl
    by_cases e0 : c = 0
    · subst e0
      rw [L_X3_take_e0]; unfold B_X3_take_0
      repeat' (first
        | exact Par.no
        | (apply ih <;> assumption)
        | refine Par.bd (PL_X7_advance K hK _ _ _ _ _ _ _ _ (by assumption) (by assumption)) (fun o9 h9 => ?_)
        | refine Par.br (fun _ => ?_) (fun _ => ?_)
        | exact Par.ret (by assumption)
        | refine Par.bd (P := fun _ => True) (fun _ _ => True.intro) (fun o9 _ => ?_))
    · have : L_X3_take K  (n + 1) c l1 tk_many tk_at tk_kind tk_value tk_place tkfk tkfv tkfp = none := by
        match c, e0 with
        | 0, e0 => exact absurd rfl e0
        | m + 1, _ => rfl
      rw [this]; exact Par.no
theorem PL_X3_take (K : Nat) (hK : 1000000000 ≤ K) (l1 : Int32) (tk_many : Int32) (tk_at : Int32) (tk_kind : Int32) (tk_value : Int32) (tk_place : Int32) (tkfk : Nat → Int32) (tkfv : Nat → Int32) (tkfp : Nat → Int32) (h1 : PLc tk_many tkfp) (h2 : 0 ≤ tk_place.toInt) : Par (F_X3_take K l1 tk_many tk_at tk_kind tk_value tk_place tkfk tkfv tkfp) (fun r => 0 ≤ (r.2.2.2.2).toInt) := by
  unfold F_X3_take; exact PLL_X3_take K hK K 0 l1 tk_many tk_at tk_kind tk_value tk_place tkfk tkfv tkfp h1 h2
set_option maxRecDepth 100000 in
theorem PLL_X3_takeOperand (K : Nat) (hK : 1000000000 ≤ K)  : ∀ (n c : Nat) (l1 : Int32) (ps_operands : Int32) (tk_many : Int32) (tk_at : Int32) (tk_kind : Int32) (tk_value : Int32) (tk_place : Int32) (tkfk : Nat → Int32) (tkfv : Nat → Int32) (tkfp : Nat → Int32) (pp_codeSize : Int32) (ppk : Nat → Int32), PLc tk_many tkfp → 0 ≤ tk_place.toInt → Par (L_X3_takeOperand K  n c l1 ps_operands tk_many tk_at tk_kind tk_value tk_place tkfk tkfv tkfp pp_codeSize ppk) (fun r => 0 ≤ (r.2.2.2.2.2.1).toInt) := by
  intro n
  induction n with
  | zero => intros; exact Par.no
  | succ n ih =>
    intro c l1 ps_operands tk_many tk_at tk_kind tk_value tk_place tkfk tkfv tkfp pp_codeSize ppk hfp hpl
    by_cases e0 : c = 0
    · subst e0
      rw [L_X3_takeOperand_e0]; unfold B_X3_takeOperand_0
      repeat' (first
        | exact Par.no
        | (apply ih <;> assumption)
        | refine Par.bd (PL_X7_advance K hK _ _ _ _ _ _ _ _ (by assumption) (by assumption)) (fun o9 h9 => ?_)
        | refine Par.br (fun _ => ?_) (fun _ => ?_)
        | exact Par.ret (by assumption)
        | refine Par.bd (P := fun _ => True) (fun _ _ => True.intro) (fun o9 _ => ?_))
    · have : L_X3_takeOperand K  (n + 1) c l1 ps_operands tk_many tk_at tk_kind tk_value tk_place tkfk tkfv tkfp pp_codeSize ppk = none := by
        match c, e0 with
        | 0, e0 => exact absurd rfl e0
        | m + 1, _ => rfl
      rw [this]; exact Par.no
theorem PL_X3_takeOperand (K : Nat) (hK : 1000000000 ≤ K) (l1 : Int32) (ps_operands : Int32) (tk_many : Int32) (tk_at : Int32) (tk_kind : Int32) (tk_value : Int32) (tk_place : Int32) (tkfk : Nat → Int32) (tkfv : Nat → Int32) (tkfp : Nat → Int32) (pp_codeSize : Int32) (ppk : Nat → Int32) (h1 : PLc tk_many tkfp) (h2 : 0 ≤ tk_place.toInt) : Par (F_X3_takeOperand K l1 ps_operands tk_many tk_at tk_kind tk_value tk_place tkfk tkfv tkfp pp_codeSize ppk) (fun r => 0 ≤ (r.2.2.2.2.2.1).toInt) := by
  unfold F_X3_takeOperand; exact PLL_X3_takeOperand K hK K 0 l1 ps_operands tk_many tk_at tk_kind tk_value tk_place tkfk tkfv tkfp pp_codeSize ppk h1 h2
set_option maxRecDepth 100000 in
theorem PLL_X3_takeSum (K : Nat) (hK : 1000000000 ≤ K) (cal_X3_takeSum : Int32 → Int32 → Int32 → Int32 → Int32 → Int32 → Int32 → Int32 → (Nat → Int32) → (Nat → Int32) → (Nat → Int32) → Int32 → (Nat → Int32) → Option (Int32 × Int32 × Int32 × Int32 × Int32 × Int32 × Int32 × Int32 × (Nat → Int32))) (cal_X3_takeTerm : Int32 → Int32 → Int32 → Int32 → Int32 → Int32 → Int32 → Int32 → (Nat → Int32) → (Nat → Int32) → (Nat → Int32) → Int32 → (Nat → Int32) → Option (Int32 × Int32 × Int32 × Int32 × Int32 × Int32 × Int32 × Int32 × (Nat → Int32))) (cal_X3_takeFactor : Int32 → Int32 → Int32 → Int32 → Int32 → Int32 → Int32 → Int32 → (Nat → Int32) → (Nat → Int32) → (Nat → Int32) → Int32 → (Nat → Int32) → Option (Int32 × Int32 × Int32 × Int32 × Int32 × Int32 × Int32 × Int32 × (Nat → Int32))) (cal_X3_takeComparison : Int32 → Int32 → Int32 → Int32 → Int32 → Int32 → Int32 → Int32 → (Nat → Int32) → (Nat → Int32) → (Nat → Int32) → Int32 → (Nat → Int32) → Option (Int32 × Int32 × Int32 × Int32 × Int32 × Int32 × Int32 × Int32 × (Nat → Int32))) (hX3_takeSum : ∀ (l1 : Int32) (ps_operands : Int32) (ps_cells : Int32) (tk_many : Int32) (tk_at : Int32) (tk_kind : Int32) (tk_value : Int32) (tk_place : Int32) (tkfk : Nat → Int32) (tkfv : Nat → Int32) (tkfp : Nat → Int32) (pp_codeSize : Int32) (ppk : Nat → Int32), PLc tk_many tkfp → 0 ≤ tk_place.toInt → Par (cal_X3_takeSum l1 ps_operands ps_cells tk_many tk_at tk_kind tk_value tk_place tkfk tkfv tkfp pp_codeSize ppk) (fun r => 0 ≤ (r.2.2.2.2.2.2.1).toInt)) (hX3_takeTerm : ∀ (l1 : Int32) (ps_operands : Int32) (ps_cells : Int32) (tk_many : Int32) (tk_at : Int32) (tk_kind : Int32) (tk_value : Int32) (tk_place : Int32) (tkfk : Nat → Int32) (tkfv : Nat → Int32) (tkfp : Nat → Int32) (pp_codeSize : Int32) (ppk : Nat → Int32), PLc tk_many tkfp → 0 ≤ tk_place.toInt → Par (cal_X3_takeTerm l1 ps_operands ps_cells tk_many tk_at tk_kind tk_value tk_place tkfk tkfv tkfp pp_codeSize ppk) (fun r => 0 ≤ (r.2.2.2.2.2.2.1).toInt)) (hX3_takeFactor : ∀ (l1 : Int32) (ps_operands : Int32) (ps_cells : Int32) (tk_many : Int32) (tk_at : Int32) (tk_kind : Int32) (tk_value : Int32) (tk_place : Int32) (tkfk : Nat → Int32) (tkfv : Nat → Int32) (tkfp : Nat → Int32) (pp_codeSize : Int32) (ppk : Nat → Int32), PLc tk_many tkfp → 0 ≤ tk_place.toInt → Par (cal_X3_takeFactor l1 ps_operands ps_cells tk_many tk_at tk_kind tk_value tk_place tkfk tkfv tkfp pp_codeSize ppk) (fun r => 0 ≤ (r.2.2.2.2.2.2.1).toInt)) (hX3_takeComparison : ∀ (l1 : Int32) (ps_operands : Int32) (ps_cells : Int32) (tk_many : Int32) (tk_at : Int32) (tk_kind : Int32) (tk_value : Int32) (tk_place : Int32) (tkfk : Nat → Int32) (tkfv : Nat → Int32) (tkfp : Nat → Int32) (pp_codeSize : Int32) (ppk : Nat → Int32), PLc tk_many tkfp → 0 ≤ tk_place.toInt → Par (cal_X3_takeComparison l1 ps_operands ps_cells tk_many tk_at tk_kind tk_value tk_place tkfk tkfv tkfp pp_codeSize ppk) (fun r => 0 ≤ (r.2.2.2.2.2.2.1).toInt)) : ∀ (n c : Nat) (l1 : Int32) (l2 : Int32) (s0 : Int32) (ps_operands : Int32) (ps_cells : Int32) (tk_many : Int32) (tk_at : Int32) (tk_kind : Int32) (tk_value : Int32) (tk_place : Int32) (tkfk : Nat → Int32) (tkfv : Nat → Int32) (tkfp : Nat → Int32) (pp_codeSize : Int32) (ppk : Nat → Int32), PLc tk_many tkfp → 0 ≤ tk_place.toInt → Par (L_X3_takeSum K cal_X3_takeSum cal_X3_takeTerm cal_X3_takeFactor cal_X3_takeComparison n c l1 l2 s0 ps_operands ps_cells tk_many tk_at tk_kind tk_value tk_place tkfk tkfv tkfp pp_codeSize ppk) (fun r => 0 ≤ (r.2.2.2.2.2.2.1).toInt) := by
  intro n
  induction n with
  | zero => intros; exact Par.no
  | succ n ih =>
    intro c l1 l2 s0 ps_operands ps_cells tk_many tk_at tk_kind tk_value tk_place tkfk tkfv tkfp pp_codeSize ppk hfp hpl
    by_cases e0 : c = 0
    · subst e0
      rw [L_X3_takeSum_e0]; unfold B_X3_takeSum_0
      repeat' (first
        | exact Par.no
        | (apply ih <;> assumption)
        | refine Par.bd (PL_X7_advance K hK _ _ _ _ _ _ _ _ (by assumption) (by assumption)) (fun o9 h9 => ?_)
        | refine Par.bd (PL_X3_take K hK _ _ _ _ _ _ _ _ _ (by assumption) (by assumption)) (fun o9 h9 => ?_)
        | refine Par.bd (PL_X3_takeOperand K hK _ _ _ _ _ _ _ _ _ _ _ _ (by assumption) (by assumption)) (fun o9 h9 => ?_)
        | refine Par.bd (hX3_takeSum _ _ _ _ _ _ _ _ _ _ _ _ _ (by assumption) (by assumption)) (fun o9 h9 => ?_)
        | refine Par.bd (hX3_takeTerm _ _ _ _ _ _ _ _ _ _ _ _ _ (by assumption) (by assumption)) (fun o9 h9 => ?_)
        | refine Par.bd (hX3_takeFactor _ _ _ _ _ _ _ _ _ _ _ _ _ (by assumption) (by assumption)) (fun o9 h9 => ?_)
        | refine Par.bd (hX3_takeComparison _ _ _ _ _ _ _ _ _ _ _ _ _ (by assumption) (by assumption)) (fun o9 h9 => ?_)
        | refine Par.br (fun _ => ?_) (fun _ => ?_)
        | exact Par.ret (by assumption)
        | refine Par.bd (P := fun _ => True) (fun _ _ => True.intro) (fun o9 _ => ?_))
    by_cases e1 : c = 1
    · subst e1
      rw [L_X3_takeSum_e1]; unfold B_X3_takeSum_1
      repeat' (first
        | exact Par.no
        | (apply ih <;> assumption)
        | refine Par.bd (PL_X7_advance K hK _ _ _ _ _ _ _ _ (by assumption) (by assumption)) (fun o9 h9 => ?_)
        | refine Par.bd (PL_X3_take K hK _ _ _ _ _ _ _ _ _ (by assumption) (by assumption)) (fun o9 h9 => ?_)
        | refine Par.bd (PL_X3_takeOperand K hK _ _ _ _ _ _ _ _ _ _ _ _ (by assumption) (by assumption)) (fun o9 h9 => ?_)
        | refine Par.bd (hX3_takeSum _ _ _ _ _ _ _ _ _ _ _ _ _ (by assumption) (by assumption)) (fun o9 h9 => ?_)
        | refine Par.bd (hX3_takeTerm _ _ _ _ _ _ _ _ _ _ _ _ _ (by assumption) (by assumption)) (fun o9 h9 => ?_)
        | refine Par.bd (hX3_takeFactor _ _ _ _ _ _ _ _ _ _ _ _ _ (by assumption) (by assumption)) (fun o9 h9 => ?_)
        | refine Par.bd (hX3_takeComparison _ _ _ _ _ _ _ _ _ _ _ _ _ (by assumption) (by assumption)) (fun o9 h9 => ?_)
        | refine Par.br (fun _ => ?_) (fun _ => ?_)
        | exact Par.ret (by assumption)
        | refine Par.bd (P := fun _ => True) (fun _ _ => True.intro) (fun o9 _ => ?_))
    by_cases e2 : c = 2
    · subst e2
      rw [L_X3_takeSum_e2]; unfold B_X3_takeSum_2
      repeat' (first
        | exact Par.no
        | (apply ih <;> assumption)
        | refine Par.bd (PL_X7_advance K hK _ _ _ _ _ _ _ _ (by assumption) (by assumption)) (fun o9 h9 => ?_)
        | refine Par.bd (PL_X3_take K hK _ _ _ _ _ _ _ _ _ (by assumption) (by assumption)) (fun o9 h9 => ?_)
        | refine Par.bd (PL_X3_takeOperand K hK _ _ _ _ _ _ _ _ _ _ _ _ (by assumption) (by assumption)) (fun o9 h9 => ?_)
        | refine Par.bd (hX3_takeSum _ _ _ _ _ _ _ _ _ _ _ _ _ (by assumption) (by assumption)) (fun o9 h9 => ?_)
        | refine Par.bd (hX3_takeTerm _ _ _ _ _ _ _ _ _ _ _ _ _ (by assumption) (by assumption)) (fun o9 h9 => ?_)
        | refine Par.bd (hX3_takeFactor _ _ _ _ _ _ _ _ _ _ _ _ _ (by assumption) (by assumption)) (fun o9 h9 => ?_)
        | refine Par.bd (hX3_takeComparison _ _ _ _ _ _ _ _ _ _ _ _ _ (by assumption) (by assumption)) (fun o9 h9 => ?_)
        | refine Par.br (fun _ => ?_) (fun _ => ?_)
        | exact Par.ret (by assumption)
        | refine Par.bd (P := fun _ => True) (fun _ _ => True.intro) (fun o9 _ => ?_))
    by_cases e3 : c = 3
    · subst e3
      rw [L_X3_takeSum_e3]; unfold B_X3_takeSum_3
      repeat' (first
        | exact Par.no
        | (apply ih <;> assumption)
        | refine Par.bd (PL_X7_advance K hK _ _ _ _ _ _ _ _ (by assumption) (by assumption)) (fun o9 h9 => ?_)
        | refine Par.bd (PL_X3_take K hK _ _ _ _ _ _ _ _ _ (by assumption) (by assumption)) (fun o9 h9 => ?_)
        | refine Par.bd (PL_X3_takeOperand K hK _ _ _ _ _ _ _ _ _ _ _ _ (by assumption) (by assumption)) (fun o9 h9 => ?_)
        | refine Par.bd (hX3_takeSum _ _ _ _ _ _ _ _ _ _ _ _ _ (by assumption) (by assumption)) (fun o9 h9 => ?_)
        | refine Par.bd (hX3_takeTerm _ _ _ _ _ _ _ _ _ _ _ _ _ (by assumption) (by assumption)) (fun o9 h9 => ?_)
        | refine Par.bd (hX3_takeFactor _ _ _ _ _ _ _ _ _ _ _ _ _ (by assumption) (by assumption)) (fun o9 h9 => ?_)
        | refine Par.bd (hX3_takeComparison _ _ _ _ _ _ _ _ _ _ _ _ _ (by assumption) (by assumption)) (fun o9 h9 => ?_)
        | refine Par.br (fun _ => ?_) (fun _ => ?_)
        | exact Par.ret (by assumption)
        | refine Par.bd (P := fun _ => True) (fun _ _ => True.intro) (fun o9 _ => ?_))
    by_cases e4 : c = 4
    · subst e4
      rw [L_X3_takeSum_e4]; unfold B_X3_takeSum_4
      repeat' (first
        | exact Par.no
        | (apply ih <;> assumption)
        | refine Par.bd (PL_X7_advance K hK _ _ _ _ _ _ _ _ (by assumption) (by assumption)) (fun o9 h9 => ?_)
        | refine Par.bd (PL_X3_take K hK _ _ _ _ _ _ _ _ _ (by assumption) (by assumption)) (fun o9 h9 => ?_)
        | refine Par.bd (PL_X3_takeOperand K hK _ _ _ _ _ _ _ _ _ _ _ _ (by assumption) (by assumption)) (fun o9 h9 => ?_)
        | refine Par.bd (hX3_takeSum _ _ _ _ _ _ _ _ _ _ _ _ _ (by assumption) (by assumption)) (fun o9 h9 => ?_)
        | refine Par.bd (hX3_takeTerm _ _ _ _ _ _ _ _ _ _ _ _ _ (by assumption) (by assumption)) (fun o9 h9 => ?_)
        | refine Par.bd (hX3_takeFactor _ _ _ _ _ _ _ _ _ _ _ _ _ (by assumption) (by assumption)) (fun o9 h9 => ?_)
        | refine Par.bd (hX3_takeComparison _ _ _ _ _ _ _ _ _ _ _ _ _ (by assumption) (by assumption)) (fun o9 h9 => ?_)
        | refine Par.br (fun _ => ?_) (fun _ => ?_)
        | exact Par.ret (by assumption)
        | refine Par.bd (P := fun _ => True) (fun _ _ => True.intro) (fun o9 _ => ?_))
    · have : L_X3_takeSum K cal_X3_takeSum cal_X3_takeTerm cal_X3_takeFactor cal_X3_takeComparison (n + 1) c l1 l2 s0 ps_operands ps_cells tk_many tk_at tk_kind tk_value tk_place tkfk tkfv tkfp pp_codeSize ppk = none := by
        match c, e0, e1, e2, e3, e4 with
        | 0, e0, _, _, _, _ => exact absurd rfl e0
        | 1, _, e1, _, _, _ => exact absurd rfl e1
        | 2, _, _, e2, _, _ => exact absurd rfl e2
        | 3, _, _, _, e3, _ => exact absurd rfl e3
        | 4, _, _, _, _, e4 => exact absurd rfl e4
        | m + 5, _, _, _, _, _ => rfl
      rw [this]; exact Par.no
set_option maxRecDepth 100000 in
theorem PLL_X3_takeTerm (K : Nat) (hK : 1000000000 ≤ K) (cal_X3_takeSum : Int32 → Int32 → Int32 → Int32 → Int32 → Int32 → Int32 → Int32 → (Nat → Int32) → (Nat → Int32) → (Nat → Int32) → Int32 → (Nat → Int32) → Option (Int32 × Int32 × Int32 × Int32 × Int32 × Int32 × Int32 × Int32 × (Nat → Int32))) (cal_X3_takeTerm : Int32 → Int32 → Int32 → Int32 → Int32 → Int32 → Int32 → Int32 → (Nat → Int32) → (Nat → Int32) → (Nat → Int32) → Int32 → (Nat → Int32) → Option (Int32 × Int32 × Int32 × Int32 × Int32 × Int32 × Int32 × Int32 × (Nat → Int32))) (cal_X3_takeFactor : Int32 → Int32 → Int32 → Int32 → Int32 → Int32 → Int32 → Int32 → (Nat → Int32) → (Nat → Int32) → (Nat → Int32) → Int32 → (Nat → Int32) → Option (Int32 × Int32 × Int32 × Int32 × Int32 × Int32 × Int32 × Int32 × (Nat → Int32))) (cal_X3_takeComparison : Int32 → Int32 → Int32 → Int32 → Int32 → Int32 → Int32 → Int32 → (Nat → Int32) → (Nat → Int32) → (Nat → Int32) → Int32 → (Nat → Int32) → Option (Int32 × Int32 × Int32 × Int32 × Int32 × Int32 × Int32 × Int32 × (Nat → Int32))) (hX3_takeSum : ∀ (l1 : Int32) (ps_operands : Int32) (ps_cells : Int32) (tk_many : Int32) (tk_at : Int32) (tk_kind : Int32) (tk_value : Int32) (tk_place : Int32) (tkfk : Nat → Int32) (tkfv : Nat → Int32) (tkfp : Nat → Int32) (pp_codeSize : Int32) (ppk : Nat → Int32), PLc tk_many tkfp → 0 ≤ tk_place.toInt → Par (cal_X3_takeSum l1 ps_operands ps_cells tk_many tk_at tk_kind tk_value tk_place tkfk tkfv tkfp pp_codeSize ppk) (fun r => 0 ≤ (r.2.2.2.2.2.2.1).toInt)) (hX3_takeTerm : ∀ (l1 : Int32) (ps_operands : Int32) (ps_cells : Int32) (tk_many : Int32) (tk_at : Int32) (tk_kind : Int32) (tk_value : Int32) (tk_place : Int32) (tkfk : Nat → Int32) (tkfv : Nat → Int32) (tkfp : Nat → Int32) (pp_codeSize : Int32) (ppk : Nat → Int32), PLc tk_many tkfp → 0 ≤ tk_place.toInt → Par (cal_X3_takeTerm l1 ps_operands ps_cells tk_many tk_at tk_kind tk_value tk_place tkfk tkfv tkfp pp_codeSize ppk) (fun r => 0 ≤ (r.2.2.2.2.2.2.1).toInt)) (hX3_takeFactor : ∀ (l1 : Int32) (ps_operands : Int32) (ps_cells : Int32) (tk_many : Int32) (tk_at : Int32) (tk_kind : Int32) (tk_value : Int32) (tk_place : Int32) (tkfk : Nat → Int32) (tkfv : Nat → Int32) (tkfp : Nat → Int32) (pp_codeSize : Int32) (ppk : Nat → Int32), PLc tk_many tkfp → 0 ≤ tk_place.toInt → Par (cal_X3_takeFactor l1 ps_operands ps_cells tk_many tk_at tk_kind tk_value tk_place tkfk tkfv tkfp pp_codeSize ppk) (fun r => 0 ≤ (r.2.2.2.2.2.2.1).toInt)) (hX3_takeComparison : ∀ (l1 : Int32) (ps_operands : Int32) (ps_cells : Int32) (tk_many : Int32) (tk_at : Int32) (tk_kind : Int32) (tk_value : Int32) (tk_place : Int32) (tkfk : Nat → Int32) (tkfv : Nat → Int32) (tkfp : Nat → Int32) (pp_codeSize : Int32) (ppk : Nat → Int32), PLc tk_many tkfp → 0 ≤ tk_place.toInt → Par (cal_X3_takeComparison l1 ps_operands ps_cells tk_many tk_at tk_kind tk_value tk_place tkfk tkfv tkfp pp_codeSize ppk) (fun r => 0 ≤ (r.2.2.2.2.2.2.1).toInt)) : ∀ (n c : Nat) (l1 : Int32) (l2 : Int32) (s0 : Int32) (ps_operands : Int32) (ps_cells : Int32) (tk_many : Int32) (tk_at : Int32) (tk_kind : Int32) (tk_value : Int32) (tk_place : Int32) (tkfk : Nat → Int32) (tkfv : Nat → Int32) (tkfp : Nat → Int32) (pp_codeSize : Int32) (ppk : Nat → Int32), PLc tk_many tkfp → 0 ≤ tk_place.toInt → Par (L_X3_takeTerm K cal_X3_takeSum cal_X3_takeTerm cal_X3_takeFactor cal_X3_takeComparison n c l1 l2 s0 ps_operands ps_cells tk_many tk_at tk_kind tk_value tk_place tkfk tkfv tkfp pp_codeSize ppk) (fun r => 0 ≤ (r.2.2.2.2.2.2.1).toInt) := by
  intro n
  induction n with
  | zero => intros; exact Par.no
  | succ n ih =>
    intro c l1 l2 s0 ps_operands ps_cells tk_many tk_at tk_kind tk_value tk_place tkfk tkfv tkfp pp_codeSize ppk hfp hpl
    by_cases e0 : c = 0
    · subst e0
      rw [L_X3_takeTerm_e0]; unfold B_X3_takeTerm_0
      repeat' (first
        | exact Par.no
        | (apply ih <;> assumption)
        | refine Par.bd (PL_X7_advance K hK _ _ _ _ _ _ _ _ (by assumption) (by assumption)) (fun o9 h9 => ?_)
        | refine Par.bd (PL_X3_take K hK _ _ _ _ _ _ _ _ _ (by assumption) (by assumption)) (fun o9 h9 => ?_)
        | refine Par.bd (PL_X3_takeOperand K hK _ _ _ _ _ _ _ _ _ _ _ _ (by assumption) (by assumption)) (fun o9 h9 => ?_)
        | refine Par.bd (hX3_takeSum _ _ _ _ _ _ _ _ _ _ _ _ _ (by assumption) (by assumption)) (fun o9 h9 => ?_)
        | refine Par.bd (hX3_takeTerm _ _ _ _ _ _ _ _ _ _ _ _ _ (by assumption) (by assumption)) (fun o9 h9 => ?_)
        | refine Par.bd (hX3_takeFactor _ _ _ _ _ _ _ _ _ _ _ _ _ (by assumption) (by assumption)) (fun o9 h9 => ?_)
        | refine Par.bd (hX3_takeComparison _ _ _ _ _ _ _ _ _ _ _ _ _ (by assumption) (by assumption)) (fun o9 h9 => ?_)
        | refine Par.br (fun _ => ?_) (fun _ => ?_)
        | exact Par.ret (by assumption)
        | refine Par.bd (P := fun _ => True) (fun _ _ => True.intro) (fun o9 _ => ?_))
    by_cases e1 : c = 1
    · subst e1
      rw [L_X3_takeTerm_e1]; unfold B_X3_takeTerm_1
      repeat' (first
        | exact Par.no
        | (apply ih <;> assumption)
        | refine Par.bd (PL_X7_advance K hK _ _ _ _ _ _ _ _ (by assumption) (by assumption)) (fun o9 h9 => ?_)
        | refine Par.bd (PL_X3_take K hK _ _ _ _ _ _ _ _ _ (by assumption) (by assumption)) (fun o9 h9 => ?_)
        | refine Par.bd (PL_X3_takeOperand K hK _ _ _ _ _ _ _ _ _ _ _ _ (by assumption) (by assumption)) (fun o9 h9 => ?_)
        | refine Par.bd (hX3_takeSum _ _ _ _ _ _ _ _ _ _ _ _ _ (by assumption) (by assumption)) (fun o9 h9 => ?_)
        | refine Par.bd (hX3_takeTerm _ _ _ _ _ _ _ _ _ _ _ _ _ (by assumption) (by assumption)) (fun o9 h9 => ?_)
        | refine Par.bd (hX3_takeFactor _ _ _ _ _ _ _ _ _ _ _ _ _ (by assumption) (by assumption)) (fun o9 h9 => ?_)
        | refine Par.bd (hX3_takeComparison _ _ _ _ _ _ _ _ _ _ _ _ _ (by assumption) (by assumption)) (fun o9 h9 => ?_)
        | refine Par.br (fun _ => ?_) (fun _ => ?_)
        | exact Par.ret (by assumption)
        | refine Par.bd (P := fun _ => True) (fun _ _ => True.intro) (fun o9 _ => ?_))
    by_cases e2 : c = 2
    · subst e2
      rw [L_X3_takeTerm_e2]; unfold B_X3_takeTerm_2
      repeat' (first
        | exact Par.no
        | (apply ih <;> assumption)
        | refine Par.bd (PL_X7_advance K hK _ _ _ _ _ _ _ _ (by assumption) (by assumption)) (fun o9 h9 => ?_)
        | refine Par.bd (PL_X3_take K hK _ _ _ _ _ _ _ _ _ (by assumption) (by assumption)) (fun o9 h9 => ?_)
        | refine Par.bd (PL_X3_takeOperand K hK _ _ _ _ _ _ _ _ _ _ _ _ (by assumption) (by assumption)) (fun o9 h9 => ?_)
        | refine Par.bd (hX3_takeSum _ _ _ _ _ _ _ _ _ _ _ _ _ (by assumption) (by assumption)) (fun o9 h9 => ?_)
        | refine Par.bd (hX3_takeTerm _ _ _ _ _ _ _ _ _ _ _ _ _ (by assumption) (by assumption)) (fun o9 h9 => ?_)
        | refine Par.bd (hX3_takeFactor _ _ _ _ _ _ _ _ _ _ _ _ _ (by assumption) (by assumption)) (fun o9 h9 => ?_)
        | refine Par.bd (hX3_takeComparison _ _ _ _ _ _ _ _ _ _ _ _ _ (by assumption) (by assumption)) (fun o9 h9 => ?_)
        | refine Par.br (fun _ => ?_) (fun _ => ?_)
        | exact Par.ret (by assumption)
        | refine Par.bd (P := fun _ => True) (fun _ _ => True.intro) (fun o9 _ => ?_))
    by_cases e3 : c = 3
    · subst e3
      rw [L_X3_takeTerm_e3]; unfold B_X3_takeTerm_3
      repeat' (first
        | exact Par.no
        | (apply ih <;> assumption)
        | refine Par.bd (PL_X7_advance K hK _ _ _ _ _ _ _ _ (by assumption) (by assumption)) (fun o9 h9 => ?_)
        | refine Par.bd (PL_X3_take K hK _ _ _ _ _ _ _ _ _ (by assumption) (by assumption)) (fun o9 h9 => ?_)
        | refine Par.bd (PL_X3_takeOperand K hK _ _ _ _ _ _ _ _ _ _ _ _ (by assumption) (by assumption)) (fun o9 h9 => ?_)
        | refine Par.bd (hX3_takeSum _ _ _ _ _ _ _ _ _ _ _ _ _ (by assumption) (by assumption)) (fun o9 h9 => ?_)
        | refine Par.bd (hX3_takeTerm _ _ _ _ _ _ _ _ _ _ _ _ _ (by assumption) (by assumption)) (fun o9 h9 => ?_)
        | refine Par.bd (hX3_takeFactor _ _ _ _ _ _ _ _ _ _ _ _ _ (by assumption) (by assumption)) (fun o9 h9 => ?_)
        | refine Par.bd (hX3_takeComparison _ _ _ _ _ _ _ _ _ _ _ _ _ (by assumption) (by assumption)) (fun o9 h9 => ?_)
        | refine Par.br (fun _ => ?_) (fun _ => ?_)
        | exact Par.ret (by assumption)
        | refine Par.bd (P := fun _ => True) (fun _ _ => True.intro) (fun o9 _ => ?_))
    by_cases e4 : c = 4
    · subst e4
      rw [L_X3_takeTerm_e4]; unfold B_X3_takeTerm_4
      repeat' (first
        | exact Par.no
        | (apply ih <;> assumption)
        | refine Par.bd (PL_X7_advance K hK _ _ _ _ _ _ _ _ (by assumption) (by assumption)) (fun o9 h9 => ?_)
        | refine Par.bd (PL_X3_take K hK _ _ _ _ _ _ _ _ _ (by assumption) (by assumption)) (fun o9 h9 => ?_)
        | refine Par.bd (PL_X3_takeOperand K hK _ _ _ _ _ _ _ _ _ _ _ _ (by assumption) (by assumption)) (fun o9 h9 => ?_)
        | refine Par.bd (hX3_takeSum _ _ _ _ _ _ _ _ _ _ _ _ _ (by assumption) (by assumption)) (fun o9 h9 => ?_)
        | refine Par.bd (hX3_takeTerm _ _ _ _ _ _ _ _ _ _ _ _ _ (by assumption) (by assumption)) (fun o9 h9 => ?_)
        | refine Par.bd (hX3_takeFactor _ _ _ _ _ _ _ _ _ _ _ _ _ (by assumption) (by assumption)) (fun o9 h9 => ?_)
        | refine Par.bd (hX3_takeComparison _ _ _ _ _ _ _ _ _ _ _ _ _ (by assumption) (by assumption)) (fun o9 h9 => ?_)
        | refine Par.br (fun _ => ?_) (fun _ => ?_)
        | exact Par.ret (by assumption)
        | refine Par.bd (P := fun _ => True) (fun _ _ => True.intro) (fun o9 _ => ?_))
    · have : L_X3_takeTerm K cal_X3_takeSum cal_X3_takeTerm cal_X3_takeFactor cal_X3_takeComparison (n + 1) c l1 l2 s0 ps_operands ps_cells tk_many tk_at tk_kind tk_value tk_place tkfk tkfv tkfp pp_codeSize ppk = none := by
        match c, e0, e1, e2, e3, e4 with
        | 0, e0, _, _, _, _ => exact absurd rfl e0
        | 1, _, e1, _, _, _ => exact absurd rfl e1
        | 2, _, _, e2, _, _ => exact absurd rfl e2
        | 3, _, _, _, e3, _ => exact absurd rfl e3
        | 4, _, _, _, _, e4 => exact absurd rfl e4
        | m + 5, _, _, _, _, _ => rfl
      rw [this]; exact Par.no
set_option maxRecDepth 100000 in
theorem PLL_X3_takeFactor (K : Nat) (hK : 1000000000 ≤ K) (cal_X3_takeSum : Int32 → Int32 → Int32 → Int32 → Int32 → Int32 → Int32 → Int32 → (Nat → Int32) → (Nat → Int32) → (Nat → Int32) → Int32 → (Nat → Int32) → Option (Int32 × Int32 × Int32 × Int32 × Int32 × Int32 × Int32 × Int32 × (Nat → Int32))) (cal_X3_takeTerm : Int32 → Int32 → Int32 → Int32 → Int32 → Int32 → Int32 → Int32 → (Nat → Int32) → (Nat → Int32) → (Nat → Int32) → Int32 → (Nat → Int32) → Option (Int32 × Int32 × Int32 × Int32 × Int32 × Int32 × Int32 × Int32 × (Nat → Int32))) (cal_X3_takeFactor : Int32 → Int32 → Int32 → Int32 → Int32 → Int32 → Int32 → Int32 → (Nat → Int32) → (Nat → Int32) → (Nat → Int32) → Int32 → (Nat → Int32) → Option (Int32 × Int32 × Int32 × Int32 × Int32 × Int32 × Int32 × Int32 × (Nat → Int32))) (cal_X3_takeComparison : Int32 → Int32 → Int32 → Int32 → Int32 → Int32 → Int32 → Int32 → (Nat → Int32) → (Nat → Int32) → (Nat → Int32) → Int32 → (Nat → Int32) → Option (Int32 × Int32 × Int32 × Int32 × Int32 × Int32 × Int32 × Int32 × (Nat → Int32))) (hX3_takeSum : ∀ (l1 : Int32) (ps_operands : Int32) (ps_cells : Int32) (tk_many : Int32) (tk_at : Int32) (tk_kind : Int32) (tk_value : Int32) (tk_place : Int32) (tkfk : Nat → Int32) (tkfv : Nat → Int32) (tkfp : Nat → Int32) (pp_codeSize : Int32) (ppk : Nat → Int32), PLc tk_many tkfp → 0 ≤ tk_place.toInt → Par (cal_X3_takeSum l1 ps_operands ps_cells tk_many tk_at tk_kind tk_value tk_place tkfk tkfv tkfp pp_codeSize ppk) (fun r => 0 ≤ (r.2.2.2.2.2.2.1).toInt)) (hX3_takeTerm : ∀ (l1 : Int32) (ps_operands : Int32) (ps_cells : Int32) (tk_many : Int32) (tk_at : Int32) (tk_kind : Int32) (tk_value : Int32) (tk_place : Int32) (tkfk : Nat → Int32) (tkfv : Nat → Int32) (tkfp : Nat → Int32) (pp_codeSize : Int32) (ppk : Nat → Int32), PLc tk_many tkfp → 0 ≤ tk_place.toInt → Par (cal_X3_takeTerm l1 ps_operands ps_cells tk_many tk_at tk_kind tk_value tk_place tkfk tkfv tkfp pp_codeSize ppk) (fun r => 0 ≤ (r.2.2.2.2.2.2.1).toInt)) (hX3_takeFactor : ∀ (l1 : Int32) (ps_operands : Int32) (ps_cells : Int32) (tk_many : Int32) (tk_at : Int32) (tk_kind : Int32) (tk_value : Int32) (tk_place : Int32) (tkfk : Nat → Int32) (tkfv : Nat → Int32) (tkfp : Nat → Int32) (pp_codeSize : Int32) (ppk : Nat → Int32), PLc tk_many tkfp → 0 ≤ tk_place.toInt → Par (cal_X3_takeFactor l1 ps_operands ps_cells tk_many tk_at tk_kind tk_value tk_place tkfk tkfv tkfp pp_codeSize ppk) (fun r => 0 ≤ (r.2.2.2.2.2.2.1).toInt)) (hX3_takeComparison : ∀ (l1 : Int32) (ps_operands : Int32) (ps_cells : Int32) (tk_many : Int32) (tk_at : Int32) (tk_kind : Int32) (tk_value : Int32) (tk_place : Int32) (tkfk : Nat → Int32) (tkfv : Nat → Int32) (tkfp : Nat → Int32) (pp_codeSize : Int32) (ppk : Nat → Int32), PLc tk_many tkfp → 0 ≤ tk_place.toInt → Par (cal_X3_takeComparison l1 ps_operands ps_cells tk_many tk_at tk_kind tk_value tk_place tkfk tkfv tkfp pp_codeSize ppk) (fun r => 0 ≤ (r.2.2.2.2.2.2.1).toInt)) : ∀ (n c : Nat) (l1 : Int32) (ps_operands : Int32) (ps_cells : Int32) (tk_many : Int32) (tk_at : Int32) (tk_kind : Int32) (tk_value : Int32) (tk_place : Int32) (tkfk : Nat → Int32) (tkfv : Nat → Int32) (tkfp : Nat → Int32) (pp_codeSize : Int32) (ppk : Nat → Int32), PLc tk_many tkfp → 0 ≤ tk_place.toInt → Par (L_X3_takeFactor K cal_X3_takeSum cal_X3_takeTerm cal_X3_takeFactor cal_X3_takeComparison n c l1 ps_operands ps_cells tk_many tk_at tk_kind tk_value tk_place tkfk tkfv tkfp pp_codeSize ppk) (fun r => 0 ≤ (r.2.2.2.2.2.2.1).toInt) := by
  intro n
  induction n with
  | zero => intros; exact Par.no
  | succ n ih =>
    intro c l1 ps_operands ps_cells tk_many tk_at tk_kind tk_value tk_place tkfk tkfv tkfp pp_codeSize ppk hfp hpl
    by_cases e0 : c = 0
    · subst e0
      rw [L_X3_takeFactor_e0]; unfold B_X3_takeFactor_0
      repeat' (first
        | exact Par.no
        | (apply ih <;> assumption)
        | refine Par.bd (PL_X7_advance K hK _ _ _ _ _ _ _ _ (by assumption) (by assumption)) (fun o9 h9 => ?_)
        | refine Par.bd (PL_X3_take K hK _ _ _ _ _ _ _ _ _ (by assumption) (by assumption)) (fun o9 h9 => ?_)
        | refine Par.bd (PL_X3_takeOperand K hK _ _ _ _ _ _ _ _ _ _ _ _ (by assumption) (by assumption)) (fun o9 h9 => ?_)
        | refine Par.bd (hX3_takeSum _ _ _ _ _ _ _ _ _ _ _ _ _ (by assumption) (by assumption)) (fun o9 h9 => ?_)
        | refine Par.bd (hX3_takeTerm _ _ _ _ _ _ _ _ _ _ _ _ _ (by assumption) (by assumption)) (fun o9 h9 => ?_)
        | refine Par.bd (hX3_takeFactor _ _ _ _ _ _ _ _ _ _ _ _ _ (by assumption) (by assumption)) (fun o9 h9 => ?_)
        | refine Par.bd (hX3_takeComparison _ _ _ _ _ _ _ _ _ _ _ _ _ (by assumption) (by assumption)) (fun o9 h9 => ?_)
        | refine Par.br (fun _ => ?_) (fun _ => ?_)
        | exact Par.ret (by assumption)
        | refine Par.bd (P := fun _ => True) (fun _ _ => True.intro) (fun o9 _ => ?_))
    by_cases e1 : c = 1
    · subst e1
      rw [L_X3_takeFactor_e1]; unfold B_X3_takeFactor_1
      repeat' (first
        | exact Par.no
        | (apply ih <;> assumption)
        | refine Par.bd (PL_X7_advance K hK _ _ _ _ _ _ _ _ (by assumption) (by assumption)) (fun o9 h9 => ?_)
        | refine Par.bd (PL_X3_take K hK _ _ _ _ _ _ _ _ _ (by assumption) (by assumption)) (fun o9 h9 => ?_)
        | refine Par.bd (PL_X3_takeOperand K hK _ _ _ _ _ _ _ _ _ _ _ _ (by assumption) (by assumption)) (fun o9 h9 => ?_)
        | refine Par.bd (hX3_takeSum _ _ _ _ _ _ _ _ _ _ _ _ _ (by assumption) (by assumption)) (fun o9 h9 => ?_)
        | refine Par.bd (hX3_takeTerm _ _ _ _ _ _ _ _ _ _ _ _ _ (by assumption) (by assumption)) (fun o9 h9 => ?_)
        | refine Par.bd (hX3_takeFactor _ _ _ _ _ _ _ _ _ _ _ _ _ (by assumption) (by assumption)) (fun o9 h9 => ?_)
        | refine Par.bd (hX3_takeComparison _ _ _ _ _ _ _ _ _ _ _ _ _ (by assumption) (by assumption)) (fun o9 h9 => ?_)
        | refine Par.br (fun _ => ?_) (fun _ => ?_)
        | exact Par.ret (by assumption)
        | refine Par.bd (P := fun _ => True) (fun _ _ => True.intro) (fun o9 _ => ?_))
    by_cases e2 : c = 2
    · subst e2
      rw [L_X3_takeFactor_e2]; unfold B_X3_takeFactor_2
      repeat' (first
        | exact Par.no
        | (apply ih <;> assumption)
        | refine Par.bd (PL_X7_advance K hK _ _ _ _ _ _ _ _ (by assumption) (by assumption)) (fun o9 h9 => ?_)
        | refine Par.bd (PL_X3_take K hK _ _ _ _ _ _ _ _ _ (by assumption) (by assumption)) (fun o9 h9 => ?_)
        | refine Par.bd (PL_X3_takeOperand K hK _ _ _ _ _ _ _ _ _ _ _ _ (by assumption) (by assumption)) (fun o9 h9 => ?_)
        | refine Par.bd (hX3_takeSum _ _ _ _ _ _ _ _ _ _ _ _ _ (by assumption) (by assumption)) (fun o9 h9 => ?_)
        | refine Par.bd (hX3_takeTerm _ _ _ _ _ _ _ _ _ _ _ _ _ (by assumption) (by assumption)) (fun o9 h9 => ?_)
        | refine Par.bd (hX3_takeFactor _ _ _ _ _ _ _ _ _ _ _ _ _ (by assumption) (by assumption)) (fun o9 h9 => ?_)
        | refine Par.bd (hX3_takeComparison _ _ _ _ _ _ _ _ _ _ _ _ _ (by assumption) (by assumption)) (fun o9 h9 => ?_)
        | refine Par.br (fun _ => ?_) (fun _ => ?_)
        | exact Par.ret (by assumption)
        | refine Par.bd (P := fun _ => True) (fun _ _ => True.intro) (fun o9 _ => ?_))
    · have : L_X3_takeFactor K cal_X3_takeSum cal_X3_takeTerm cal_X3_takeFactor cal_X3_takeComparison (n + 1) c l1 ps_operands ps_cells tk_many tk_at tk_kind tk_value tk_place tkfk tkfv tkfp pp_codeSize ppk = none := by
        match c, e0, e1, e2 with
        | 0, e0, _, _ => exact absurd rfl e0
        | 1, _, e1, _ => exact absurd rfl e1
        | 2, _, _, e2 => exact absurd rfl e2
        | m + 3, _, _, _ => rfl
      rw [this]; exact Par.no
set_option maxRecDepth 100000 in
theorem PLL_X3_takeComparison (K : Nat) (hK : 1000000000 ≤ K) (cal_X3_takeSum : Int32 → Int32 → Int32 → Int32 → Int32 → Int32 → Int32 → Int32 → (Nat → Int32) → (Nat → Int32) → (Nat → Int32) → Int32 → (Nat → Int32) → Option (Int32 × Int32 × Int32 × Int32 × Int32 × Int32 × Int32 × Int32 × (Nat → Int32))) (cal_X3_takeTerm : Int32 → Int32 → Int32 → Int32 → Int32 → Int32 → Int32 → Int32 → (Nat → Int32) → (Nat → Int32) → (Nat → Int32) → Int32 → (Nat → Int32) → Option (Int32 × Int32 × Int32 × Int32 × Int32 × Int32 × Int32 × Int32 × (Nat → Int32))) (cal_X3_takeFactor : Int32 → Int32 → Int32 → Int32 → Int32 → Int32 → Int32 → Int32 → (Nat → Int32) → (Nat → Int32) → (Nat → Int32) → Int32 → (Nat → Int32) → Option (Int32 × Int32 × Int32 × Int32 × Int32 × Int32 × Int32 × Int32 × (Nat → Int32))) (cal_X3_takeComparison : Int32 → Int32 → Int32 → Int32 → Int32 → Int32 → Int32 → Int32 → (Nat → Int32) → (Nat → Int32) → (Nat → Int32) → Int32 → (Nat → Int32) → Option (Int32 × Int32 × Int32 × Int32 × Int32 × Int32 × Int32 × Int32 × (Nat → Int32))) (hX3_takeSum : ∀ (l1 : Int32) (ps_operands : Int32) (ps_cells : Int32) (tk_many : Int32) (tk_at : Int32) (tk_kind : Int32) (tk_value : Int32) (tk_place : Int32) (tkfk : Nat → Int32) (tkfv : Nat → Int32) (tkfp : Nat → Int32) (pp_codeSize : Int32) (ppk : Nat → Int32), PLc tk_many tkfp → 0 ≤ tk_place.toInt → Par (cal_X3_takeSum l1 ps_operands ps_cells tk_many tk_at tk_kind tk_value tk_place tkfk tkfv tkfp pp_codeSize ppk) (fun r => 0 ≤ (r.2.2.2.2.2.2.1).toInt)) (hX3_takeTerm : ∀ (l1 : Int32) (ps_operands : Int32) (ps_cells : Int32) (tk_many : Int32) (tk_at : Int32) (tk_kind : Int32) (tk_value : Int32) (tk_place : Int32) (tkfk : Nat → Int32) (tkfv : Nat → Int32) (tkfp : Nat → Int32) (pp_codeSize : Int32) (ppk : Nat → Int32), PLc tk_many tkfp → 0 ≤ tk_place.toInt → Par (cal_X3_takeTerm l1 ps_operands ps_cells tk_many tk_at tk_kind tk_value tk_place tkfk tkfv tkfp pp_codeSize ppk) (fun r => 0 ≤ (r.2.2.2.2.2.2.1).toInt)) (hX3_takeFactor : ∀ (l1 : Int32) (ps_operands : Int32) (ps_cells : Int32) (tk_many : Int32) (tk_at : Int32) (tk_kind : Int32) (tk_value : Int32) (tk_place : Int32) (tkfk : Nat → Int32) (tkfv : Nat → Int32) (tkfp : Nat → Int32) (pp_codeSize : Int32) (ppk : Nat → Int32), PLc tk_many tkfp → 0 ≤ tk_place.toInt → Par (cal_X3_takeFactor l1 ps_operands ps_cells tk_many tk_at tk_kind tk_value tk_place tkfk tkfv tkfp pp_codeSize ppk) (fun r => 0 ≤ (r.2.2.2.2.2.2.1).toInt)) (hX3_takeComparison : ∀ (l1 : Int32) (ps_operands : Int32) (ps_cells : Int32) (tk_many : Int32) (tk_at : Int32) (tk_kind : Int32) (tk_value : Int32) (tk_place : Int32) (tkfk : Nat → Int32) (tkfv : Nat → Int32) (tkfp : Nat → Int32) (pp_codeSize : Int32) (ppk : Nat → Int32), PLc tk_many tkfp → 0 ≤ tk_place.toInt → Par (cal_X3_takeComparison l1 ps_operands ps_cells tk_many tk_at tk_kind tk_value tk_place tkfk tkfv tkfp pp_codeSize ppk) (fun r => 0 ≤ (r.2.2.2.2.2.2.1).toInt)) : ∀ (n c : Nat) (l1 : Int32) (s0 : Int32) (ps_operands : Int32) (ps_cells : Int32) (tk_many : Int32) (tk_at : Int32) (tk_kind : Int32) (tk_value : Int32) (tk_place : Int32) (tkfk : Nat → Int32) (tkfv : Nat → Int32) (tkfp : Nat → Int32) (pp_codeSize : Int32) (ppk : Nat → Int32), PLc tk_many tkfp → 0 ≤ tk_place.toInt → Par (L_X3_takeComparison K cal_X3_takeSum cal_X3_takeTerm cal_X3_takeFactor cal_X3_takeComparison n c l1 s0 ps_operands ps_cells tk_many tk_at tk_kind tk_value tk_place tkfk tkfv tkfp pp_codeSize ppk) (fun r => 0 ≤ (r.2.2.2.2.2.2.1).toInt) := by
  intro n
  induction n with
  | zero => intros; exact Par.no
  | succ n ih =>
    intro c l1 s0 ps_operands ps_cells tk_many tk_at tk_kind tk_value tk_place tkfk tkfv tkfp pp_codeSize ppk hfp hpl
    by_cases e0 : c = 0
    · subst e0
      rw [L_X3_takeComparison_e0]; unfold B_X3_takeComparison_0
      repeat' (first
        | exact Par.no
        | (apply ih <;> assumption)
        | refine Par.bd (PL_X7_advance K hK _ _ _ _ _ _ _ _ (by assumption) (by assumption)) (fun o9 h9 => ?_)
        | refine Par.bd (PL_X3_take K hK _ _ _ _ _ _ _ _ _ (by assumption) (by assumption)) (fun o9 h9 => ?_)
        | refine Par.bd (PL_X3_takeOperand K hK _ _ _ _ _ _ _ _ _ _ _ _ (by assumption) (by assumption)) (fun o9 h9 => ?_)
        | refine Par.bd (hX3_takeSum _ _ _ _ _ _ _ _ _ _ _ _ _ (by assumption) (by assumption)) (fun o9 h9 => ?_)
        | refine Par.bd (hX3_takeTerm _ _ _ _ _ _ _ _ _ _ _ _ _ (by assumption) (by assumption)) (fun o9 h9 => ?_)
        | refine Par.bd (hX3_takeFactor _ _ _ _ _ _ _ _ _ _ _ _ _ (by assumption) (by assumption)) (fun o9 h9 => ?_)
        | refine Par.bd (hX3_takeComparison _ _ _ _ _ _ _ _ _ _ _ _ _ (by assumption) (by assumption)) (fun o9 h9 => ?_)
        | refine Par.br (fun _ => ?_) (fun _ => ?_)
        | exact Par.ret (by assumption)
        | refine Par.bd (P := fun _ => True) (fun _ _ => True.intro) (fun o9 _ => ?_))
    by_cases e1 : c = 1
    · subst e1
      rw [L_X3_takeComparison_e1]; unfold B_X3_takeComparison_1
      repeat' (first
        | exact Par.no
        | (apply ih <;> assumption)
        | refine Par.bd (PL_X7_advance K hK _ _ _ _ _ _ _ _ (by assumption) (by assumption)) (fun o9 h9 => ?_)
        | refine Par.bd (PL_X3_take K hK _ _ _ _ _ _ _ _ _ (by assumption) (by assumption)) (fun o9 h9 => ?_)
        | refine Par.bd (PL_X3_takeOperand K hK _ _ _ _ _ _ _ _ _ _ _ _ (by assumption) (by assumption)) (fun o9 h9 => ?_)
        | refine Par.bd (hX3_takeSum _ _ _ _ _ _ _ _ _ _ _ _ _ (by assumption) (by assumption)) (fun o9 h9 => ?_)
        | refine Par.bd (hX3_takeTerm _ _ _ _ _ _ _ _ _ _ _ _ _ (by assumption) (by assumption)) (fun o9 h9 => ?_)
        | refine Par.bd (hX3_takeFactor _ _ _ _ _ _ _ _ _ _ _ _ _ (by assumption) (by assumption)) (fun o9 h9 => ?_)
        | refine Par.bd (hX3_takeComparison _ _ _ _ _ _ _ _ _ _ _ _ _ (by assumption) (by assumption)) (fun o9 h9 => ?_)
        | refine Par.br (fun _ => ?_) (fun _ => ?_)
        | exact Par.ret (by assumption)
        | refine Par.bd (P := fun _ => True) (fun _ _ => True.intro) (fun o9 _ => ?_))
    by_cases e2 : c = 2
    · subst e2
      rw [L_X3_takeComparison_e2]; unfold B_X3_takeComparison_2
      repeat' (first
        | exact Par.no
        | (apply ih <;> assumption)
        | refine Par.bd (PL_X7_advance K hK _ _ _ _ _ _ _ _ (by assumption) (by assumption)) (fun o9 h9 => ?_)
        | refine Par.bd (PL_X3_take K hK _ _ _ _ _ _ _ _ _ (by assumption) (by assumption)) (fun o9 h9 => ?_)
        | refine Par.bd (PL_X3_takeOperand K hK _ _ _ _ _ _ _ _ _ _ _ _ (by assumption) (by assumption)) (fun o9 h9 => ?_)
        | refine Par.bd (hX3_takeSum _ _ _ _ _ _ _ _ _ _ _ _ _ (by assumption) (by assumption)) (fun o9 h9 => ?_)
        | refine Par.bd (hX3_takeTerm _ _ _ _ _ _ _ _ _ _ _ _ _ (by assumption) (by assumption)) (fun o9 h9 => ?_)
        | refine Par.bd (hX3_takeFactor _ _ _ _ _ _ _ _ _ _ _ _ _ (by assumption) (by assumption)) (fun o9 h9 => ?_)
        | refine Par.bd (hX3_takeComparison _ _ _ _ _ _ _ _ _ _ _ _ _ (by assumption) (by assumption)) (fun o9 h9 => ?_)
        | refine Par.br (fun _ => ?_) (fun _ => ?_)
        | exact Par.ret (by assumption)
        | refine Par.bd (P := fun _ => True) (fun _ _ => True.intro) (fun o9 _ => ?_))
    · have : L_X3_takeComparison K cal_X3_takeSum cal_X3_takeTerm cal_X3_takeFactor cal_X3_takeComparison (n + 1) c l1 s0 ps_operands ps_cells tk_many tk_at tk_kind tk_value tk_place tkfk tkfv tkfp pp_codeSize ppk = none := by
        match c, e0, e1, e2 with
        | 0, e0, _, _ => exact absurd rfl e0
        | 1, _, e1, _ => exact absurd rfl e1
        | 2, _, _, e2 => exact absurd rfl e2
        | m + 3, _, _, _ => rfl
      rw [this]; exact Par.no
theorem PLD_DD_sum (K : Nat) (hK : 1000000000 ≤ K) : ∀ d : Nat, (∀ (l1 : Int32) (ps_operands : Int32) (ps_cells : Int32) (tk_many : Int32) (tk_at : Int32) (tk_kind : Int32) (tk_value : Int32) (tk_place : Int32) (tkfk : Nat → Int32) (tkfv : Nat → Int32) (tkfp : Nat → Int32) (pp_codeSize : Int32) (ppk : Nat → Int32), PLc tk_many tkfp → 0 ≤ tk_place.toInt → Par ((DD_sum K d).1 l1 ps_operands ps_cells tk_many tk_at tk_kind tk_value tk_place tkfk tkfv tkfp pp_codeSize ppk) (fun r => 0 ≤ (r.2.2.2.2.2.2.1).toInt)) ∧ (∀ (l1 : Int32) (ps_operands : Int32) (ps_cells : Int32) (tk_many : Int32) (tk_at : Int32) (tk_kind : Int32) (tk_value : Int32) (tk_place : Int32) (tkfk : Nat → Int32) (tkfv : Nat → Int32) (tkfp : Nat → Int32) (pp_codeSize : Int32) (ppk : Nat → Int32), PLc tk_many tkfp → 0 ≤ tk_place.toInt → Par ((DD_sum K d).2.1 l1 ps_operands ps_cells tk_many tk_at tk_kind tk_value tk_place tkfk tkfv tkfp pp_codeSize ppk) (fun r => 0 ≤ (r.2.2.2.2.2.2.1).toInt)) ∧ (∀ (l1 : Int32) (ps_operands : Int32) (ps_cells : Int32) (tk_many : Int32) (tk_at : Int32) (tk_kind : Int32) (tk_value : Int32) (tk_place : Int32) (tkfk : Nat → Int32) (tkfv : Nat → Int32) (tkfp : Nat → Int32) (pp_codeSize : Int32) (ppk : Nat → Int32), PLc tk_many tkfp → 0 ≤ tk_place.toInt → Par ((DD_sum K d).2.2.1 l1 ps_operands ps_cells tk_many tk_at tk_kind tk_value tk_place tkfk tkfv tkfp pp_codeSize ppk) (fun r => 0 ≤ (r.2.2.2.2.2.2.1).toInt)) ∧ (∀ (l1 : Int32) (ps_operands : Int32) (ps_cells : Int32) (tk_many : Int32) (tk_at : Int32) (tk_kind : Int32) (tk_value : Int32) (tk_place : Int32) (tkfk : Nat → Int32) (tkfv : Nat → Int32) (tkfp : Nat → Int32) (pp_codeSize : Int32) (ppk : Nat → Int32), PLc tk_many tkfp → 0 ≤ tk_place.toInt → Par ((DD_sum K d).2.2.2 l1 ps_operands ps_cells tk_many tk_at tk_kind tk_value tk_place tkfk tkfv tkfp pp_codeSize ppk) (fun r => 0 ≤ (r.2.2.2.2.2.2.1).toInt)) := by
  intro d
  induction d with
  | zero => refine ⟨?_, ?_, ?_, ?_⟩ <;> (intros; exact Par.no)
  | succ d ih =>
    obtain ⟨i0, i1, i2, i3⟩ := ih
    refine ⟨?_, ?_, ?_, ?_⟩
    · intro l1 ps_operands ps_cells tk_many tk_at tk_kind tk_value tk_place tkfk tkfv tkfp pp_codeSize ppk a b
      exact PLL_X3_takeSum K hK _ _ _ _ i0 i1 i2 i3 K 0 l1 0 0 ps_operands ps_cells tk_many tk_at tk_kind tk_value tk_place tkfk tkfv tkfp pp_codeSize ppk a b
    · intro l1 ps_operands ps_cells tk_many tk_at tk_kind tk_value tk_place tkfk tkfv tkfp pp_codeSize ppk a b
      exact PLL_X3_takeTerm K hK _ _ _ _ i0 i1 i2 i3 K 0 l1 0 0 ps_operands ps_cells tk_many tk_at tk_kind tk_value tk_place tkfk tkfv tkfp pp_codeSize ppk a b
    · intro l1 ps_operands ps_cells tk_many tk_at tk_kind tk_value tk_place tkfk tkfv tkfp pp_codeSize ppk a b
      exact PLL_X3_takeFactor K hK _ _ _ _ i0 i1 i2 i3 K 0 l1 ps_operands ps_cells tk_many tk_at tk_kind tk_value tk_place tkfk tkfv tkfp pp_codeSize ppk a b
    · intro l1 ps_operands ps_cells tk_many tk_at tk_kind tk_value tk_place tkfk tkfv tkfp pp_codeSize ppk a b
      exact PLL_X3_takeComparison K hK _ _ _ _ i0 i1 i2 i3 K 0 l1 0 ps_operands ps_cells tk_many tk_at tk_kind tk_value tk_place tkfk tkfv tkfp pp_codeSize ppk a b
theorem PL_X3_takeSum (K : Nat) (hK : 1000000000 ≤ K) (l1 : Int32) (ps_operands : Int32) (ps_cells : Int32) (tk_many : Int32) (tk_at : Int32) (tk_kind : Int32) (tk_value : Int32) (tk_place : Int32) (tkfk : Nat → Int32) (tkfv : Nat → Int32) (tkfp : Nat → Int32) (pp_codeSize : Int32) (ppk : Nat → Int32) (h1 : PLc tk_many tkfp) (h2 : 0 ≤ tk_place.toInt) : Par (F_X3_takeSum K l1 ps_operands ps_cells tk_many tk_at tk_kind tk_value tk_place tkfk tkfv tkfp pp_codeSize ppk) (fun r => 0 ≤ (r.2.2.2.2.2.2.1).toInt) := by
  unfold F_X3_takeSum; exact (PLD_DD_sum K hK 48).1 l1 ps_operands ps_cells tk_many tk_at tk_kind tk_value tk_place tkfk tkfv tkfp pp_codeSize ppk h1 h2
theorem PL_X3_takeTerm (K : Nat) (hK : 1000000000 ≤ K) (l1 : Int32) (ps_operands : Int32) (ps_cells : Int32) (tk_many : Int32) (tk_at : Int32) (tk_kind : Int32) (tk_value : Int32) (tk_place : Int32) (tkfk : Nat → Int32) (tkfv : Nat → Int32) (tkfp : Nat → Int32) (pp_codeSize : Int32) (ppk : Nat → Int32) (h1 : PLc tk_many tkfp) (h2 : 0 ≤ tk_place.toInt) : Par (F_X3_takeTerm K l1 ps_operands ps_cells tk_many tk_at tk_kind tk_value tk_place tkfk tkfv tkfp pp_codeSize ppk) (fun r => 0 ≤ (r.2.2.2.2.2.2.1).toInt) := by
  unfold F_X3_takeTerm; exact (PLD_DD_sum K hK 48).2.1 l1 ps_operands ps_cells tk_many tk_at tk_kind tk_value tk_place tkfk tkfv tkfp pp_codeSize ppk h1 h2
theorem PL_X3_takeFactor (K : Nat) (hK : 1000000000 ≤ K) (l1 : Int32) (ps_operands : Int32) (ps_cells : Int32) (tk_many : Int32) (tk_at : Int32) (tk_kind : Int32) (tk_value : Int32) (tk_place : Int32) (tkfk : Nat → Int32) (tkfv : Nat → Int32) (tkfp : Nat → Int32) (pp_codeSize : Int32) (ppk : Nat → Int32) (h1 : PLc tk_many tkfp) (h2 : 0 ≤ tk_place.toInt) : Par (F_X3_takeFactor K l1 ps_operands ps_cells tk_many tk_at tk_kind tk_value tk_place tkfk tkfv tkfp pp_codeSize ppk) (fun r => 0 ≤ (r.2.2.2.2.2.2.1).toInt) := by
  unfold F_X3_takeFactor; exact (PLD_DD_sum K hK 48).2.2.1 l1 ps_operands ps_cells tk_many tk_at tk_kind tk_value tk_place tkfk tkfv tkfp pp_codeSize ppk h1 h2
theorem PL_X3_takeComparison (K : Nat) (hK : 1000000000 ≤ K) (l1 : Int32) (ps_operands : Int32) (ps_cells : Int32) (tk_many : Int32) (tk_at : Int32) (tk_kind : Int32) (tk_value : Int32) (tk_place : Int32) (tkfk : Nat → Int32) (tkfv : Nat → Int32) (tkfp : Nat → Int32) (pp_codeSize : Int32) (ppk : Nat → Int32) (h1 : PLc tk_many tkfp) (h2 : 0 ≤ tk_place.toInt) : Par (F_X3_takeComparison K l1 ps_operands ps_cells tk_many tk_at tk_kind tk_value tk_place tkfk tkfv tkfp pp_codeSize ppk) (fun r => 0 ≤ (r.2.2.2.2.2.2.1).toInt) := by
  unfold F_X3_takeComparison; exact (PLD_DD_sum K hK 48).2.2.2 l1 ps_operands ps_cells tk_many tk_at tk_kind tk_value tk_place tkfk tkfv tkfp pp_codeSize ppk h1 h2
set_option maxRecDepth 100000 in
theorem PLL_X3_takeWholeSum (K : Nat) (hK : 1000000000 ≤ K)  : ∀ (n c : Nat) (a1 : Nat) (LL : List Nat) (sv : Nat → Nat → Int32) (ps_operands : Int32) (ps_cells : Int32) (tk_many : Int32) (tk_at : Int32) (tk_kind : Int32) (tk_value : Int32) (tk_place : Int32) (tkfk : Nat → Int32) (tkfv : Nat → Int32) (tkfp : Nat → Int32) (pp_codeSize : Int32) (ppk : Nat → Int32), PLc tk_many tkfp → 0 ≤ tk_place.toInt → Par (L_X3_takeWholeSum K  n c a1 LL sv ps_operands ps_cells tk_many tk_at tk_kind tk_value tk_place tkfk tkfv tkfp pp_codeSize ppk) (fun r => 0 ≤ (r.2.2.2.2.2.2.2.1).toInt) := by
  intro n
  induction n with
  | zero => intros; exact Par.no
  | succ n ih =>
    intro c a1 LL sv ps_operands ps_cells tk_many tk_at tk_kind tk_value tk_place tkfk tkfv tkfp pp_codeSize ppk hfp hpl
    by_cases e0 : c = 0
    · subst e0
      rw [L_X3_takeWholeSum_e0]; unfold B_X3_takeWholeSum_0
      repeat' (first
        | exact Par.no
        | (apply ih <;> assumption)
        | refine Par.bd (PL_X3_takeSum K hK _ _ _ _ _ _ _ _ _ _ _ _ _ (by assumption) (by assumption)) (fun o9 h9 => ?_)
        | refine Par.br (fun _ => ?_) (fun _ => ?_)
        | exact Par.ret (by assumption)
        | refine Par.bd (P := fun _ => True) (fun _ _ => True.intro) (fun o9 _ => ?_))
    · have : L_X3_takeWholeSum K  (n + 1) c a1 LL sv ps_operands ps_cells tk_many tk_at tk_kind tk_value tk_place tkfk tkfv tkfp pp_codeSize ppk = none := by
        match c, e0 with
        | 0, e0 => exact absurd rfl e0
        | m + 1, _ => rfl
      rw [this]; exact Par.no
theorem PL_X3_takeWholeSum (K : Nat) (hK : 1000000000 ≤ K) (a1 : Nat) (LL : List Nat) (sv : Nat → Nat → Int32) (ps_operands : Int32) (ps_cells : Int32) (tk_many : Int32) (tk_at : Int32) (tk_kind : Int32) (tk_value : Int32) (tk_place : Int32) (tkfk : Nat → Int32) (tkfv : Nat → Int32) (tkfp : Nat → Int32) (pp_codeSize : Int32) (ppk : Nat → Int32) (h1 : PLc tk_many tkfp) (h2 : 0 ≤ tk_place.toInt) : Par (F_X3_takeWholeSum K a1 LL sv ps_operands ps_cells tk_many tk_at tk_kind tk_value tk_place tkfk tkfv tkfp pp_codeSize ppk) (fun r => 0 ≤ (r.2.2.2.2.2.2.2.1).toInt) := by
  unfold F_X3_takeWholeSum; exact PLL_X3_takeWholeSum K hK K 0 a1 LL sv ps_operands ps_cells tk_many tk_at tk_kind tk_value tk_place tkfk tkfv tkfp pp_codeSize ppk h1 h2
set_option maxRecDepth 100000 in
theorem PLL_X3_takeNumber (K : Nat) (hK : 1000000000 ≤ K)  : ∀ (n c : Nat) (a1 : Nat) (l2 : Int32) (LL : List Nat) (sv : Nat → Nat → Int32) (tk_many : Int32) (tk_at : Int32) (tk_kind : Int32) (tk_value : Int32) (tk_place : Int32) (tkfk : Nat → Int32) (tkfv : Nat → Int32) (tkfp : Nat → Int32), PLc tk_many tkfp → 0 ≤ tk_place.toInt → Par (L_X3_takeNumber K  n c a1 l2 LL sv tk_many tk_at tk_kind tk_value tk_place tkfk tkfv tkfp) (fun r => 0 ≤ (r.2.2.2.2.2).toInt) := by
  intro n
  induction n with
  | zero => intros; exact Par.no
  | succ n ih =>
    intro c a1 l2 LL sv tk_many tk_at tk_kind tk_value tk_place tkfk tkfv tkfp hfp hpl
    by_cases e0 : c = 0
    · subst e0
      rw [L_X3_takeNumber_e0]; unfold B_X3_takeNumber_0
      repeat' (first
        | exact Par.no
        | (apply ih <;> assumption)
        | refine Par.bd (PL_X3_take K hK _ _ _ _ _ _ _ _ _ (by assumption) (by assumption)) (fun o9 h9 => ?_)
        | refine Par.br (fun _ => ?_) (fun _ => ?_)
        | exact Par.ret (by assumption)
        | refine Par.bd (P := fun _ => True) (fun _ _ => True.intro) (fun o9 _ => ?_))
    by_cases e1 : c = 1
    · subst e1
      rw [L_X3_takeNumber_e1]; unfold B_X3_takeNumber_1
      repeat' (first
        | exact Par.no
        | (apply ih <;> assumption)
        | refine Par.bd (PL_X3_take K hK _ _ _ _ _ _ _ _ _ (by assumption) (by assumption)) (fun o9 h9 => ?_)
        | refine Par.br (fun _ => ?_) (fun _ => ?_)
        | exact Par.ret (by assumption)
        | refine Par.bd (P := fun _ => True) (fun _ _ => True.intro) (fun o9 _ => ?_))
    · have : L_X3_takeNumber K  (n + 1) c a1 l2 LL sv tk_many tk_at tk_kind tk_value tk_place tkfk tkfv tkfp = none := by
        match c, e0, e1 with
        | 0, e0, _ => exact absurd rfl e0
        | 1, _, e1 => exact absurd rfl e1
        | m + 2, _, _ => rfl
      rw [this]; exact Par.no
theorem PL_X3_takeNumber (K : Nat) (hK : 1000000000 ≤ K) (a1 : Nat) (l2 : Int32) (LL : List Nat) (sv : Nat → Nat → Int32) (tk_many : Int32) (tk_at : Int32) (tk_kind : Int32) (tk_value : Int32) (tk_place : Int32) (tkfk : Nat → Int32) (tkfv : Nat → Int32) (tkfp : Nat → Int32) (h1 : PLc tk_many tkfp) (h2 : 0 ≤ tk_place.toInt) : Par (F_X3_takeNumber K a1 l2 LL sv tk_many tk_at tk_kind tk_value tk_place tkfk tkfv tkfp) (fun r => 0 ≤ (r.2.2.2.2.2).toInt) := by
  unfold F_X3_takeNumber; exact PLL_X3_takeNumber K hK K 0 a1 l2 LL sv tk_many tk_at tk_kind tk_value tk_place tkfk tkfv tkfp h1 h2
set_option maxRecDepth 100000 in
theorem PLL_X3_takeAssignment (K : Nat) (hK : 1000000000 ≤ K)  : ∀ (n c : Nat) (a1 : Nat) (LL : List Nat) (sv : Nat → Nat → Int32) (ps_operands : Int32) (ps_cells : Int32) (tk_many : Int32) (tk_at : Int32) (tk_kind : Int32) (tk_value : Int32) (tk_place : Int32) (tkfk : Nat → Int32) (tkfv : Nat → Int32) (tkfp : Nat → Int32) (pp_codeSize : Int32) (pp_used : Int32) (ppk : Nat → Int32), PLc tk_many tkfp → 0 ≤ tk_place.toInt → Par (L_X3_takeAssignment K  n c a1 LL sv ps_operands ps_cells tk_many tk_at tk_kind tk_value tk_place tkfk tkfv tkfp pp_codeSize pp_used ppk) (fun r => 0 ≤ (r.2.2.2.2.2.2.2.1).toInt) := by
  intro n
  induction n with
  | zero => intros; exact Par.no
  | succ n ih =>
    intro c a1 LL sv ps_operands ps_cells tk_many tk_at tk_kind tk_value tk_place tkfk tkfv tkfp pp_codeSize pp_used ppk hfp hpl
    by_cases e0 : c = 0
    · subst e0
      rw [L_X3_takeAssignment_e0]; unfold B_X3_takeAssignment_0
      repeat' (first
        | exact Par.no
        | (apply ih <;> assumption)
        | refine Par.bd (PL_X7_advance K hK _ _ _ _ _ _ _ _ (by assumption) (by assumption)) (fun o9 h9 => ?_)
        | refine Par.bd (PL_X3_take K hK _ _ _ _ _ _ _ _ _ (by assumption) (by assumption)) (fun o9 h9 => ?_)
        | refine Par.bd (PL_X3_takeWholeSum K hK _ _ _ _ _ _ _ _ _ _ _ _ _ _ _ (by assumption) (by assumption)) (fun o9 h9 => ?_)
        | refine Par.br (fun _ => ?_) (fun _ => ?_)
        | exact Par.ret (by assumption)
        | refine Par.bd (P := fun _ => True) (fun _ _ => True.intro) (fun o9 _ => ?_))
    by_cases e1 : c = 1
    · subst e1
      rw [L_X3_takeAssignment_e1]; unfold B_X3_takeAssignment_1
      repeat' (first
        | exact Par.no
        | (apply ih <;> assumption)
        | refine Par.bd (PL_X7_advance K hK _ _ _ _ _ _ _ _ (by assumption) (by assumption)) (fun o9 h9 => ?_)
        | refine Par.bd (PL_X3_take K hK _ _ _ _ _ _ _ _ _ (by assumption) (by assumption)) (fun o9 h9 => ?_)
        | refine Par.bd (PL_X3_takeWholeSum K hK _ _ _ _ _ _ _ _ _ _ _ _ _ _ _ (by assumption) (by assumption)) (fun o9 h9 => ?_)
        | refine Par.br (fun _ => ?_) (fun _ => ?_)
        | exact Par.ret (by assumption)
        | refine Par.bd (P := fun _ => True) (fun _ _ => True.intro) (fun o9 _ => ?_))
    · have : L_X3_takeAssignment K  (n + 1) c a1 LL sv ps_operands ps_cells tk_many tk_at tk_kind tk_value tk_place tkfk tkfv tkfp pp_codeSize pp_used ppk = none := by
        match c, e0, e1 with
        | 0, e0, _ => exact absurd rfl e0
        | 1, _, e1 => exact absurd rfl e1
        | m + 2, _, _ => rfl
      rw [this]; exact Par.no
theorem PL_X3_takeAssignment (K : Nat) (hK : 1000000000 ≤ K) (a1 : Nat) (LL : List Nat) (sv : Nat → Nat → Int32) (ps_operands : Int32) (ps_cells : Int32) (tk_many : Int32) (tk_at : Int32) (tk_kind : Int32) (tk_value : Int32) (tk_place : Int32) (tkfk : Nat → Int32) (tkfv : Nat → Int32) (tkfp : Nat → Int32) (pp_codeSize : Int32) (pp_used : Int32) (ppk : Nat → Int32) (h1 : PLc tk_many tkfp) (h2 : 0 ≤ tk_place.toInt) : Par (F_X3_takeAssignment K a1 LL sv ps_operands ps_cells tk_many tk_at tk_kind tk_value tk_place tkfk tkfv tkfp pp_codeSize pp_used ppk) (fun r => 0 ≤ (r.2.2.2.2.2.2.2.1).toInt) := by
  unfold F_X3_takeAssignment; exact PLL_X3_takeAssignment K hK K 0 a1 LL sv ps_operands ps_cells tk_many tk_at tk_kind tk_value tk_place tkfk tkfv tkfp pp_codeSize pp_used ppk h1 h2
set_option maxRecDepth 100000 in
theorem PLL_X3_takeOut (K : Nat) (hK : 1000000000 ≤ K)  : ∀ (n c : Nat) (a1 : Nat) (LL : List Nat) (sv : Nat → Nat → Int32) (ps_operands : Int32) (ps_cells : Int32) (tk_many : Int32) (tk_at : Int32) (tk_kind : Int32) (tk_value : Int32) (tk_place : Int32) (tkfk : Nat → Int32) (tkfv : Nat → Int32) (tkfp : Nat → Int32) (pp_codeSize : Int32) (pp_outs : Int32) (ppk : Nat → Int32), PLc tk_many tkfp → 0 ≤ tk_place.toInt → Par (L_X3_takeOut K  n c a1 LL sv ps_operands ps_cells tk_many tk_at tk_kind tk_value tk_place tkfk tkfv tkfp pp_codeSize pp_outs ppk) (fun r => 0 ≤ (r.2.2.2.2.2.2.2.1).toInt) := by
  intro n
  induction n with
  | zero => intros; exact Par.no
  | succ n ih =>
    intro c a1 LL sv ps_operands ps_cells tk_many tk_at tk_kind tk_value tk_place tkfk tkfv tkfp pp_codeSize pp_outs ppk hfp hpl
    by_cases e0 : c = 0
    · subst e0
      rw [L_X3_takeOut_e0]; unfold B_X3_takeOut_0
      repeat' (first
        | exact Par.no
        | (apply ih <;> assumption)
        | refine Par.bd (PL_X7_advance K hK _ _ _ _ _ _ _ _ (by assumption) (by assumption)) (fun o9 h9 => ?_)
        | refine Par.bd (PL_X3_take K hK _ _ _ _ _ _ _ _ _ (by assumption) (by assumption)) (fun o9 h9 => ?_)
        | refine Par.bd (PL_X3_takeNumber K hK _ _ _ _ _ _ _ _ _ _ _ _ (by assumption) (by assumption)) (fun o9 h9 => ?_)
        | refine Par.bd (PL_X3_takeWholeSum K hK _ _ _ _ _ _ _ _ _ _ _ _ _ _ _ (by assumption) (by assumption)) (fun o9 h9 => ?_)
        | refine Par.br (fun _ => ?_) (fun _ => ?_)
        | exact Par.ret (by assumption)
        | refine Par.bd (P := fun _ => True) (fun _ _ => True.intro) (fun o9 _ => ?_))
    by_cases e1 : c = 1
    · subst e1
      rw [L_X3_takeOut_e1]; unfold B_X3_takeOut_1
      repeat' (first
        | exact Par.no
        | (apply ih <;> assumption)
        | refine Par.bd (PL_X7_advance K hK _ _ _ _ _ _ _ _ (by assumption) (by assumption)) (fun o9 h9 => ?_)
        | refine Par.bd (PL_X3_take K hK _ _ _ _ _ _ _ _ _ (by assumption) (by assumption)) (fun o9 h9 => ?_)
        | refine Par.bd (PL_X3_takeNumber K hK _ _ _ _ _ _ _ _ _ _ _ _ (by assumption) (by assumption)) (fun o9 h9 => ?_)
        | refine Par.bd (PL_X3_takeWholeSum K hK _ _ _ _ _ _ _ _ _ _ _ _ _ _ _ (by assumption) (by assumption)) (fun o9 h9 => ?_)
        | refine Par.br (fun _ => ?_) (fun _ => ?_)
        | exact Par.ret (by assumption)
        | refine Par.bd (P := fun _ => True) (fun _ _ => True.intro) (fun o9 _ => ?_))
    · have : L_X3_takeOut K  (n + 1) c a1 LL sv ps_operands ps_cells tk_many tk_at tk_kind tk_value tk_place tkfk tkfv tkfp pp_codeSize pp_outs ppk = none := by
        match c, e0, e1 with
        | 0, e0, _ => exact absurd rfl e0
        | 1, _, e1 => exact absurd rfl e1
        | m + 2, _, _ => rfl
      rw [this]; exact Par.no
theorem PL_X3_takeOut (K : Nat) (hK : 1000000000 ≤ K) (a1 : Nat) (LL : List Nat) (sv : Nat → Nat → Int32) (ps_operands : Int32) (ps_cells : Int32) (tk_many : Int32) (tk_at : Int32) (tk_kind : Int32) (tk_value : Int32) (tk_place : Int32) (tkfk : Nat → Int32) (tkfv : Nat → Int32) (tkfp : Nat → Int32) (pp_codeSize : Int32) (pp_outs : Int32) (ppk : Nat → Int32) (h1 : PLc tk_many tkfp) (h2 : 0 ≤ tk_place.toInt) : Par (F_X3_takeOut K a1 LL sv ps_operands ps_cells tk_many tk_at tk_kind tk_value tk_place tkfk tkfv tkfp pp_codeSize pp_outs ppk) (fun r => 0 ≤ (r.2.2.2.2.2.2.2.1).toInt) := by
  unfold F_X3_takeOut; exact PLL_X3_takeOut K hK K 0 a1 LL sv ps_operands ps_cells tk_many tk_at tk_kind tk_value tk_place tkfk tkfv tkfp pp_codeSize pp_outs ppk h1 h2
set_option maxRecDepth 100000 in
theorem PLL_X3_takeStatements (K : Nat) (hK : 1000000000 ≤ K) (cal_X3_takeStatements : Int32 → Int32 → (List Nat) → (Nat → Nat → Int32) → Int32 → Int32 → Int32 → Int32 → Int32 → Int32 → Int32 → (Nat → Int32) → (Nat → Int32) → (Nat → Int32) → Int32 → Int32 → Int32 → Int32 → (Nat → Option Nat) → (Nat → Int32) → Option (Int32 × (Nat → Nat → Int32) × Int32 × Int32 × Int32 × Int32 × Int32 × Int32 × Int32 × Int32 × Int32 × Int32 × (Nat → Int32))) (cal_X3_takeStatement : Int32 → Int32 → (List Nat) → (Nat → Nat → Int32) → Int32 → Int32 → Int32 → Int32 → Int32 → Int32 → Int32 → (Nat → Int32) → (Nat → Int32) → (Nat → Int32) → Int32 → Int32 → Int32 → Int32 → (Nat → Option Nat) → (Nat → Int32) → Option (Int32 × (Nat → Nat → Int32) × Int32 × Int32 × Int32 × Int32 × Int32 × Int32 × Int32 × Int32 × Int32 × Int32 × (Nat → Int32))) (cal_X3_takeIf : Nat → Int32 → Int32 → (List Nat) → (Nat → Nat → Int32) → Int32 → Int32 → Int32 → Int32 → Int32 → Int32 → Int32 → (Nat → Int32) → (Nat → Int32) → (Nat → Int32) → Int32 → Int32 → Int32 → Int32 → (Nat → Option Nat) → (Nat → Int32) → Option (Int32 × (Nat → Nat → Int32) × Int32 × Int32 × Int32 × Int32 × Int32 × Int32 × Int32 × Int32 × Int32 × Int32 × (Nat → Int32))) (cal_X3_takeLoop : Nat → Int32 → Int32 → (List Nat) → (Nat → Nat → Int32) → Int32 → Int32 → Int32 → Int32 → Int32 → Int32 → Int32 → (Nat → Int32) → (Nat → Int32) → (Nat → Int32) → Int32 → Int32 → Int32 → Int32 → (Nat → Option Nat) → (Nat → Int32) → Option (Int32 × (Nat → Nat → Int32) × Int32 × Int32 × Int32 × Int32 × Int32 × Int32 × Int32 × Int32 × Int32 × Int32 × (Nat → Int32))) (cal_X3_takeBraced : Int32 → Int32 → (List Nat) → (Nat → Nat → Int32) → Int32 → Int32 → Int32 → Int32 → Int32 → Int32 → Int32 → (Nat → Int32) → (Nat → Int32) → (Nat → Int32) → Int32 → Int32 → Int32 → Int32 → (Nat → Option Nat) → (Nat → Int32) → Option (Int32 × (Nat → Nat → Int32) × Int32 × Int32 × Int32 × Int32 × Int32 × Int32 × Int32 × Int32 × Int32 × Int32 × (Nat → Int32))) (hX3_takeStatements : ∀ (l1 : Int32) (l2 : Int32) (LL : List Nat) (sv : Nat → Nat → Int32) (ps_operands : Int32) (ps_cells : Int32) (tk_many : Int32) (tk_at : Int32) (tk_kind : Int32) (tk_value : Int32) (tk_place : Int32) (tkfk : Nat → Int32) (tkfv : Nat → Int32) (tkfp : Nat → Int32) (pp_size : Int32) (pp_codeSize : Int32) (pp_outs : Int32) (pp_used : Int32) (ppg : Nat → Option Nat) (ppk : Nat → Int32), PLc tk_many tkfp → 0 ≤ tk_place.toInt → Par (cal_X3_takeStatements l1 l2 LL sv ps_operands ps_cells tk_many tk_at tk_kind tk_value tk_place tkfk tkfv tkfp pp_size pp_codeSize pp_outs pp_used ppg ppk) (fun r => 0 ≤ (r.2.2.2.2.2.2.2.1).toInt)) (hX3_takeStatement : ∀ (l1 : Int32) (l2 : Int32) (LL : List Nat) (sv : Nat → Nat → Int32) (ps_operands : Int32) (ps_cells : Int32) (tk_many : Int32) (tk_at : Int32) (tk_kind : Int32) (tk_value : Int32) (tk_place : Int32) (tkfk : Nat → Int32) (tkfv : Nat → Int32) (tkfp : Nat → Int32) (pp_size : Int32) (pp_codeSize : Int32) (pp_outs : Int32) (pp_used : Int32) (ppg : Nat → Option Nat) (ppk : Nat → Int32), PLc tk_many tkfp → 0 ≤ tk_place.toInt → Par (cal_X3_takeStatement l1 l2 LL sv ps_operands ps_cells tk_many tk_at tk_kind tk_value tk_place tkfk tkfv tkfp pp_size pp_codeSize pp_outs pp_used ppg ppk) (fun r => 0 ≤ (r.2.2.2.2.2.2.2.1).toInt)) (hX3_takeIf : ∀ (a1 : Nat) (l2 : Int32) (l3 : Int32) (LL : List Nat) (sv : Nat → Nat → Int32) (ps_operands : Int32) (ps_cells : Int32) (tk_many : Int32) (tk_at : Int32) (tk_kind : Int32) (tk_value : Int32) (tk_place : Int32) (tkfk : Nat → Int32) (tkfv : Nat → Int32) (tkfp : Nat → Int32) (pp_size : Int32) (pp_codeSize : Int32) (pp_outs : Int32) (pp_used : Int32) (ppg : Nat → Option Nat) (ppk : Nat → Int32), PLc tk_many tkfp → 0 ≤ tk_place.toInt → Par (cal_X3_takeIf a1 l2 l3 LL sv ps_operands ps_cells tk_many tk_at tk_kind tk_value tk_place tkfk tkfv tkfp pp_size pp_codeSize pp_outs pp_used ppg ppk) (fun r => 0 ≤ (r.2.2.2.2.2.2.2.1).toInt)) (hX3_takeLoop : ∀ (a1 : Nat) (l2 : Int32) (l3 : Int32) (LL : List Nat) (sv : Nat → Nat → Int32) (ps_operands : Int32) (ps_cells : Int32) (tk_many : Int32) (tk_at : Int32) (tk_kind : Int32) (tk_value : Int32) (tk_place : Int32) (tkfk : Nat → Int32) (tkfv : Nat → Int32) (tkfp : Nat → Int32) (pp_size : Int32) (pp_codeSize : Int32) (pp_outs : Int32) (pp_used : Int32) (ppg : Nat → Option Nat) (ppk : Nat → Int32), PLc tk_many tkfp → 0 ≤ tk_place.toInt → Par (cal_X3_takeLoop a1 l2 l3 LL sv ps_operands ps_cells tk_many tk_at tk_kind tk_value tk_place tkfk tkfv tkfp pp_size pp_codeSize pp_outs pp_used ppg ppk) (fun r => 0 ≤ (r.2.2.2.2.2.2.2.1).toInt)) (hX3_takeBraced : ∀ (l1 : Int32) (l2 : Int32) (LL : List Nat) (sv : Nat → Nat → Int32) (ps_operands : Int32) (ps_cells : Int32) (tk_many : Int32) (tk_at : Int32) (tk_kind : Int32) (tk_value : Int32) (tk_place : Int32) (tkfk : Nat → Int32) (tkfv : Nat → Int32) (tkfp : Nat → Int32) (pp_size : Int32) (pp_codeSize : Int32) (pp_outs : Int32) (pp_used : Int32) (ppg : Nat → Option Nat) (ppk : Nat → Int32), PLc tk_many tkfp → 0 ≤ tk_place.toInt → Par (cal_X3_takeBraced l1 l2 LL sv ps_operands ps_cells tk_many tk_at tk_kind tk_value tk_place tkfk tkfv tkfp pp_size pp_codeSize pp_outs pp_used ppg ppk) (fun r => 0 ≤ (r.2.2.2.2.2.2.2.1).toInt)) : ∀ (n c : Nat) (l1 : Int32) (l2 : Int32) (l3 : Int32) (LL : List Nat) (sv : Nat → Nat → Int32) (ps_operands : Int32) (ps_cells : Int32) (tk_many : Int32) (tk_at : Int32) (tk_kind : Int32) (tk_value : Int32) (tk_place : Int32) (tkfk : Nat → Int32) (tkfv : Nat → Int32) (tkfp : Nat → Int32) (pp_size : Int32) (pp_codeSize : Int32) (pp_outs : Int32) (pp_used : Int32) (ppg : Nat → Option Nat) (ppk : Nat → Int32), PLc tk_many tkfp → 0 ≤ tk_place.toInt → Par (L_X3_takeStatements K cal_X3_takeStatements cal_X3_takeStatement cal_X3_takeIf cal_X3_takeLoop cal_X3_takeBraced n c l1 l2 l3 LL sv ps_operands ps_cells tk_many tk_at tk_kind tk_value tk_place tkfk tkfv tkfp pp_size pp_codeSize pp_outs pp_used ppg ppk) (fun r => 0 ≤ (r.2.2.2.2.2.2.2.1).toInt) := by
  intro n
  induction n with
  | zero => intros; exact Par.no
  | succ n ih =>
    intro c l1 l2 l3 LL sv ps_operands ps_cells tk_many tk_at tk_kind tk_value tk_place tkfk tkfv tkfp pp_size pp_codeSize pp_outs pp_used ppg ppk hfp hpl
    by_cases e0 : c = 0
    · subst e0
      rw [L_X3_takeStatements_e0]; unfold B_X3_takeStatements_0
      repeat' (first
        | exact Par.no
        | (apply ih <;> assumption)
        | refine Par.bd (PL_X7_advance K hK _ _ _ _ _ _ _ _ (by assumption) (by assumption)) (fun o9 h9 => ?_)
        | refine Par.bd (PL_X3_take K hK _ _ _ _ _ _ _ _ _ (by assumption) (by assumption)) (fun o9 h9 => ?_)
        | refine Par.bd (PL_X3_takeNumber K hK _ _ _ _ _ _ _ _ _ _ _ _ (by assumption) (by assumption)) (fun o9 h9 => ?_)
        | refine Par.bd (PL_X3_takeWholeSum K hK _ _ _ _ _ _ _ _ _ _ _ _ _ _ _ (by assumption) (by assumption)) (fun o9 h9 => ?_)
        | refine Par.bd (PL_X3_takeAssignment K hK _ _ _ _ _ _ _ _ _ _ _ _ _ _ _ _ (by assumption) (by assumption)) (fun o9 h9 => ?_)
        | refine Par.bd (PL_X3_takeOut K hK _ _ _ _ _ _ _ _ _ _ _ _ _ _ _ _ (by assumption) (by assumption)) (fun o9 h9 => ?_)
        | refine Par.bd (hX3_takeStatements _ _ _ _ _ _ _ _ _ _ _ _ _ _ _ _ _ _ _ _ (by assumption) (by assumption)) (fun o9 h9 => ?_)
        | refine Par.bd (hX3_takeStatement _ _ _ _ _ _ _ _ _ _ _ _ _ _ _ _ _ _ _ _ (by assumption) (by assumption)) (fun o9 h9 => ?_)
        | refine Par.bd (hX3_takeIf _ _ _ _ _ _ _ _ _ _ _ _ _ _ _ _ _ _ _ _ _ (by assumption) (by assumption)) (fun o9 h9 => ?_)
        | refine Par.bd (hX3_takeLoop _ _ _ _ _ _ _ _ _ _ _ _ _ _ _ _ _ _ _ _ _ (by assumption) (by assumption)) (fun o9 h9 => ?_)
        | refine Par.bd (hX3_takeBraced _ _ _ _ _ _ _ _ _ _ _ _ _ _ _ _ _ _ _ _ (by assumption) (by assumption)) (fun o9 h9 => ?_)
        | refine Par.br (fun _ => ?_) (fun _ => ?_)
        | exact Par.ret (by assumption)
        | refine Par.bd (P := fun _ => True) (fun _ _ => True.intro) (fun o9 _ => ?_))
    by_cases e1 : c = 1
    · subst e1
      rw [L_X3_takeStatements_e1]; unfold B_X3_takeStatements_1
      repeat' (first
        | exact Par.no
        | (apply ih <;> assumption)
        | refine Par.bd (PL_X7_advance K hK _ _ _ _ _ _ _ _ (by assumption) (by assumption)) (fun o9 h9 => ?_)
        | refine Par.bd (PL_X3_take K hK _ _ _ _ _ _ _ _ _ (by assumption) (by assumption)) (fun o9 h9 => ?_)
        | refine Par.bd (PL_X3_takeNumber K hK _ _ _ _ _ _ _ _ _ _ _ _ (by assumption) (by assumption)) (fun o9 h9 => ?_)
        | refine Par.bd (PL_X3_takeWholeSum K hK _ _ _ _ _ _ _ _ _ _ _ _ _ _ _ (by assumption) (by assumption)) (fun o9 h9 => ?_)
        | refine Par.bd (PL_X3_takeAssignment K hK _ _ _ _ _ _ _ _ _ _ _ _ _ _ _ _ (by assumption) (by assumption)) (fun o9 h9 => ?_)
        | refine Par.bd (PL_X3_takeOut K hK _ _ _ _ _ _ _ _ _ _ _ _ _ _ _ _ (by assumption) (by assumption)) (fun o9 h9 => ?_)
        | refine Par.bd (hX3_takeStatements _ _ _ _ _ _ _ _ _ _ _ _ _ _ _ _ _ _ _ _ (by assumption) (by assumption)) (fun o9 h9 => ?_)
        | refine Par.bd (hX3_takeStatement _ _ _ _ _ _ _ _ _ _ _ _ _ _ _ _ _ _ _ _ (by assumption) (by assumption)) (fun o9 h9 => ?_)
        | refine Par.bd (hX3_takeIf _ _ _ _ _ _ _ _ _ _ _ _ _ _ _ _ _ _ _ _ _ (by assumption) (by assumption)) (fun o9 h9 => ?_)
        | refine Par.bd (hX3_takeLoop _ _ _ _ _ _ _ _ _ _ _ _ _ _ _ _ _ _ _ _ _ (by assumption) (by assumption)) (fun o9 h9 => ?_)
        | refine Par.bd (hX3_takeBraced _ _ _ _ _ _ _ _ _ _ _ _ _ _ _ _ _ _ _ _ (by assumption) (by assumption)) (fun o9 h9 => ?_)
        | refine Par.br (fun _ => ?_) (fun _ => ?_)
        | exact Par.ret (by assumption)
        | refine Par.bd (P := fun _ => True) (fun _ _ => True.intro) (fun o9 _ => ?_))
    by_cases e2 : c = 2
    · subst e2
      rw [L_X3_takeStatements_e2]; unfold B_X3_takeStatements_2
      repeat' (first
        | exact Par.no
        | (apply ih <;> assumption)
        | refine Par.bd (PL_X7_advance K hK _ _ _ _ _ _ _ _ (by assumption) (by assumption)) (fun o9 h9 => ?_)
        | refine Par.bd (PL_X3_take K hK _ _ _ _ _ _ _ _ _ (by assumption) (by assumption)) (fun o9 h9 => ?_)
        | refine Par.bd (PL_X3_takeNumber K hK _ _ _ _ _ _ _ _ _ _ _ _ (by assumption) (by assumption)) (fun o9 h9 => ?_)
        | refine Par.bd (PL_X3_takeWholeSum K hK _ _ _ _ _ _ _ _ _ _ _ _ _ _ _ (by assumption) (by assumption)) (fun o9 h9 => ?_)
        | refine Par.bd (PL_X3_takeAssignment K hK _ _ _ _ _ _ _ _ _ _ _ _ _ _ _ _ (by assumption) (by assumption)) (fun o9 h9 => ?_)
        | refine Par.bd (PL_X3_takeOut K hK _ _ _ _ _ _ _ _ _ _ _ _ _ _ _ _ (by assumption) (by assumption)) (fun o9 h9 => ?_)
        | refine Par.bd (hX3_takeStatements _ _ _ _ _ _ _ _ _ _ _ _ _ _ _ _ _ _ _ _ (by assumption) (by assumption)) (fun o9 h9 => ?_)
        | refine Par.bd (hX3_takeStatement _ _ _ _ _ _ _ _ _ _ _ _ _ _ _ _ _ _ _ _ (by assumption) (by assumption)) (fun o9 h9 => ?_)
        | refine Par.bd (hX3_takeIf _ _ _ _ _ _ _ _ _ _ _ _ _ _ _ _ _ _ _ _ _ (by assumption) (by assumption)) (fun o9 h9 => ?_)
        | refine Par.bd (hX3_takeLoop _ _ _ _ _ _ _ _ _ _ _ _ _ _ _ _ _ _ _ _ _ (by assumption) (by assumption)) (fun o9 h9 => ?_)
        | refine Par.bd (hX3_takeBraced _ _ _ _ _ _ _ _ _ _ _ _ _ _ _ _ _ _ _ _ (by assumption) (by assumption)) (fun o9 h9 => ?_)
        | refine Par.br (fun _ => ?_) (fun _ => ?_)
        | exact Par.ret (by assumption)
        | refine Par.bd (P := fun _ => True) (fun _ _ => True.intro) (fun o9 _ => ?_))
    by_cases e3 : c = 3
    · subst e3
      rw [L_X3_takeStatements_e3]; unfold B_X3_takeStatements_3
      repeat' (first
        | exact Par.no
        | (apply ih <;> assumption)
        | refine Par.bd (PL_X7_advance K hK _ _ _ _ _ _ _ _ (by assumption) (by assumption)) (fun o9 h9 => ?_)
        | refine Par.bd (PL_X3_take K hK _ _ _ _ _ _ _ _ _ (by assumption) (by assumption)) (fun o9 h9 => ?_)
        | refine Par.bd (PL_X3_takeNumber K hK _ _ _ _ _ _ _ _ _ _ _ _ (by assumption) (by assumption)) (fun o9 h9 => ?_)
        | refine Par.bd (PL_X3_takeWholeSum K hK _ _ _ _ _ _ _ _ _ _ _ _ _ _ _ (by assumption) (by assumption)) (fun o9 h9 => ?_)
        | refine Par.bd (PL_X3_takeAssignment K hK _ _ _ _ _ _ _ _ _ _ _ _ _ _ _ _ (by assumption) (by assumption)) (fun o9 h9 => ?_)
        | refine Par.bd (PL_X3_takeOut K hK _ _ _ _ _ _ _ _ _ _ _ _ _ _ _ _ (by assumption) (by assumption)) (fun o9 h9 => ?_)
        | refine Par.bd (hX3_takeStatements _ _ _ _ _ _ _ _ _ _ _ _ _ _ _ _ _ _ _ _ (by assumption) (by assumption)) (fun o9 h9 => ?_)
        | refine Par.bd (hX3_takeStatement _ _ _ _ _ _ _ _ _ _ _ _ _ _ _ _ _ _ _ _ (by assumption) (by assumption)) (fun o9 h9 => ?_)
        | refine Par.bd (hX3_takeIf _ _ _ _ _ _ _ _ _ _ _ _ _ _ _ _ _ _ _ _ _ (by assumption) (by assumption)) (fun o9 h9 => ?_)
        | refine Par.bd (hX3_takeLoop _ _ _ _ _ _ _ _ _ _ _ _ _ _ _ _ _ _ _ _ _ (by assumption) (by assumption)) (fun o9 h9 => ?_)
        | refine Par.bd (hX3_takeBraced _ _ _ _ _ _ _ _ _ _ _ _ _ _ _ _ _ _ _ _ (by assumption) (by assumption)) (fun o9 h9 => ?_)
        | refine Par.br (fun _ => ?_) (fun _ => ?_)
        | exact Par.ret (by assumption)
        | refine Par.bd (P := fun _ => True) (fun _ _ => True.intro) (fun o9 _ => ?_))
    · have : L_X3_takeStatements K cal_X3_takeStatements cal_X3_takeStatement cal_X3_takeIf cal_X3_takeLoop cal_X3_takeBraced (n + 1) c l1 l2 l3 LL sv ps_operands ps_cells tk_many tk_at tk_kind tk_value tk_place tkfk tkfv tkfp pp_size pp_codeSize pp_outs pp_used ppg ppk = none := by
        match c, e0, e1, e2, e3 with
        | 0, e0, _, _, _ => exact absurd rfl e0
        | 1, _, e1, _, _ => exact absurd rfl e1
        | 2, _, _, e2, _ => exact absurd rfl e2
        | 3, _, _, _, e3 => exact absurd rfl e3
        | m + 4, _, _, _, _ => rfl
      rw [this]; exact Par.no
set_option maxRecDepth 100000 in
theorem PLL_X3_takeStatement (K : Nat) (hK : 1000000000 ≤ K) (cal_X3_takeStatements : Int32 → Int32 → (List Nat) → (Nat → Nat → Int32) → Int32 → Int32 → Int32 → Int32 → Int32 → Int32 → Int32 → (Nat → Int32) → (Nat → Int32) → (Nat → Int32) → Int32 → Int32 → Int32 → Int32 → (Nat → Option Nat) → (Nat → Int32) → Option (Int32 × (Nat → Nat → Int32) × Int32 × Int32 × Int32 × Int32 × Int32 × Int32 × Int32 × Int32 × Int32 × Int32 × (Nat → Int32))) (cal_X3_takeStatement : Int32 → Int32 → (List Nat) → (Nat → Nat → Int32) → Int32 → Int32 → Int32 → Int32 → Int32 → Int32 → Int32 → (Nat → Int32) → (Nat → Int32) → (Nat → Int32) → Int32 → Int32 → Int32 → Int32 → (Nat → Option Nat) → (Nat → Int32) → Option (Int32 × (Nat → Nat → Int32) × Int32 × Int32 × Int32 × Int32 × Int32 × Int32 × Int32 × Int32 × Int32 × Int32 × (Nat → Int32))) (cal_X3_takeIf : Nat → Int32 → Int32 → (List Nat) → (Nat → Nat → Int32) → Int32 → Int32 → Int32 → Int32 → Int32 → Int32 → Int32 → (Nat → Int32) → (Nat → Int32) → (Nat → Int32) → Int32 → Int32 → Int32 → Int32 → (Nat → Option Nat) → (Nat → Int32) → Option (Int32 × (Nat → Nat → Int32) × Int32 × Int32 × Int32 × Int32 × Int32 × Int32 × Int32 × Int32 × Int32 × Int32 × (Nat → Int32))) (cal_X3_takeLoop : Nat → Int32 → Int32 → (List Nat) → (Nat → Nat → Int32) → Int32 → Int32 → Int32 → Int32 → Int32 → Int32 → Int32 → (Nat → Int32) → (Nat → Int32) → (Nat → Int32) → Int32 → Int32 → Int32 → Int32 → (Nat → Option Nat) → (Nat → Int32) → Option (Int32 × (Nat → Nat → Int32) × Int32 × Int32 × Int32 × Int32 × Int32 × Int32 × Int32 × Int32 × Int32 × Int32 × (Nat → Int32))) (cal_X3_takeBraced : Int32 → Int32 → (List Nat) → (Nat → Nat → Int32) → Int32 → Int32 → Int32 → Int32 → Int32 → Int32 → Int32 → (Nat → Int32) → (Nat → Int32) → (Nat → Int32) → Int32 → Int32 → Int32 → Int32 → (Nat → Option Nat) → (Nat → Int32) → Option (Int32 × (Nat → Nat → Int32) × Int32 × Int32 × Int32 × Int32 × Int32 × Int32 × Int32 × Int32 × Int32 × Int32 × (Nat → Int32))) (hX3_takeStatements : ∀ (l1 : Int32) (l2 : Int32) (LL : List Nat) (sv : Nat → Nat → Int32) (ps_operands : Int32) (ps_cells : Int32) (tk_many : Int32) (tk_at : Int32) (tk_kind : Int32) (tk_value : Int32) (tk_place : Int32) (tkfk : Nat → Int32) (tkfv : Nat → Int32) (tkfp : Nat → Int32) (pp_size : Int32) (pp_codeSize : Int32) (pp_outs : Int32) (pp_used : Int32) (ppg : Nat → Option Nat) (ppk : Nat → Int32), PLc tk_many tkfp → 0 ≤ tk_place.toInt → Par (cal_X3_takeStatements l1 l2 LL sv ps_operands ps_cells tk_many tk_at tk_kind tk_value tk_place tkfk tkfv tkfp pp_size pp_codeSize pp_outs pp_used ppg ppk) (fun r => 0 ≤ (r.2.2.2.2.2.2.2.1).toInt)) (hX3_takeStatement : ∀ (l1 : Int32) (l2 : Int32) (LL : List Nat) (sv : Nat → Nat → Int32) (ps_operands : Int32) (ps_cells : Int32) (tk_many : Int32) (tk_at : Int32) (tk_kind : Int32) (tk_value : Int32) (tk_place : Int32) (tkfk : Nat → Int32) (tkfv : Nat → Int32) (tkfp : Nat → Int32) (pp_size : Int32) (pp_codeSize : Int32) (pp_outs : Int32) (pp_used : Int32) (ppg : Nat → Option Nat) (ppk : Nat → Int32), PLc tk_many tkfp → 0 ≤ tk_place.toInt → Par (cal_X3_takeStatement l1 l2 LL sv ps_operands ps_cells tk_many tk_at tk_kind tk_value tk_place tkfk tkfv tkfp pp_size pp_codeSize pp_outs pp_used ppg ppk) (fun r => 0 ≤ (r.2.2.2.2.2.2.2.1).toInt)) (hX3_takeIf : ∀ (a1 : Nat) (l2 : Int32) (l3 : Int32) (LL : List Nat) (sv : Nat → Nat → Int32) (ps_operands : Int32) (ps_cells : Int32) (tk_many : Int32) (tk_at : Int32) (tk_kind : Int32) (tk_value : Int32) (tk_place : Int32) (tkfk : Nat → Int32) (tkfv : Nat → Int32) (tkfp : Nat → Int32) (pp_size : Int32) (pp_codeSize : Int32) (pp_outs : Int32) (pp_used : Int32) (ppg : Nat → Option Nat) (ppk : Nat → Int32), PLc tk_many tkfp → 0 ≤ tk_place.toInt → Par (cal_X3_takeIf a1 l2 l3 LL sv ps_operands ps_cells tk_many tk_at tk_kind tk_value tk_place tkfk tkfv tkfp pp_size pp_codeSize pp_outs pp_used ppg ppk) (fun r => 0 ≤ (r.2.2.2.2.2.2.2.1).toInt)) (hX3_takeLoop : ∀ (a1 : Nat) (l2 : Int32) (l3 : Int32) (LL : List Nat) (sv : Nat → Nat → Int32) (ps_operands : Int32) (ps_cells : Int32) (tk_many : Int32) (tk_at : Int32) (tk_kind : Int32) (tk_value : Int32) (tk_place : Int32) (tkfk : Nat → Int32) (tkfv : Nat → Int32) (tkfp : Nat → Int32) (pp_size : Int32) (pp_codeSize : Int32) (pp_outs : Int32) (pp_used : Int32) (ppg : Nat → Option Nat) (ppk : Nat → Int32), PLc tk_many tkfp → 0 ≤ tk_place.toInt → Par (cal_X3_takeLoop a1 l2 l3 LL sv ps_operands ps_cells tk_many tk_at tk_kind tk_value tk_place tkfk tkfv tkfp pp_size pp_codeSize pp_outs pp_used ppg ppk) (fun r => 0 ≤ (r.2.2.2.2.2.2.2.1).toInt)) (hX3_takeBraced : ∀ (l1 : Int32) (l2 : Int32) (LL : List Nat) (sv : Nat → Nat → Int32) (ps_operands : Int32) (ps_cells : Int32) (tk_many : Int32) (tk_at : Int32) (tk_kind : Int32) (tk_value : Int32) (tk_place : Int32) (tkfk : Nat → Int32) (tkfv : Nat → Int32) (tkfp : Nat → Int32) (pp_size : Int32) (pp_codeSize : Int32) (pp_outs : Int32) (pp_used : Int32) (ppg : Nat → Option Nat) (ppk : Nat → Int32), PLc tk_many tkfp → 0 ≤ tk_place.toInt → Par (cal_X3_takeBraced l1 l2 LL sv ps_operands ps_cells tk_many tk_at tk_kind tk_value tk_place tkfk tkfv tkfp pp_size pp_codeSize pp_outs pp_used ppg ppk) (fun r => 0 ≤ (r.2.2.2.2.2.2.2.1).toInt)) : ∀ (n c : Nat) (l1 : Int32) (l2 : Int32) (l3 : Int32) (a4 : Nat) (l5 : Int32) (LL : List Nat) (sv : Nat → Nat → Int32) (ps_operands : Int32) (ps_cells : Int32) (tk_many : Int32) (tk_at : Int32) (tk_kind : Int32) (tk_value : Int32) (tk_place : Int32) (tkfk : Nat → Int32) (tkfv : Nat → Int32) (tkfp : Nat → Int32) (pp_size : Int32) (pp_codeSize : Int32) (pp_outs : Int32) (pp_used : Int32) (ppg : Nat → Option Nat) (ppk : Nat → Int32), PLc tk_many tkfp → 0 ≤ tk_place.toInt → Par (L_X3_takeStatement K cal_X3_takeStatements cal_X3_takeStatement cal_X3_takeIf cal_X3_takeLoop cal_X3_takeBraced n c l1 l2 l3 a4 l5 LL sv ps_operands ps_cells tk_many tk_at tk_kind tk_value tk_place tkfk tkfv tkfp pp_size pp_codeSize pp_outs pp_used ppg ppk) (fun r => 0 ≤ (r.2.2.2.2.2.2.2.1).toInt) := by
  intro n
  induction n with
  | zero => intros; exact Par.no
  | succ n ih =>
    intro c l1 l2 l3 a4 l5 LL sv ps_operands ps_cells tk_many tk_at tk_kind tk_value tk_place tkfk tkfv tkfp pp_size pp_codeSize pp_outs pp_used ppg ppk hfp hpl
    by_cases e0 : c = 0
    · subst e0
      rw [L_X3_takeStatement_e0]; unfold B_X3_takeStatement_0
      repeat' (first
        | exact Par.no
        | (apply ih <;> assumption)
        | refine Par.bd (PL_X7_advance K hK _ _ _ _ _ _ _ _ (by assumption) (by assumption)) (fun o9 h9 => ?_)
        | refine Par.bd (PL_X3_take K hK _ _ _ _ _ _ _ _ _ (by assumption) (by assumption)) (fun o9 h9 => ?_)
        | refine Par.bd (PL_X3_takeNumber K hK _ _ _ _ _ _ _ _ _ _ _ _ (by assumption) (by assumption)) (fun o9 h9 => ?_)
        | refine Par.bd (PL_X3_takeWholeSum K hK _ _ _ _ _ _ _ _ _ _ _ _ _ _ _ (by assumption) (by assumption)) (fun o9 h9 => ?_)
        | refine Par.bd (PL_X3_takeAssignment K hK _ _ _ _ _ _ _ _ _ _ _ _ _ _ _ _ (by assumption) (by assumption)) (fun o9 h9 => ?_)
        | refine Par.bd (PL_X3_takeOut K hK _ _ _ _ _ _ _ _ _ _ _ _ _ _ _ _ (by assumption) (by assumption)) (fun o9 h9 => ?_)
        | refine Par.bd (hX3_takeStatements _ _ _ _ _ _ _ _ _ _ _ _ _ _ _ _ _ _ _ _ (by assumption) (by assumption)) (fun o9 h9 => ?_)
        | refine Par.bd (hX3_takeStatement _ _ _ _ _ _ _ _ _ _ _ _ _ _ _ _ _ _ _ _ (by assumption) (by assumption)) (fun o9 h9 => ?_)
        | refine Par.bd (hX3_takeIf _ _ _ _ _ _ _ _ _ _ _ _ _ _ _ _ _ _ _ _ _ (by assumption) (by assumption)) (fun o9 h9 => ?_)
        | refine Par.bd (hX3_takeLoop _ _ _ _ _ _ _ _ _ _ _ _ _ _ _ _ _ _ _ _ _ (by assumption) (by assumption)) (fun o9 h9 => ?_)
        | refine Par.bd (hX3_takeBraced _ _ _ _ _ _ _ _ _ _ _ _ _ _ _ _ _ _ _ _ (by assumption) (by assumption)) (fun o9 h9 => ?_)
        | refine Par.br (fun _ => ?_) (fun _ => ?_)
        | exact Par.ret (by assumption)
        | refine Par.bd (P := fun _ => True) (fun _ _ => True.intro) (fun o9 _ => ?_))
    by_cases e1 : c = 1
    · subst e1
      rw [L_X3_takeStatement_e1]; unfold B_X3_takeStatement_1
      repeat' (first
        | exact Par.no
        | (apply ih <;> assumption)
        | refine Par.bd (PL_X7_advance K hK _ _ _ _ _ _ _ _ (by assumption) (by assumption)) (fun o9 h9 => ?_)
        | refine Par.bd (PL_X3_take K hK _ _ _ _ _ _ _ _ _ (by assumption) (by assumption)) (fun o9 h9 => ?_)
        | refine Par.bd (PL_X3_takeNumber K hK _ _ _ _ _ _ _ _ _ _ _ _ (by assumption) (by assumption)) (fun o9 h9 => ?_)
        | refine Par.bd (PL_X3_takeWholeSum K hK _ _ _ _ _ _ _ _ _ _ _ _ _ _ _ (by assumption) (by assumption)) (fun o9 h9 => ?_)
        | refine Par.bd (PL_X3_takeAssignment K hK _ _ _ _ _ _ _ _ _ _ _ _ _ _ _ _ (by assumption) (by assumption)) (fun o9 h9 => ?_)
        | refine Par.bd (PL_X3_takeOut K hK _ _ _ _ _ _ _ _ _ _ _ _ _ _ _ _ (by assumption) (by assumption)) (fun o9 h9 => ?_)
        | refine Par.bd (hX3_takeStatements _ _ _ _ _ _ _ _ _ _ _ _ _ _ _ _ _ _ _ _ (by assumption) (by assumption)) (fun o9 h9 => ?_)
        | refine Par.bd (hX3_takeStatement _ _ _ _ _ _ _ _ _ _ _ _ _ _ _ _ _ _ _ _ (by assumption) (by assumption)) (fun o9 h9 => ?_)
        | refine Par.bd (hX3_takeIf _ _ _ _ _ _ _ _ _ _ _ _ _ _ _ _ _ _ _ _ _ (by assumption) (by assumption)) (fun o9 h9 => ?_)
        | refine Par.bd (hX3_takeLoop _ _ _ _ _ _ _ _ _ _ _ _ _ _ _ _ _ _ _ _ _ (by assumption) (by assumption)) (fun o9 h9 => ?_)
        | refine Par.bd (hX3_takeBraced _ _ _ _ _ _ _ _ _ _ _ _ _ _ _ _ _ _ _ _ (by assumption) (by assumption)) (fun o9 h9 => ?_)
        | refine Par.br (fun _ => ?_) (fun _ => ?_)
        | exact Par.ret (by assumption)
        | refine Par.bd (P := fun _ => True) (fun _ _ => True.intro) (fun o9 _ => ?_))
    · have : L_X3_takeStatement K cal_X3_takeStatements cal_X3_takeStatement cal_X3_takeIf cal_X3_takeLoop cal_X3_takeBraced (n + 1) c l1 l2 l3 a4 l5 LL sv ps_operands ps_cells tk_many tk_at tk_kind tk_value tk_place tkfk tkfv tkfp pp_size pp_codeSize pp_outs pp_used ppg ppk = none := by
        match c, e0, e1 with
        | 0, e0, _ => exact absurd rfl e0
        | 1, _, e1 => exact absurd rfl e1
        | m + 2, _, _ => rfl
      rw [this]; exact Par.no
set_option maxRecDepth 100000 in
theorem PLL_X3_takeIf (K : Nat) (hK : 1000000000 ≤ K) (cal_X3_takeStatements : Int32 → Int32 → (List Nat) → (Nat → Nat → Int32) → Int32 → Int32 → Int32 → Int32 → Int32 → Int32 → Int32 → (Nat → Int32) → (Nat → Int32) → (Nat → Int32) → Int32 → Int32 → Int32 → Int32 → (Nat → Option Nat) → (Nat → Int32) → Option (Int32 × (Nat → Nat → Int32) × Int32 × Int32 × Int32 × Int32 × Int32 × Int32 × Int32 × Int32 × Int32 × Int32 × (Nat → Int32))) (cal_X3_takeStatement : Int32 → Int32 → (List Nat) → (Nat → Nat → Int32) → Int32 → Int32 → Int32 → Int32 → Int32 → Int32 → Int32 → (Nat → Int32) → (Nat → Int32) → (Nat → Int32) → Int32 → Int32 → Int32 → Int32 → (Nat → Option Nat) → (Nat → Int32) → Option (Int32 × (Nat → Nat → Int32) × Int32 × Int32 × Int32 × Int32 × Int32 × Int32 × Int32 × Int32 × Int32 × Int32 × (Nat → Int32))) (cal_X3_takeIf : Nat → Int32 → Int32 → (List Nat) → (Nat → Nat → Int32) → Int32 → Int32 → Int32 → Int32 → Int32 → Int32 → Int32 → (Nat → Int32) → (Nat → Int32) → (Nat → Int32) → Int32 → Int32 → Int32 → Int32 → (Nat → Option Nat) → (Nat → Int32) → Option (Int32 × (Nat → Nat → Int32) × Int32 × Int32 × Int32 × Int32 × Int32 × Int32 × Int32 × Int32 × Int32 × Int32 × (Nat → Int32))) (cal_X3_takeLoop : Nat → Int32 → Int32 → (List Nat) → (Nat → Nat → Int32) → Int32 → Int32 → Int32 → Int32 → Int32 → Int32 → Int32 → (Nat → Int32) → (Nat → Int32) → (Nat → Int32) → Int32 → Int32 → Int32 → Int32 → (Nat → Option Nat) → (Nat → Int32) → Option (Int32 × (Nat → Nat → Int32) × Int32 × Int32 × Int32 × Int32 × Int32 × Int32 × Int32 × Int32 × Int32 × Int32 × (Nat → Int32))) (cal_X3_takeBraced : Int32 → Int32 → (List Nat) → (Nat → Nat → Int32) → Int32 → Int32 → Int32 → Int32 → Int32 → Int32 → Int32 → (Nat → Int32) → (Nat → Int32) → (Nat → Int32) → Int32 → Int32 → Int32 → Int32 → (Nat → Option Nat) → (Nat → Int32) → Option (Int32 × (Nat → Nat → Int32) × Int32 × Int32 × Int32 × Int32 × Int32 × Int32 × Int32 × Int32 × Int32 × Int32 × (Nat → Int32))) (hX3_takeStatements : ∀ (l1 : Int32) (l2 : Int32) (LL : List Nat) (sv : Nat → Nat → Int32) (ps_operands : Int32) (ps_cells : Int32) (tk_many : Int32) (tk_at : Int32) (tk_kind : Int32) (tk_value : Int32) (tk_place : Int32) (tkfk : Nat → Int32) (tkfv : Nat → Int32) (tkfp : Nat → Int32) (pp_size : Int32) (pp_codeSize : Int32) (pp_outs : Int32) (pp_used : Int32) (ppg : Nat → Option Nat) (ppk : Nat → Int32), PLc tk_many tkfp → 0 ≤ tk_place.toInt → Par (cal_X3_takeStatements l1 l2 LL sv ps_operands ps_cells tk_many tk_at tk_kind tk_value tk_place tkfk tkfv tkfp pp_size pp_codeSize pp_outs pp_used ppg ppk) (fun r => 0 ≤ (r.2.2.2.2.2.2.2.1).toInt)) (hX3_takeStatement : ∀ (l1 : Int32) (l2 : Int32) (LL : List Nat) (sv : Nat → Nat → Int32) (ps_operands : Int32) (ps_cells : Int32) (tk_many : Int32) (tk_at : Int32) (tk_kind : Int32) (tk_value : Int32) (tk_place : Int32) (tkfk : Nat → Int32) (tkfv : Nat → Int32) (tkfp : Nat → Int32) (pp_size : Int32) (pp_codeSize : Int32) (pp_outs : Int32) (pp_used : Int32) (ppg : Nat → Option Nat) (ppk : Nat → Int32), PLc tk_many tkfp → 0 ≤ tk_place.toInt → Par (cal_X3_takeStatement l1 l2 LL sv ps_operands ps_cells tk_many tk_at tk_kind tk_value tk_place tkfk tkfv tkfp pp_size pp_codeSize pp_outs pp_used ppg ppk) (fun r => 0 ≤ (r.2.2.2.2.2.2.2.1).toInt)) (hX3_takeIf : ∀ (a1 : Nat) (l2 : Int32) (l3 : Int32) (LL : List Nat) (sv : Nat → Nat → Int32) (ps_operands : Int32) (ps_cells : Int32) (tk_many : Int32) (tk_at : Int32) (tk_kind : Int32) (tk_value : Int32) (tk_place : Int32) (tkfk : Nat → Int32) (tkfv : Nat → Int32) (tkfp : Nat → Int32) (pp_size : Int32) (pp_codeSize : Int32) (pp_outs : Int32) (pp_used : Int32) (ppg : Nat → Option Nat) (ppk : Nat → Int32), PLc tk_many tkfp → 0 ≤ tk_place.toInt → Par (cal_X3_takeIf a1 l2 l3 LL sv ps_operands ps_cells tk_many tk_at tk_kind tk_value tk_place tkfk tkfv tkfp pp_size pp_codeSize pp_outs pp_used ppg ppk) (fun r => 0 ≤ (r.2.2.2.2.2.2.2.1).toInt)) (hX3_takeLoop : ∀ (a1 : Nat) (l2 : Int32) (l3 : Int32) (LL : List Nat) (sv : Nat → Nat → Int32) (ps_operands : Int32) (ps_cells : Int32) (tk_many : Int32) (tk_at : Int32) (tk_kind : Int32) (tk_value : Int32) (tk_place : Int32) (tkfk : Nat → Int32) (tkfv : Nat → Int32) (tkfp : Nat → Int32) (pp_size : Int32) (pp_codeSize : Int32) (pp_outs : Int32) (pp_used : Int32) (ppg : Nat → Option Nat) (ppk : Nat → Int32), PLc tk_many tkfp → 0 ≤ tk_place.toInt → Par (cal_X3_takeLoop a1 l2 l3 LL sv ps_operands ps_cells tk_many tk_at tk_kind tk_value tk_place tkfk tkfv tkfp pp_size pp_codeSize pp_outs pp_used ppg ppk) (fun r => 0 ≤ (r.2.2.2.2.2.2.2.1).toInt)) (hX3_takeBraced : ∀ (l1 : Int32) (l2 : Int32) (LL : List Nat) (sv : Nat → Nat → Int32) (ps_operands : Int32) (ps_cells : Int32) (tk_many : Int32) (tk_at : Int32) (tk_kind : Int32) (tk_value : Int32) (tk_place : Int32) (tkfk : Nat → Int32) (tkfv : Nat → Int32) (tkfp : Nat → Int32) (pp_size : Int32) (pp_codeSize : Int32) (pp_outs : Int32) (pp_used : Int32) (ppg : Nat → Option Nat) (ppk : Nat → Int32), PLc tk_many tkfp → 0 ≤ tk_place.toInt → Par (cal_X3_takeBraced l1 l2 LL sv ps_operands ps_cells tk_many tk_at tk_kind tk_value tk_place tkfk tkfv tkfp pp_size pp_codeSize pp_outs pp_used ppg ppk) (fun r => 0 ≤ (r.2.2.2.2.2.2.2.1).toInt)) : ∀ (n c : Nat) (a1 : Nat) (l2 : Int32) (l3 : Int32) (LL : List Nat) (sv : Nat → Nat → Int32) (ps_operands : Int32) (ps_cells : Int32) (tk_many : Int32) (tk_at : Int32) (tk_kind : Int32) (tk_value : Int32) (tk_place : Int32) (tkfk : Nat → Int32) (tkfv : Nat → Int32) (tkfp : Nat → Int32) (pp_size : Int32) (pp_codeSize : Int32) (pp_outs : Int32) (pp_used : Int32) (ppg : Nat → Option Nat) (ppk : Nat → Int32), PLc tk_many tkfp → 0 ≤ tk_place.toInt → Par (L_X3_takeIf K cal_X3_takeStatements cal_X3_takeStatement cal_X3_takeIf cal_X3_takeLoop cal_X3_takeBraced n c a1 l2 l3 LL sv ps_operands ps_cells tk_many tk_at tk_kind tk_value tk_place tkfk tkfv tkfp pp_size pp_codeSize pp_outs pp_used ppg ppk) (fun r => 0 ≤ (r.2.2.2.2.2.2.2.1).toInt) := by
  intro n
  induction n with
  | zero => intros; exact Par.no
  | succ n ih =>
    intro c a1 l2 l3 LL sv ps_operands ps_cells tk_many tk_at tk_kind tk_value tk_place tkfk tkfv tkfp pp_size pp_codeSize pp_outs pp_used ppg ppk hfp hpl
    by_cases e0 : c = 0
    · subst e0
      rw [L_X3_takeIf_e0]; unfold B_X3_takeIf_0
      repeat' (first
        | exact Par.no
        | (apply ih <;> assumption)
        | refine Par.bd (PL_X7_advance K hK _ _ _ _ _ _ _ _ (by assumption) (by assumption)) (fun o9 h9 => ?_)
        | refine Par.bd (PL_X3_take K hK _ _ _ _ _ _ _ _ _ (by assumption) (by assumption)) (fun o9 h9 => ?_)
        | refine Par.bd (PL_X3_takeNumber K hK _ _ _ _ _ _ _ _ _ _ _ _ (by assumption) (by assumption)) (fun o9 h9 => ?_)
        | refine Par.bd (PL_X3_takeWholeSum K hK _ _ _ _ _ _ _ _ _ _ _ _ _ _ _ (by assumption) (by assumption)) (fun o9 h9 => ?_)
        | refine Par.bd (PL_X3_takeAssignment K hK _ _ _ _ _ _ _ _ _ _ _ _ _ _ _ _ (by assumption) (by assumption)) (fun o9 h9 => ?_)
        | refine Par.bd (PL_X3_takeOut K hK _ _ _ _ _ _ _ _ _ _ _ _ _ _ _ _ (by assumption) (by assumption)) (fun o9 h9 => ?_)
        | refine Par.bd (hX3_takeStatements _ _ _ _ _ _ _ _ _ _ _ _ _ _ _ _ _ _ _ _ (by assumption) (by assumption)) (fun o9 h9 => ?_)
        | refine Par.bd (hX3_takeStatement _ _ _ _ _ _ _ _ _ _ _ _ _ _ _ _ _ _ _ _ (by assumption) (by assumption)) (fun o9 h9 => ?_)
        | refine Par.bd (hX3_takeIf _ _ _ _ _ _ _ _ _ _ _ _ _ _ _ _ _ _ _ _ _ (by assumption) (by assumption)) (fun o9 h9 => ?_)
        | refine Par.bd (hX3_takeLoop _ _ _ _ _ _ _ _ _ _ _ _ _ _ _ _ _ _ _ _ _ (by assumption) (by assumption)) (fun o9 h9 => ?_)
        | refine Par.bd (hX3_takeBraced _ _ _ _ _ _ _ _ _ _ _ _ _ _ _ _ _ _ _ _ (by assumption) (by assumption)) (fun o9 h9 => ?_)
        | refine Par.br (fun _ => ?_) (fun _ => ?_)
        | exact Par.ret (by assumption)
        | refine Par.bd (P := fun _ => True) (fun _ _ => True.intro) (fun o9 _ => ?_))
    by_cases e1 : c = 1
    · subst e1
      rw [L_X3_takeIf_e1]; unfold B_X3_takeIf_1
      repeat' (first
        | exact Par.no
        | (apply ih <;> assumption)
        | refine Par.bd (PL_X7_advance K hK _ _ _ _ _ _ _ _ (by assumption) (by assumption)) (fun o9 h9 => ?_)
        | refine Par.bd (PL_X3_take K hK _ _ _ _ _ _ _ _ _ (by assumption) (by assumption)) (fun o9 h9 => ?_)
        | refine Par.bd (PL_X3_takeNumber K hK _ _ _ _ _ _ _ _ _ _ _ _ (by assumption) (by assumption)) (fun o9 h9 => ?_)
        | refine Par.bd (PL_X3_takeWholeSum K hK _ _ _ _ _ _ _ _ _ _ _ _ _ _ _ (by assumption) (by assumption)) (fun o9 h9 => ?_)
        | refine Par.bd (PL_X3_takeAssignment K hK _ _ _ _ _ _ _ _ _ _ _ _ _ _ _ _ (by assumption) (by assumption)) (fun o9 h9 => ?_)
        | refine Par.bd (PL_X3_takeOut K hK _ _ _ _ _ _ _ _ _ _ _ _ _ _ _ _ (by assumption) (by assumption)) (fun o9 h9 => ?_)
        | refine Par.bd (hX3_takeStatements _ _ _ _ _ _ _ _ _ _ _ _ _ _ _ _ _ _ _ _ (by assumption) (by assumption)) (fun o9 h9 => ?_)
        | refine Par.bd (hX3_takeStatement _ _ _ _ _ _ _ _ _ _ _ _ _ _ _ _ _ _ _ _ (by assumption) (by assumption)) (fun o9 h9 => ?_)
        | refine Par.bd (hX3_takeIf _ _ _ _ _ _ _ _ _ _ _ _ _ _ _ _ _ _ _ _ _ (by assumption) (by assumption)) (fun o9 h9 => ?_)
        | refine Par.bd (hX3_takeLoop _ _ _ _ _ _ _ _ _ _ _ _ _ _ _ _ _ _ _ _ _ (by assumption) (by assumption)) (fun o9 h9 => ?_)
        | refine Par.bd (hX3_takeBraced _ _ _ _ _ _ _ _ _ _ _ _ _ _ _ _ _ _ _ _ (by assumption) (by assumption)) (fun o9 h9 => ?_)
        | refine Par.br (fun _ => ?_) (fun _ => ?_)
        | exact Par.ret (by assumption)
        | refine Par.bd (P := fun _ => True) (fun _ _ => True.intro) (fun o9 _ => ?_))
    by_cases e2 : c = 2
    · subst e2
      rw [L_X3_takeIf_e2]; unfold B_X3_takeIf_2
      repeat' (first
        | exact Par.no
        | (apply ih <;> assumption)
        | refine Par.bd (PL_X7_advance K hK _ _ _ _ _ _ _ _ (by assumption) (by assumption)) (fun o9 h9 => ?_)
        | refine Par.bd (PL_X3_take K hK _ _ _ _ _ _ _ _ _ (by assumption) (by assumption)) (fun o9 h9 => ?_)
        | refine Par.bd (PL_X3_takeNumber K hK _ _ _ _ _ _ _ _ _ _ _ _ (by assumption) (by assumption)) (fun o9 h9 => ?_)
        | refine Par.bd (PL_X3_takeWholeSum K hK _ _ _ _ _ _ _ _ _ _ _ _ _ _ _ (by assumption) (by assumption)) (fun o9 h9 => ?_)
        | refine Par.bd (PL_X3_takeAssignment K hK _ _ _ _ _ _ _ _ _ _ _ _ _ _ _ _ (by assumption) (by assumption)) (fun o9 h9 => ?_)
        | refine Par.bd (PL_X3_takeOut K hK _ _ _ _ _ _ _ _ _ _ _ _ _ _ _ _ (by assumption) (by assumption)) (fun o9 h9 => ?_)
        | refine Par.bd (hX3_takeStatements _ _ _ _ _ _ _ _ _ _ _ _ _ _ _ _ _ _ _ _ (by assumption) (by assumption)) (fun o9 h9 => ?_)
        | refine Par.bd (hX3_takeStatement _ _ _ _ _ _ _ _ _ _ _ _ _ _ _ _ _ _ _ _ (by assumption) (by assumption)) (fun o9 h9 => ?_)
        | refine Par.bd (hX3_takeIf _ _ _ _ _ _ _ _ _ _ _ _ _ _ _ _ _ _ _ _ _ (by assumption) (by assumption)) (fun o9 h9 => ?_)
        | refine Par.bd (hX3_takeLoop _ _ _ _ _ _ _ _ _ _ _ _ _ _ _ _ _ _ _ _ _ (by assumption) (by assumption)) (fun o9 h9 => ?_)
        | refine Par.bd (hX3_takeBraced _ _ _ _ _ _ _ _ _ _ _ _ _ _ _ _ _ _ _ _ (by assumption) (by assumption)) (fun o9 h9 => ?_)
        | refine Par.br (fun _ => ?_) (fun _ => ?_)
        | exact Par.ret (by assumption)
        | refine Par.bd (P := fun _ => True) (fun _ _ => True.intro) (fun o9 _ => ?_))
    · have : L_X3_takeIf K cal_X3_takeStatements cal_X3_takeStatement cal_X3_takeIf cal_X3_takeLoop cal_X3_takeBraced (n + 1) c a1 l2 l3 LL sv ps_operands ps_cells tk_many tk_at tk_kind tk_value tk_place tkfk tkfv tkfp pp_size pp_codeSize pp_outs pp_used ppg ppk = none := by
        match c, e0, e1, e2 with
        | 0, e0, _, _ => exact absurd rfl e0
        | 1, _, e1, _ => exact absurd rfl e1
        | 2, _, _, e2 => exact absurd rfl e2
        | m + 3, _, _, _ => rfl
      rw [this]; exact Par.no
set_option maxRecDepth 100000 in
theorem PLL_X3_takeLoop (K : Nat) (hK : 1000000000 ≤ K) (cal_X3_takeStatements : Int32 → Int32 → (List Nat) → (Nat → Nat → Int32) → Int32 → Int32 → Int32 → Int32 → Int32 → Int32 → Int32 → (Nat → Int32) → (Nat → Int32) → (Nat → Int32) → Int32 → Int32 → Int32 → Int32 → (Nat → Option Nat) → (Nat → Int32) → Option (Int32 × (Nat → Nat → Int32) × Int32 × Int32 × Int32 × Int32 × Int32 × Int32 × Int32 × Int32 × Int32 × Int32 × (Nat → Int32))) (cal_X3_takeStatement : Int32 → Int32 → (List Nat) → (Nat → Nat → Int32) → Int32 → Int32 → Int32 → Int32 → Int32 → Int32 → Int32 → (Nat → Int32) → (Nat → Int32) → (Nat → Int32) → Int32 → Int32 → Int32 → Int32 → (Nat → Option Nat) → (Nat → Int32) → Option (Int32 × (Nat → Nat → Int32) × Int32 × Int32 × Int32 × Int32 × Int32 × Int32 × Int32 × Int32 × Int32 × Int32 × (Nat → Int32))) (cal_X3_takeIf : Nat → Int32 → Int32 → (List Nat) → (Nat → Nat → Int32) → Int32 → Int32 → Int32 → Int32 → Int32 → Int32 → Int32 → (Nat → Int32) → (Nat → Int32) → (Nat → Int32) → Int32 → Int32 → Int32 → Int32 → (Nat → Option Nat) → (Nat → Int32) → Option (Int32 × (Nat → Nat → Int32) × Int32 × Int32 × Int32 × Int32 × Int32 × Int32 × Int32 × Int32 × Int32 × Int32 × (Nat → Int32))) (cal_X3_takeLoop : Nat → Int32 → Int32 → (List Nat) → (Nat → Nat → Int32) → Int32 → Int32 → Int32 → Int32 → Int32 → Int32 → Int32 → (Nat → Int32) → (Nat → Int32) → (Nat → Int32) → Int32 → Int32 → Int32 → Int32 → (Nat → Option Nat) → (Nat → Int32) → Option (Int32 × (Nat → Nat → Int32) × Int32 × Int32 × Int32 × Int32 × Int32 × Int32 × Int32 × Int32 × Int32 × Int32 × (Nat → Int32))) (cal_X3_takeBraced : Int32 → Int32 → (List Nat) → (Nat → Nat → Int32) → Int32 → Int32 → Int32 → Int32 → Int32 → Int32 → Int32 → (Nat → Int32) → (Nat → Int32) → (Nat → Int32) → Int32 → Int32 → Int32 → Int32 → (Nat → Option Nat) → (Nat → Int32) → Option (Int32 × (Nat → Nat → Int32) × Int32 × Int32 × Int32 × Int32 × Int32 × Int32 × Int32 × Int32 × Int32 × Int32 × (Nat → Int32))) (hX3_takeStatements : ∀ (l1 : Int32) (l2 : Int32) (LL : List Nat) (sv : Nat → Nat → Int32) (ps_operands : Int32) (ps_cells : Int32) (tk_many : Int32) (tk_at : Int32) (tk_kind : Int32) (tk_value : Int32) (tk_place : Int32) (tkfk : Nat → Int32) (tkfv : Nat → Int32) (tkfp : Nat → Int32) (pp_size : Int32) (pp_codeSize : Int32) (pp_outs : Int32) (pp_used : Int32) (ppg : Nat → Option Nat) (ppk : Nat → Int32), PLc tk_many tkfp → 0 ≤ tk_place.toInt → Par (cal_X3_takeStatements l1 l2 LL sv ps_operands ps_cells tk_many tk_at tk_kind tk_value tk_place tkfk tkfv tkfp pp_size pp_codeSize pp_outs pp_used ppg ppk) (fun r => 0 ≤ (r.2.2.2.2.2.2.2.1).toInt)) (hX3_takeStatement : ∀ (l1 : Int32) (l2 : Int32) (LL : List Nat) (sv : Nat → Nat → Int32) (ps_operands : Int32) (ps_cells : Int32) (tk_many : Int32) (tk_at : Int32) (tk_kind : Int32) (tk_value : Int32) (tk_place : Int32) (tkfk : Nat → Int32) (tkfv : Nat → Int32) (tkfp : Nat → Int32) (pp_size : Int32) (pp_codeSize : Int32) (pp_outs : Int32) (pp_used : Int32) (ppg : Nat → Option Nat) (ppk : Nat → Int32), PLc tk_many tkfp → 0 ≤ tk_place.toInt → Par (cal_X3_takeStatement l1 l2 LL sv ps_operands ps_cells tk_many tk_at tk_kind tk_value tk_place tkfk tkfv tkfp pp_size pp_codeSize pp_outs pp_used ppg ppk) (fun r => 0 ≤ (r.2.2.2.2.2.2.2.1).toInt)) (hX3_takeIf : ∀ (a1 : Nat) (l2 : Int32) (l3 : Int32) (LL : List Nat) (sv : Nat → Nat → Int32) (ps_operands : Int32) (ps_cells : Int32) (tk_many : Int32) (tk_at : Int32) (tk_kind : Int32) (tk_value : Int32) (tk_place : Int32) (tkfk : Nat → Int32) (tkfv : Nat → Int32) (tkfp : Nat → Int32) (pp_size : Int32) (pp_codeSize : Int32) (pp_outs : Int32) (pp_used : Int32) (ppg : Nat → Option Nat) (ppk : Nat → Int32), PLc tk_many tkfp → 0 ≤ tk_place.toInt → Par (cal_X3_takeIf a1 l2 l3 LL sv ps_operands ps_cells tk_many tk_at tk_kind tk_value tk_place tkfk tkfv tkfp pp_size pp_codeSize pp_outs pp_used ppg ppk) (fun r => 0 ≤ (r.2.2.2.2.2.2.2.1).toInt)) (hX3_takeLoop : ∀ (a1 : Nat) (l2 : Int32) (l3 : Int32) (LL : List Nat) (sv : Nat → Nat → Int32) (ps_operands : Int32) (ps_cells : Int32) (tk_many : Int32) (tk_at : Int32) (tk_kind : Int32) (tk_value : Int32) (tk_place : Int32) (tkfk : Nat → Int32) (tkfv : Nat → Int32) (tkfp : Nat → Int32) (pp_size : Int32) (pp_codeSize : Int32) (pp_outs : Int32) (pp_used : Int32) (ppg : Nat → Option Nat) (ppk : Nat → Int32), PLc tk_many tkfp → 0 ≤ tk_place.toInt → Par (cal_X3_takeLoop a1 l2 l3 LL sv ps_operands ps_cells tk_many tk_at tk_kind tk_value tk_place tkfk tkfv tkfp pp_size pp_codeSize pp_outs pp_used ppg ppk) (fun r => 0 ≤ (r.2.2.2.2.2.2.2.1).toInt)) (hX3_takeBraced : ∀ (l1 : Int32) (l2 : Int32) (LL : List Nat) (sv : Nat → Nat → Int32) (ps_operands : Int32) (ps_cells : Int32) (tk_many : Int32) (tk_at : Int32) (tk_kind : Int32) (tk_value : Int32) (tk_place : Int32) (tkfk : Nat → Int32) (tkfv : Nat → Int32) (tkfp : Nat → Int32) (pp_size : Int32) (pp_codeSize : Int32) (pp_outs : Int32) (pp_used : Int32) (ppg : Nat → Option Nat) (ppk : Nat → Int32), PLc tk_many tkfp → 0 ≤ tk_place.toInt → Par (cal_X3_takeBraced l1 l2 LL sv ps_operands ps_cells tk_many tk_at tk_kind tk_value tk_place tkfk tkfv tkfp pp_size pp_codeSize pp_outs pp_used ppg ppk) (fun r => 0 ≤ (r.2.2.2.2.2.2.2.1).toInt)) : ∀ (n c : Nat) (a1 : Nat) (l2 : Int32) (l3 : Int32) (LL : List Nat) (sv : Nat → Nat → Int32) (ps_operands : Int32) (ps_cells : Int32) (tk_many : Int32) (tk_at : Int32) (tk_kind : Int32) (tk_value : Int32) (tk_place : Int32) (tkfk : Nat → Int32) (tkfv : Nat → Int32) (tkfp : Nat → Int32) (pp_size : Int32) (pp_codeSize : Int32) (pp_outs : Int32) (pp_used : Int32) (ppg : Nat → Option Nat) (ppk : Nat → Int32), PLc tk_many tkfp → 0 ≤ tk_place.toInt → Par (L_X3_takeLoop K cal_X3_takeStatements cal_X3_takeStatement cal_X3_takeIf cal_X3_takeLoop cal_X3_takeBraced n c a1 l2 l3 LL sv ps_operands ps_cells tk_many tk_at tk_kind tk_value tk_place tkfk tkfv tkfp pp_size pp_codeSize pp_outs pp_used ppg ppk) (fun r => 0 ≤ (r.2.2.2.2.2.2.2.1).toInt) := by
  intro n
  induction n with
  | zero => intros; exact Par.no
  | succ n ih =>
    intro c a1 l2 l3 LL sv ps_operands ps_cells tk_many tk_at tk_kind tk_value tk_place tkfk tkfv tkfp pp_size pp_codeSize pp_outs pp_used ppg ppk hfp hpl
    by_cases e0 : c = 0
    · subst e0
      rw [L_X3_takeLoop_e0]; unfold B_X3_takeLoop_0
      repeat' (first
        | exact Par.no
        | (apply ih <;> assumption)
        | refine Par.bd (PL_X7_advance K hK _ _ _ _ _ _ _ _ (by assumption) (by assumption)) (fun o9 h9 => ?_)
        | refine Par.bd (PL_X3_take K hK _ _ _ _ _ _ _ _ _ (by assumption) (by assumption)) (fun o9 h9 => ?_)
        | refine Par.bd (PL_X3_takeNumber K hK _ _ _ _ _ _ _ _ _ _ _ _ (by assumption) (by assumption)) (fun o9 h9 => ?_)
        | refine Par.bd (PL_X3_takeWholeSum K hK _ _ _ _ _ _ _ _ _ _ _ _ _ _ _ (by assumption) (by assumption)) (fun o9 h9 => ?_)
        | refine Par.bd (PL_X3_takeAssignment K hK _ _ _ _ _ _ _ _ _ _ _ _ _ _ _ _ (by assumption) (by assumption)) (fun o9 h9 => ?_)
        | refine Par.bd (PL_X3_takeOut K hK _ _ _ _ _ _ _ _ _ _ _ _ _ _ _ _ (by assumption) (by assumption)) (fun o9 h9 => ?_)
        | refine Par.bd (hX3_takeStatements _ _ _ _ _ _ _ _ _ _ _ _ _ _ _ _ _ _ _ _ (by assumption) (by assumption)) (fun o9 h9 => ?_)
        | refine Par.bd (hX3_takeStatement _ _ _ _ _ _ _ _ _ _ _ _ _ _ _ _ _ _ _ _ (by assumption) (by assumption)) (fun o9 h9 => ?_)
        | refine Par.bd (hX3_takeIf _ _ _ _ _ _ _ _ _ _ _ _ _ _ _ _ _ _ _ _ _ (by assumption) (by assumption)) (fun o9 h9 => ?_)
        | refine Par.bd (hX3_takeLoop _ _ _ _ _ _ _ _ _ _ _ _ _ _ _ _ _ _ _ _ _ (by assumption) (by assumption)) (fun o9 h9 => ?_)
        | refine Par.bd (hX3_takeBraced _ _ _ _ _ _ _ _ _ _ _ _ _ _ _ _ _ _ _ _ (by assumption) (by assumption)) (fun o9 h9 => ?_)
        | refine Par.br (fun _ => ?_) (fun _ => ?_)
        | exact Par.ret (by assumption)
        | refine Par.bd (P := fun _ => True) (fun _ _ => True.intro) (fun o9 _ => ?_))
    by_cases e1 : c = 1
    · subst e1
      rw [L_X3_takeLoop_e1]; unfold B_X3_takeLoop_1
      repeat' (first
        | exact Par.no
        | (apply ih <;> assumption)
        | refine Par.bd (PL_X7_advance K hK _ _ _ _ _ _ _ _ (by assumption) (by assumption)) (fun o9 h9 => ?_)
        | refine Par.bd (PL_X3_take K hK _ _ _ _ _ _ _ _ _ (by assumption) (by assumption)) (fun o9 h9 => ?_)
        | refine Par.bd (PL_X3_takeNumber K hK _ _ _ _ _ _ _ _ _ _ _ _ (by assumption) (by assumption)) (fun o9 h9 => ?_)
        | refine Par.bd (PL_X3_takeWholeSum K hK _ _ _ _ _ _ _ _ _ _ _ _ _ _ _ (by assumption) (by assumption)) (fun o9 h9 => ?_)
        | refine Par.bd (PL_X3_takeAssignment K hK _ _ _ _ _ _ _ _ _ _ _ _ _ _ _ _ (by assumption) (by assumption)) (fun o9 h9 => ?_)
        | refine Par.bd (PL_X3_takeOut K hK _ _ _ _ _ _ _ _ _ _ _ _ _ _ _ _ (by assumption) (by assumption)) (fun o9 h9 => ?_)
        | refine Par.bd (hX3_takeStatements _ _ _ _ _ _ _ _ _ _ _ _ _ _ _ _ _ _ _ _ (by assumption) (by assumption)) (fun o9 h9 => ?_)
        | refine Par.bd (hX3_takeStatement _ _ _ _ _ _ _ _ _ _ _ _ _ _ _ _ _ _ _ _ (by assumption) (by assumption)) (fun o9 h9 => ?_)
        | refine Par.bd (hX3_takeIf _ _ _ _ _ _ _ _ _ _ _ _ _ _ _ _ _ _ _ _ _ (by assumption) (by assumption)) (fun o9 h9 => ?_)
        | refine Par.bd (hX3_takeLoop _ _ _ _ _ _ _ _ _ _ _ _ _ _ _ _ _ _ _ _ _ (by assumption) (by assumption)) (fun o9 h9 => ?_)
        | refine Par.bd (hX3_takeBraced _ _ _ _ _ _ _ _ _ _ _ _ _ _ _ _ _ _ _ _ (by assumption) (by assumption)) (fun o9 h9 => ?_)
        | refine Par.br (fun _ => ?_) (fun _ => ?_)
        | exact Par.ret (by assumption)
        | refine Par.bd (P := fun _ => True) (fun _ _ => True.intro) (fun o9 _ => ?_))
    · have : L_X3_takeLoop K cal_X3_takeStatements cal_X3_takeStatement cal_X3_takeIf cal_X3_takeLoop cal_X3_takeBraced (n + 1) c a1 l2 l3 LL sv ps_operands ps_cells tk_many tk_at tk_kind tk_value tk_place tkfk tkfv tkfp pp_size pp_codeSize pp_outs pp_used ppg ppk = none := by
        match c, e0, e1 with
        | 0, e0, _ => exact absurd rfl e0
        | 1, _, e1 => exact absurd rfl e1
        | m + 2, _, _ => rfl
      rw [this]; exact Par.no
set_option maxRecDepth 100000 in
theorem PLL_X3_takeBraced (K : Nat) (hK : 1000000000 ≤ K) (cal_X3_takeStatements : Int32 → Int32 → (List Nat) → (Nat → Nat → Int32) → Int32 → Int32 → Int32 → Int32 → Int32 → Int32 → Int32 → (Nat → Int32) → (Nat → Int32) → (Nat → Int32) → Int32 → Int32 → Int32 → Int32 → (Nat → Option Nat) → (Nat → Int32) → Option (Int32 × (Nat → Nat → Int32) × Int32 × Int32 × Int32 × Int32 × Int32 × Int32 × Int32 × Int32 × Int32 × Int32 × (Nat → Int32))) (cal_X3_takeStatement : Int32 → Int32 → (List Nat) → (Nat → Nat → Int32) → Int32 → Int32 → Int32 → Int32 → Int32 → Int32 → Int32 → (Nat → Int32) → (Nat → Int32) → (Nat → Int32) → Int32 → Int32 → Int32 → Int32 → (Nat → Option Nat) → (Nat → Int32) → Option (Int32 × (Nat → Nat → Int32) × Int32 × Int32 × Int32 × Int32 × Int32 × Int32 × Int32 × Int32 × Int32 × Int32 × (Nat → Int32))) (cal_X3_takeIf : Nat → Int32 → Int32 → (List Nat) → (Nat → Nat → Int32) → Int32 → Int32 → Int32 → Int32 → Int32 → Int32 → Int32 → (Nat → Int32) → (Nat → Int32) → (Nat → Int32) → Int32 → Int32 → Int32 → Int32 → (Nat → Option Nat) → (Nat → Int32) → Option (Int32 × (Nat → Nat → Int32) × Int32 × Int32 × Int32 × Int32 × Int32 × Int32 × Int32 × Int32 × Int32 × Int32 × (Nat → Int32))) (cal_X3_takeLoop : Nat → Int32 → Int32 → (List Nat) → (Nat → Nat → Int32) → Int32 → Int32 → Int32 → Int32 → Int32 → Int32 → Int32 → (Nat → Int32) → (Nat → Int32) → (Nat → Int32) → Int32 → Int32 → Int32 → Int32 → (Nat → Option Nat) → (Nat → Int32) → Option (Int32 × (Nat → Nat → Int32) × Int32 × Int32 × Int32 × Int32 × Int32 × Int32 × Int32 × Int32 × Int32 × Int32 × (Nat → Int32))) (cal_X3_takeBraced : Int32 → Int32 → (List Nat) → (Nat → Nat → Int32) → Int32 → Int32 → Int32 → Int32 → Int32 → Int32 → Int32 → (Nat → Int32) → (Nat → Int32) → (Nat → Int32) → Int32 → Int32 → Int32 → Int32 → (Nat → Option Nat) → (Nat → Int32) → Option (Int32 × (Nat → Nat → Int32) × Int32 × Int32 × Int32 × Int32 × Int32 × Int32 × Int32 × Int32 × Int32 × Int32 × (Nat → Int32))) (hX3_takeStatements : ∀ (l1 : Int32) (l2 : Int32) (LL : List Nat) (sv : Nat → Nat → Int32) (ps_operands : Int32) (ps_cells : Int32) (tk_many : Int32) (tk_at : Int32) (tk_kind : Int32) (tk_value : Int32) (tk_place : Int32) (tkfk : Nat → Int32) (tkfv : Nat → Int32) (tkfp : Nat → Int32) (pp_size : Int32) (pp_codeSize : Int32) (pp_outs : Int32) (pp_used : Int32) (ppg : Nat → Option Nat) (ppk : Nat → Int32), PLc tk_many tkfp → 0 ≤ tk_place.toInt → Par (cal_X3_takeStatements l1 l2 LL sv ps_operands ps_cells tk_many tk_at tk_kind tk_value tk_place tkfk tkfv tkfp pp_size pp_codeSize pp_outs pp_used ppg ppk) (fun r => 0 ≤ (r.2.2.2.2.2.2.2.1).toInt)) (hX3_takeStatement : ∀ (l1 : Int32) (l2 : Int32) (LL : List Nat) (sv : Nat → Nat → Int32) (ps_operands : Int32) (ps_cells : Int32) (tk_many : Int32) (tk_at : Int32) (tk_kind : Int32) (tk_value : Int32) (tk_place : Int32) (tkfk : Nat → Int32) (tkfv : Nat → Int32) (tkfp : Nat → Int32) (pp_size : Int32) (pp_codeSize : Int32) (pp_outs : Int32) (pp_used : Int32) (ppg : Nat → Option Nat) (ppk : Nat → Int32), PLc tk_many tkfp → 0 ≤ tk_place.toInt → Par (cal_X3_takeStatement l1 l2 LL sv ps_operands ps_cells tk_many tk_at tk_kind tk_value tk_place tkfk tkfv tkfp pp_size pp_codeSize pp_outs pp_used ppg ppk) (fun r => 0 ≤ (r.2.2.2.2.2.2.2.1).toInt)) (hX3_takeIf : ∀ (a1 : Nat) (l2 : Int32) (l3 : Int32) (LL : List Nat) (sv : Nat → Nat → Int32) (ps_operands : Int32) (ps_cells : Int32) (tk_many : Int32) (tk_at : Int32) (tk_kind : Int32) (tk_value : Int32) (tk_place : Int32) (tkfk : Nat → Int32) (tkfv : Nat → Int32) (tkfp : Nat → Int32) (pp_size : Int32) (pp_codeSize : Int32) (pp_outs : Int32) (pp_used : Int32) (ppg : Nat → Option Nat) (ppk : Nat → Int32), PLc tk_many tkfp → 0 ≤ tk_place.toInt → Par (cal_X3_takeIf a1 l2 l3 LL sv ps_operands ps_cells tk_many tk_at tk_kind tk_value tk_place tkfk tkfv tkfp pp_size pp_codeSize pp_outs pp_used ppg ppk) (fun r => 0 ≤ (r.2.2.2.2.2.2.2.1).toInt)) (hX3_takeLoop : ∀ (a1 : Nat) (l2 : Int32) (l3 : Int32) (LL : List Nat) (sv : Nat → Nat → Int32) (ps_operands : Int32) (ps_cells : Int32) (tk_many : Int32) (tk_at : Int32) (tk_kind : Int32) (tk_value : Int32) (tk_place : Int32) (tkfk : Nat → Int32) (tkfv : Nat → Int32) (tkfp : Nat → Int32) (pp_size : Int32) (pp_codeSize : Int32) (pp_outs : Int32) (pp_used : Int32) (ppg : Nat → Option Nat) (ppk : Nat → Int32), PLc tk_many tkfp → 0 ≤ tk_place.toInt → Par (cal_X3_takeLoop a1 l2 l3 LL sv ps_operands ps_cells tk_many tk_at tk_kind tk_value tk_place tkfk tkfv tkfp pp_size pp_codeSize pp_outs pp_used ppg ppk) (fun r => 0 ≤ (r.2.2.2.2.2.2.2.1).toInt)) (hX3_takeBraced : ∀ (l1 : Int32) (l2 : Int32) (LL : List Nat) (sv : Nat → Nat → Int32) (ps_operands : Int32) (ps_cells : Int32) (tk_many : Int32) (tk_at : Int32) (tk_kind : Int32) (tk_value : Int32) (tk_place : Int32) (tkfk : Nat → Int32) (tkfv : Nat → Int32) (tkfp : Nat → Int32) (pp_size : Int32) (pp_codeSize : Int32) (pp_outs : Int32) (pp_used : Int32) (ppg : Nat → Option Nat) (ppk : Nat → Int32), PLc tk_many tkfp → 0 ≤ tk_place.toInt → Par (cal_X3_takeBraced l1 l2 LL sv ps_operands ps_cells tk_many tk_at tk_kind tk_value tk_place tkfk tkfv tkfp pp_size pp_codeSize pp_outs pp_used ppg ppk) (fun r => 0 ≤ (r.2.2.2.2.2.2.2.1).toInt)) : ∀ (n c : Nat) (l1 : Int32) (l2 : Int32) (LL : List Nat) (sv : Nat → Nat → Int32) (ps_operands : Int32) (ps_cells : Int32) (tk_many : Int32) (tk_at : Int32) (tk_kind : Int32) (tk_value : Int32) (tk_place : Int32) (tkfk : Nat → Int32) (tkfv : Nat → Int32) (tkfp : Nat → Int32) (pp_size : Int32) (pp_codeSize : Int32) (pp_outs : Int32) (pp_used : Int32) (ppg : Nat → Option Nat) (ppk : Nat → Int32), PLc tk_many tkfp → 0 ≤ tk_place.toInt → Par (L_X3_takeBraced K cal_X3_takeStatements cal_X3_takeStatement cal_X3_takeIf cal_X3_takeLoop cal_X3_takeBraced n c l1 l2 LL sv ps_operands ps_cells tk_many tk_at tk_kind tk_value tk_place tkfk tkfv tkfp pp_size pp_codeSize pp_outs pp_used ppg ppk) (fun r => 0 ≤ (r.2.2.2.2.2.2.2.1).toInt) := by
  intro n
  induction n with
  | zero => intros; exact Par.no
  | succ n ih =>
    intro c l1 l2 LL sv ps_operands ps_cells tk_many tk_at tk_kind tk_value tk_place tkfk tkfv tkfp pp_size pp_codeSize pp_outs pp_used ppg ppk hfp hpl
    by_cases e0 : c = 0
    · subst e0
      rw [L_X3_takeBraced_e0]; unfold B_X3_takeBraced_0
      repeat' (first
        | exact Par.no
        | (apply ih <;> assumption)
        | refine Par.bd (PL_X7_advance K hK _ _ _ _ _ _ _ _ (by assumption) (by assumption)) (fun o9 h9 => ?_)
        | refine Par.bd (PL_X3_take K hK _ _ _ _ _ _ _ _ _ (by assumption) (by assumption)) (fun o9 h9 => ?_)
        | refine Par.bd (PL_X3_takeNumber K hK _ _ _ _ _ _ _ _ _ _ _ _ (by assumption) (by assumption)) (fun o9 h9 => ?_)
        | refine Par.bd (PL_X3_takeWholeSum K hK _ _ _ _ _ _ _ _ _ _ _ _ _ _ _ (by assumption) (by assumption)) (fun o9 h9 => ?_)
        | refine Par.bd (PL_X3_takeAssignment K hK _ _ _ _ _ _ _ _ _ _ _ _ _ _ _ _ (by assumption) (by assumption)) (fun o9 h9 => ?_)
        | refine Par.bd (PL_X3_takeOut K hK _ _ _ _ _ _ _ _ _ _ _ _ _ _ _ _ (by assumption) (by assumption)) (fun o9 h9 => ?_)
        | refine Par.bd (hX3_takeStatements _ _ _ _ _ _ _ _ _ _ _ _ _ _ _ _ _ _ _ _ (by assumption) (by assumption)) (fun o9 h9 => ?_)
        | refine Par.bd (hX3_takeStatement _ _ _ _ _ _ _ _ _ _ _ _ _ _ _ _ _ _ _ _ (by assumption) (by assumption)) (fun o9 h9 => ?_)
        | refine Par.bd (hX3_takeIf _ _ _ _ _ _ _ _ _ _ _ _ _ _ _ _ _ _ _ _ _ (by assumption) (by assumption)) (fun o9 h9 => ?_)
        | refine Par.bd (hX3_takeLoop _ _ _ _ _ _ _ _ _ _ _ _ _ _ _ _ _ _ _ _ _ (by assumption) (by assumption)) (fun o9 h9 => ?_)
        | refine Par.bd (hX3_takeBraced _ _ _ _ _ _ _ _ _ _ _ _ _ _ _ _ _ _ _ _ (by assumption) (by assumption)) (fun o9 h9 => ?_)
        | refine Par.br (fun _ => ?_) (fun _ => ?_)
        | exact Par.ret (by assumption)
        | refine Par.bd (P := fun _ => True) (fun _ _ => True.intro) (fun o9 _ => ?_))
    by_cases e1 : c = 1
    · subst e1
      rw [L_X3_takeBraced_e1]; unfold B_X3_takeBraced_1
      repeat' (first
        | exact Par.no
        | (apply ih <;> assumption)
        | refine Par.bd (PL_X7_advance K hK _ _ _ _ _ _ _ _ (by assumption) (by assumption)) (fun o9 h9 => ?_)
        | refine Par.bd (PL_X3_take K hK _ _ _ _ _ _ _ _ _ (by assumption) (by assumption)) (fun o9 h9 => ?_)
        | refine Par.bd (PL_X3_takeNumber K hK _ _ _ _ _ _ _ _ _ _ _ _ (by assumption) (by assumption)) (fun o9 h9 => ?_)
        | refine Par.bd (PL_X3_takeWholeSum K hK _ _ _ _ _ _ _ _ _ _ _ _ _ _ _ (by assumption) (by assumption)) (fun o9 h9 => ?_)
        | refine Par.bd (PL_X3_takeAssignment K hK _ _ _ _ _ _ _ _ _ _ _ _ _ _ _ _ (by assumption) (by assumption)) (fun o9 h9 => ?_)
        | refine Par.bd (PL_X3_takeOut K hK _ _ _ _ _ _ _ _ _ _ _ _ _ _ _ _ (by assumption) (by assumption)) (fun o9 h9 => ?_)
        | refine Par.bd (hX3_takeStatements _ _ _ _ _ _ _ _ _ _ _ _ _ _ _ _ _ _ _ _ (by assumption) (by assumption)) (fun o9 h9 => ?_)
        | refine Par.bd (hX3_takeStatement _ _ _ _ _ _ _ _ _ _ _ _ _ _ _ _ _ _ _ _ (by assumption) (by assumption)) (fun o9 h9 => ?_)
        | refine Par.bd (hX3_takeIf _ _ _ _ _ _ _ _ _ _ _ _ _ _ _ _ _ _ _ _ _ (by assumption) (by assumption)) (fun o9 h9 => ?_)
        | refine Par.bd (hX3_takeLoop _ _ _ _ _ _ _ _ _ _ _ _ _ _ _ _ _ _ _ _ _ (by assumption) (by assumption)) (fun o9 h9 => ?_)
        | refine Par.bd (hX3_takeBraced _ _ _ _ _ _ _ _ _ _ _ _ _ _ _ _ _ _ _ _ (by assumption) (by assumption)) (fun o9 h9 => ?_)
        | refine Par.br (fun _ => ?_) (fun _ => ?_)
        | exact Par.ret (by assumption)
        | refine Par.bd (P := fun _ => True) (fun _ _ => True.intro) (fun o9 _ => ?_))
    · have : L_X3_takeBraced K cal_X3_takeStatements cal_X3_takeStatement cal_X3_takeIf cal_X3_takeLoop cal_X3_takeBraced (n + 1) c l1 l2 LL sv ps_operands ps_cells tk_many tk_at tk_kind tk_value tk_place tkfk tkfv tkfp pp_size pp_codeSize pp_outs pp_used ppg ppk = none := by
        match c, e0, e1 with
        | 0, e0, _ => exact absurd rfl e0
        | 1, _, e1 => exact absurd rfl e1
        | m + 2, _, _ => rfl
      rw [this]; exact Par.no
theorem PLD_DD_stm (K : Nat) (hK : 1000000000 ≤ K) : ∀ d : Nat, (∀ (l1 : Int32) (l2 : Int32) (LL : List Nat) (sv : Nat → Nat → Int32) (ps_operands : Int32) (ps_cells : Int32) (tk_many : Int32) (tk_at : Int32) (tk_kind : Int32) (tk_value : Int32) (tk_place : Int32) (tkfk : Nat → Int32) (tkfv : Nat → Int32) (tkfp : Nat → Int32) (pp_size : Int32) (pp_codeSize : Int32) (pp_outs : Int32) (pp_used : Int32) (ppg : Nat → Option Nat) (ppk : Nat → Int32), PLc tk_many tkfp → 0 ≤ tk_place.toInt → Par ((DD_stm K d).1 l1 l2 LL sv ps_operands ps_cells tk_many tk_at tk_kind tk_value tk_place tkfk tkfv tkfp pp_size pp_codeSize pp_outs pp_used ppg ppk) (fun r => 0 ≤ (r.2.2.2.2.2.2.2.1).toInt)) ∧ (∀ (l1 : Int32) (l2 : Int32) (LL : List Nat) (sv : Nat → Nat → Int32) (ps_operands : Int32) (ps_cells : Int32) (tk_many : Int32) (tk_at : Int32) (tk_kind : Int32) (tk_value : Int32) (tk_place : Int32) (tkfk : Nat → Int32) (tkfv : Nat → Int32) (tkfp : Nat → Int32) (pp_size : Int32) (pp_codeSize : Int32) (pp_outs : Int32) (pp_used : Int32) (ppg : Nat → Option Nat) (ppk : Nat → Int32), PLc tk_many tkfp → 0 ≤ tk_place.toInt → Par ((DD_stm K d).2.1 l1 l2 LL sv ps_operands ps_cells tk_many tk_at tk_kind tk_value tk_place tkfk tkfv tkfp pp_size pp_codeSize pp_outs pp_used ppg ppk) (fun r => 0 ≤ (r.2.2.2.2.2.2.2.1).toInt)) ∧ (∀ (a1 : Nat) (l2 : Int32) (l3 : Int32) (LL : List Nat) (sv : Nat → Nat → Int32) (ps_operands : Int32) (ps_cells : Int32) (tk_many : Int32) (tk_at : Int32) (tk_kind : Int32) (tk_value : Int32) (tk_place : Int32) (tkfk : Nat → Int32) (tkfv : Nat → Int32) (tkfp : Nat → Int32) (pp_size : Int32) (pp_codeSize : Int32) (pp_outs : Int32) (pp_used : Int32) (ppg : Nat → Option Nat) (ppk : Nat → Int32), PLc tk_many tkfp → 0 ≤ tk_place.toInt → Par ((DD_stm K d).2.2.1 a1 l2 l3 LL sv ps_operands ps_cells tk_many tk_at tk_kind tk_value tk_place tkfk tkfv tkfp pp_size pp_codeSize pp_outs pp_used ppg ppk) (fun r => 0 ≤ (r.2.2.2.2.2.2.2.1).toInt)) ∧ (∀ (a1 : Nat) (l2 : Int32) (l3 : Int32) (LL : List Nat) (sv : Nat → Nat → Int32) (ps_operands : Int32) (ps_cells : Int32) (tk_many : Int32) (tk_at : Int32) (tk_kind : Int32) (tk_value : Int32) (tk_place : Int32) (tkfk : Nat → Int32) (tkfv : Nat → Int32) (tkfp : Nat → Int32) (pp_size : Int32) (pp_codeSize : Int32) (pp_outs : Int32) (pp_used : Int32) (ppg : Nat → Option Nat) (ppk : Nat → Int32), PLc tk_many tkfp → 0 ≤ tk_place.toInt → Par ((DD_stm K d).2.2.2.1 a1 l2 l3 LL sv ps_operands ps_cells tk_many tk_at tk_kind tk_value tk_place tkfk tkfv tkfp pp_size pp_codeSize pp_outs pp_used ppg ppk) (fun r => 0 ≤ (r.2.2.2.2.2.2.2.1).toInt)) ∧ (∀ (l1 : Int32) (l2 : Int32) (LL : List Nat) (sv : Nat → Nat → Int32) (ps_operands : Int32) (ps_cells : Int32) (tk_many : Int32) (tk_at : Int32) (tk_kind : Int32) (tk_value : Int32) (tk_place : Int32) (tkfk : Nat → Int32) (tkfv : Nat → Int32) (tkfp : Nat → Int32) (pp_size : Int32) (pp_codeSize : Int32) (pp_outs : Int32) (pp_used : Int32) (ppg : Nat → Option Nat) (ppk : Nat → Int32), PLc tk_many tkfp → 0 ≤ tk_place.toInt → Par ((DD_stm K d).2.2.2.2 l1 l2 LL sv ps_operands ps_cells tk_many tk_at tk_kind tk_value tk_place tkfk tkfv tkfp pp_size pp_codeSize pp_outs pp_used ppg ppk) (fun r => 0 ≤ (r.2.2.2.2.2.2.2.1).toInt)) := by
  intro d
  induction d with
  | zero => refine ⟨?_, ?_, ?_, ?_, ?_⟩ <;> (intros; exact Par.no)
  | succ d ih =>
    obtain ⟨i0, i1, i2, i3, i4⟩ := ih
    refine ⟨?_, ?_, ?_, ?_, ?_⟩
    · intro l1 l2 LL sv ps_operands ps_cells tk_many tk_at tk_kind tk_value tk_place tkfk tkfv tkfp pp_size pp_codeSize pp_outs pp_used ppg ppk a b
      exact PLL_X3_takeStatements K hK _ _ _ _ _ i0 i1 i2 i3 i4 K 0 l1 l2 0 LL sv ps_operands ps_cells tk_many tk_at tk_kind tk_value tk_place tkfk tkfv tkfp pp_size pp_codeSize pp_outs pp_used ppg ppk a b
    · intro l1 l2 LL sv ps_operands ps_cells tk_many tk_at tk_kind tk_value tk_place tkfk tkfv tkfp pp_size pp_codeSize pp_outs pp_used ppg ppk a b
      exact PLL_X3_takeStatement K hK _ _ _ _ _ i0 i1 i2 i3 i4 K 0 l1 l2 0 0 0 LL sv ps_operands ps_cells tk_many tk_at tk_kind tk_value tk_place tkfk tkfv tkfp pp_size pp_codeSize pp_outs pp_used ppg ppk a b
    · intro a1 l2 l3 LL sv ps_operands ps_cells tk_many tk_at tk_kind tk_value tk_place tkfk tkfv tkfp pp_size pp_codeSize pp_outs pp_used ppg ppk a b
      exact PLL_X3_takeIf K hK _ _ _ _ _ i0 i1 i2 i3 i4 K 0 a1 l2 l3 LL sv ps_operands ps_cells tk_many tk_at tk_kind tk_value tk_place tkfk tkfv tkfp pp_size pp_codeSize pp_outs pp_used ppg ppk a b
    · intro a1 l2 l3 LL sv ps_operands ps_cells tk_many tk_at tk_kind tk_value tk_place tkfk tkfv tkfp pp_size pp_codeSize pp_outs pp_used ppg ppk a b
      exact PLL_X3_takeLoop K hK _ _ _ _ _ i0 i1 i2 i3 i4 K 0 a1 l2 l3 LL sv ps_operands ps_cells tk_many tk_at tk_kind tk_value tk_place tkfk tkfv tkfp pp_size pp_codeSize pp_outs pp_used ppg ppk a b
    · intro l1 l2 LL sv ps_operands ps_cells tk_many tk_at tk_kind tk_value tk_place tkfk tkfv tkfp pp_size pp_codeSize pp_outs pp_used ppg ppk a b
      exact PLL_X3_takeBraced K hK _ _ _ _ _ i0 i1 i2 i3 i4 K 0 l1 l2 LL sv ps_operands ps_cells tk_many tk_at tk_kind tk_value tk_place tkfk tkfv tkfp pp_size pp_codeSize pp_outs pp_used ppg ppk a b
theorem PL_X3_takeStatements (K : Nat) (hK : 1000000000 ≤ K) (l1 : Int32) (l2 : Int32) (LL : List Nat) (sv : Nat → Nat → Int32) (ps_operands : Int32) (ps_cells : Int32) (tk_many : Int32) (tk_at : Int32) (tk_kind : Int32) (tk_value : Int32) (tk_place : Int32) (tkfk : Nat → Int32) (tkfv : Nat → Int32) (tkfp : Nat → Int32) (pp_size : Int32) (pp_codeSize : Int32) (pp_outs : Int32) (pp_used : Int32) (ppg : Nat → Option Nat) (ppk : Nat → Int32) (h1 : PLc tk_many tkfp) (h2 : 0 ≤ tk_place.toInt) : Par (F_X3_takeStatements K l1 l2 LL sv ps_operands ps_cells tk_many tk_at tk_kind tk_value tk_place tkfk tkfv tkfp pp_size pp_codeSize pp_outs pp_used ppg ppk) (fun r => 0 ≤ (r.2.2.2.2.2.2.2.1).toInt) := by
  unfold F_X3_takeStatements; exact (PLD_DD_stm K hK 40).1 l1 l2 LL sv ps_operands ps_cells tk_many tk_at tk_kind tk_value tk_place tkfk tkfv tkfp pp_size pp_codeSize pp_outs pp_used ppg ppk h1 h2
theorem PL_X3_takeStatement (K : Nat) (hK : 1000000000 ≤ K) (l1 : Int32) (l2 : Int32) (LL : List Nat) (sv : Nat → Nat → Int32) (ps_operands : Int32) (ps_cells : Int32) (tk_many : Int32) (tk_at : Int32) (tk_kind : Int32) (tk_value : Int32) (tk_place : Int32) (tkfk : Nat → Int32) (tkfv : Nat → Int32) (tkfp : Nat → Int32) (pp_size : Int32) (pp_codeSize : Int32) (pp_outs : Int32) (pp_used : Int32) (ppg : Nat → Option Nat) (ppk : Nat → Int32) (h1 : PLc tk_many tkfp) (h2 : 0 ≤ tk_place.toInt) : Par (F_X3_takeStatement K l1 l2 LL sv ps_operands ps_cells tk_many tk_at tk_kind tk_value tk_place tkfk tkfv tkfp pp_size pp_codeSize pp_outs pp_used ppg ppk) (fun r => 0 ≤ (r.2.2.2.2.2.2.2.1).toInt) := by
  unfold F_X3_takeStatement; exact (PLD_DD_stm K hK 40).2.1 l1 l2 LL sv ps_operands ps_cells tk_many tk_at tk_kind tk_value tk_place tkfk tkfv tkfp pp_size pp_codeSize pp_outs pp_used ppg ppk h1 h2
theorem PL_X3_takeIf (K : Nat) (hK : 1000000000 ≤ K) (a1 : Nat) (l2 : Int32) (l3 : Int32) (LL : List Nat) (sv : Nat → Nat → Int32) (ps_operands : Int32) (ps_cells : Int32) (tk_many : Int32) (tk_at : Int32) (tk_kind : Int32) (tk_value : Int32) (tk_place : Int32) (tkfk : Nat → Int32) (tkfv : Nat → Int32) (tkfp : Nat → Int32) (pp_size : Int32) (pp_codeSize : Int32) (pp_outs : Int32) (pp_used : Int32) (ppg : Nat → Option Nat) (ppk : Nat → Int32) (h1 : PLc tk_many tkfp) (h2 : 0 ≤ tk_place.toInt) : Par (F_X3_takeIf K a1 l2 l3 LL sv ps_operands ps_cells tk_many tk_at tk_kind tk_value tk_place tkfk tkfv tkfp pp_size pp_codeSize pp_outs pp_used ppg ppk) (fun r => 0 ≤ (r.2.2.2.2.2.2.2.1).toInt) := by
  unfold F_X3_takeIf; exact (PLD_DD_stm K hK 40).2.2.1 a1 l2 l3 LL sv ps_operands ps_cells tk_many tk_at tk_kind tk_value tk_place tkfk tkfv tkfp pp_size pp_codeSize pp_outs pp_used ppg ppk h1 h2
theorem PL_X3_takeLoop (K : Nat) (hK : 1000000000 ≤ K) (a1 : Nat) (l2 : Int32) (l3 : Int32) (LL : List Nat) (sv : Nat → Nat → Int32) (ps_operands : Int32) (ps_cells : Int32) (tk_many : Int32) (tk_at : Int32) (tk_kind : Int32) (tk_value : Int32) (tk_place : Int32) (tkfk : Nat → Int32) (tkfv : Nat → Int32) (tkfp : Nat → Int32) (pp_size : Int32) (pp_codeSize : Int32) (pp_outs : Int32) (pp_used : Int32) (ppg : Nat → Option Nat) (ppk : Nat → Int32) (h1 : PLc tk_many tkfp) (h2 : 0 ≤ tk_place.toInt) : Par (F_X3_takeLoop K a1 l2 l3 LL sv ps_operands ps_cells tk_many tk_at tk_kind tk_value tk_place tkfk tkfv tkfp pp_size pp_codeSize pp_outs pp_used ppg ppk) (fun r => 0 ≤ (r.2.2.2.2.2.2.2.1).toInt) := by
  unfold F_X3_takeLoop; exact (PLD_DD_stm K hK 40).2.2.2.1 a1 l2 l3 LL sv ps_operands ps_cells tk_many tk_at tk_kind tk_value tk_place tkfk tkfv tkfp pp_size pp_codeSize pp_outs pp_used ppg ppk h1 h2
theorem PL_X3_takeBraced (K : Nat) (hK : 1000000000 ≤ K) (l1 : Int32) (l2 : Int32) (LL : List Nat) (sv : Nat → Nat → Int32) (ps_operands : Int32) (ps_cells : Int32) (tk_many : Int32) (tk_at : Int32) (tk_kind : Int32) (tk_value : Int32) (tk_place : Int32) (tkfk : Nat → Int32) (tkfv : Nat → Int32) (tkfp : Nat → Int32) (pp_size : Int32) (pp_codeSize : Int32) (pp_outs : Int32) (pp_used : Int32) (ppg : Nat → Option Nat) (ppk : Nat → Int32) (h1 : PLc tk_many tkfp) (h2 : 0 ≤ tk_place.toInt) : Par (F_X3_takeBraced K l1 l2 LL sv ps_operands ps_cells tk_many tk_at tk_kind tk_value tk_place tkfk tkfv tkfp pp_size pp_codeSize pp_outs pp_used ppg ppk) (fun r => 0 ≤ (r.2.2.2.2.2.2.2.1).toInt) := by
  unfold F_X3_takeBraced; exact (PLD_DD_stm K hK 40).2.2.2.2 l1 l2 LL sv ps_operands ps_cells tk_many tk_at tk_kind tk_value tk_place tkfk tkfv tkfp pp_size pp_codeSize pp_outs pp_used ppg ppk h1 h2
