/-! statements that are not the draft's stay as they were -/
def SvF (ppg : Nat → Option Nat) (s0 sv : Nat → Nat → Int32) : Prop := ∀ a : Nat, (∀ i : Nat, i < 30 → ppg i ≠ some a) → ∀ z : Nat, sv a z = s0 a z
def InR (ppg : Nat → Option Nat) (a : Nat) : Prop := ∃ i : Nat, i < 30 ∧ ppg i = some a
theorem SvF.up {ppg : Nat → Option Nat} {s0 sv : Nat → Nat → Int32} {a k : Nat} {v : Int32} (h : SvF ppg s0 sv) (hi : InR ppg a) : SvF ppg s0 (sU sv a k v) := by
  intro b hb z
  obtain ⟨i, h1, h2⟩ := hi
  rw [sU_fr sv k z v (fun h9 => hb i h1 (by rw [h9]; exact h2))]
  exact h b hb z
theorem SF_X4_append (K : Nat) (hK : 1000000000 ≤ K) (s0 : Nat → Nat → Int32) (l1 : Int32) (LL : List Nat) (sv : Nat → Nat → Int32) (sz : Int32) (ppg : Nat → Option Nat) (hs : SvF ppg s0 sv) : Par (F_X4_append K l1 LL sv sz ppg) (fun r => SvF ppg s0 r.2.1 ∧ InR ppg r.1) := by
  unfold F_X4_append
  obtain ⟨n, hn⟩ : ∃ n9, K = n9 + 1 := ⟨K - 1, by omega⟩
  generalize hz : L_X4_append K K 0 l1 LL sv sz ppg = z
  have hz2 : z = L_X4_append K (n + 1) 0 l1 LL sv sz ppg := by rw [← hn, hz]
  rw [hz2, L_X4_append_e0]; unfold B_X4_append_0
  refine Par.br (fun hok => ?_) (fun _ => Par.no)
  have hk := (okIx_iff _ _).mp hok
  generalize (if 29 < sz then 29 else sz) = q at hk
  have hq : q.toNatClampNeg < 30 := by
    have := clampI hk.1
    omega
  refine Par.bd (P := fun a => ppg q.toNatClampNeg = some a) (fun a ha => ha) (fun a ha => ?_)
  refine Par.br (fun _ => ?_) (fun _ => Par.no)
  have hre : Par (F_X5_reset K a l1 LL sv) (fun r => SvF ppg s0 r) := by
    unfold F_X5_reset
    generalize hy : L_X5_reset K K 0 a l1 LL sv = y
    have hy2 : y = L_X5_reset K (n + 1) 0 a l1 LL sv := by rw [← hn, hy]
    rw [hy2, L_X5_reset_e0]; unfold B_X5_reset_0
    have hia : InR ppg a := ⟨_, hq, ha⟩
    refine Par.br (fun _ => Par.ret ?_) (fun _ => Par.no)
    repeat (first | exact hs | exact hia | apply SvF.up)
  refine Par.bd hre (fun u hu => ?_)
  refine Par.br (fun _ => ?_) (fun _ => Par.no)
  refine Par.bd (P := fun b => ppg q.toNatClampNeg = some b) (fun b hb => hb) (fun b hb => ?_)
  exact Par.br (fun _ => Par.ret ⟨hu, _, hq, hb⟩) (fun _ => Par.no)
set_option maxRecDepth 100000 in
theorem SFL_X3_takeWholeSum (K : Nat) (hK : 1000000000 ≤ K) (ppg : Nat → Option Nat) (s0 : Nat → Nat → Int32)  : ∀ (n c : Nat) (a1 : Nat) (LL : List Nat) (sv : Nat → Nat → Int32) (ps_operands : Int32) (ps_cells : Int32) (tk_many : Int32) (tk_at : Int32) (tk_kind : Int32) (tk_value : Int32) (tk_place : Int32) (tkfk : Nat → Int32) (tkfv : Nat → Int32) (tkfp : Nat → Int32) (pp_codeSize : Int32) (ppk : Nat → Int32), InR ppg a1 → SvF ppg s0 sv → Par (L_X3_takeWholeSum K  n c a1 LL sv ps_operands ps_cells tk_many tk_at tk_kind tk_value tk_place tkfk tkfv tkfp pp_codeSize ppk) (fun r => SvF ppg s0 r.2.1) := by
  intro n
  induction n with
  | zero => intros; exact Par.no
  | succ n ih =>
    intro c a1 LL sv ps_operands ps_cells tk_many tk_at tk_kind tk_value tk_place tkfk tkfv tkfp pp_codeSize ppk hi9 hs9
    by_cases e0 : c = 0
    · subst e0
      rw [L_X3_takeWholeSum_e0]; unfold B_X3_takeWholeSum_0
      repeat' (first
        | exact Par.no
        | (apply ih <;> repeat (first | assumption | apply SvF.up))
        | refine Par.br (fun _ => ?_) (fun _ => ?_)
        | exact Par.ret (by repeat (first | assumption | apply SvF.up))
        | refine Par.bd (P := fun _ => True) (fun _ _ => True.intro) (fun o9 _ => ?_))
    · have : L_X3_takeWholeSum K  (n + 1) c a1 LL sv ps_operands ps_cells tk_many tk_at tk_kind tk_value tk_place tkfk tkfv tkfp pp_codeSize ppk = none := by
        match c, e0 with
        | 0, e0 => exact absurd rfl e0
        | m + 1, _ => rfl
      rw [this]; exact Par.no
theorem SF_X3_takeWholeSum (K : Nat) (hK : 1000000000 ≤ K) (ppg : Nat → Option Nat) (s0 : Nat → Nat → Int32) (a1 : Nat) (LL : List Nat) (sv : Nat → Nat → Int32) (ps_operands : Int32) (ps_cells : Int32) (tk_many : Int32) (tk_at : Int32) (tk_kind : Int32) (tk_value : Int32) (tk_place : Int32) (tkfk : Nat → Int32) (tkfv : Nat → Int32) (tkfp : Nat → Int32) (pp_codeSize : Int32) (ppk : Nat → Int32) (h1 : InR ppg a1) (h2 : SvF ppg s0 sv) : Par (F_X3_takeWholeSum K a1 LL sv ps_operands ps_cells tk_many tk_at tk_kind tk_value tk_place tkfk tkfv tkfp pp_codeSize ppk) (fun r => SvF ppg s0 r.2.1) := by
  unfold F_X3_takeWholeSum; exact SFL_X3_takeWholeSum K hK ppg s0 K 0 a1 LL sv ps_operands ps_cells tk_many tk_at tk_kind tk_value tk_place tkfk tkfv tkfp pp_codeSize ppk h1 h2
set_option maxRecDepth 100000 in
theorem SFL_X3_takeNumber (K : Nat) (hK : 1000000000 ≤ K) (ppg : Nat → Option Nat) (s0 : Nat → Nat → Int32)  : ∀ (n c : Nat) (a1 : Nat) (l2 : Int32) (LL : List Nat) (sv : Nat → Nat → Int32) (tk_many : Int32) (tk_at : Int32) (tk_kind : Int32) (tk_value : Int32) (tk_place : Int32) (tkfk : Nat → Int32) (tkfv : Nat → Int32) (tkfp : Nat → Int32), InR ppg a1 → SvF ppg s0 sv → Par (L_X3_takeNumber K  n c a1 l2 LL sv tk_many tk_at tk_kind tk_value tk_place tkfk tkfv tkfp) (fun r => SvF ppg s0 r.2.1) := by
  intro n
  induction n with
  | zero => intros; exact Par.no
  | succ n ih =>
    intro c a1 l2 LL sv tk_many tk_at tk_kind tk_value tk_place tkfk tkfv tkfp hi9 hs9
    by_cases e0 : c = 0
    · subst e0
      rw [L_X3_takeNumber_e0]; unfold B_X3_takeNumber_0
      repeat' (first
        | exact Par.no
        | (apply ih <;> repeat (first | assumption | apply SvF.up))
        | refine Par.br (fun _ => ?_) (fun _ => ?_)
        | exact Par.ret (by repeat (first | assumption | apply SvF.up))
        | refine Par.bd (P := fun _ => True) (fun _ _ => True.intro) (fun o9 _ => ?_))
    by_cases e1 : c = 1
    · subst e1
      rw [L_X3_takeNumber_e1]; unfold B_X3_takeNumber_1
      repeat' (first
        | exact Par.no
        | (apply ih <;> repeat (first | assumption | apply SvF.up))
        | refine Par.br (fun _ => ?_) (fun _ => ?_)
        | exact Par.ret (by repeat (first | assumption | apply SvF.up))
        | refine Par.bd (P := fun _ => True) (fun _ _ => True.intro) (fun o9 _ => ?_))
    · have : L_X3_takeNumber K  (n + 1) c a1 l2 LL sv tk_many tk_at tk_kind tk_value tk_place tkfk tkfv tkfp = none := by
        match c, e0, e1 with
        | 0, e0, _ => exact absurd rfl e0
        | 1, _, e1 => exact absurd rfl e1
        | m + 2, _, _ => rfl
      rw [this]; exact Par.no
theorem SF_X3_takeNumber (K : Nat) (hK : 1000000000 ≤ K) (ppg : Nat → Option Nat) (s0 : Nat → Nat → Int32) (a1 : Nat) (l2 : Int32) (LL : List Nat) (sv : Nat → Nat → Int32) (tk_many : Int32) (tk_at : Int32) (tk_kind : Int32) (tk_value : Int32) (tk_place : Int32) (tkfk : Nat → Int32) (tkfv : Nat → Int32) (tkfp : Nat → Int32) (h1 : InR ppg a1) (h2 : SvF ppg s0 sv) : Par (F_X3_takeNumber K a1 l2 LL sv tk_many tk_at tk_kind tk_value tk_place tkfk tkfv tkfp) (fun r => SvF ppg s0 r.2.1) := by
  unfold F_X3_takeNumber; exact SFL_X3_takeNumber K hK ppg s0 K 0 a1 l2 LL sv tk_many tk_at tk_kind tk_value tk_place tkfk tkfv tkfp h1 h2
set_option maxRecDepth 100000 in
theorem SFL_X3_takeAssignment (K : Nat) (hK : 1000000000 ≤ K) (ppg : Nat → Option Nat) (s0 : Nat → Nat → Int32)  : ∀ (n c : Nat) (a1 : Nat) (LL : List Nat) (sv : Nat → Nat → Int32) (ps_operands : Int32) (ps_cells : Int32) (tk_many : Int32) (tk_at : Int32) (tk_kind : Int32) (tk_value : Int32) (tk_place : Int32) (tkfk : Nat → Int32) (tkfv : Nat → Int32) (tkfp : Nat → Int32) (pp_codeSize : Int32) (pp_used : Int32) (ppk : Nat → Int32), InR ppg a1 → SvF ppg s0 sv → Par (L_X3_takeAssignment K  n c a1 LL sv ps_operands ps_cells tk_many tk_at tk_kind tk_value tk_place tkfk tkfv tkfp pp_codeSize pp_used ppk) (fun r => SvF ppg s0 r.2.1) := by
  intro n
  induction n with
  | zero => intros; exact Par.no
  | succ n ih =>
    intro c a1 LL sv ps_operands ps_cells tk_many tk_at tk_kind tk_value tk_place tkfk tkfv tkfp pp_codeSize pp_used ppk hi9 hs9
    by_cases e0 : c = 0
    · subst e0
      rw [L_X3_takeAssignment_e0]; unfold B_X3_takeAssignment_0
      repeat' (first
        | exact Par.no
        | (apply ih <;> repeat (first | assumption | apply SvF.up))
        | refine Par.bd (SF_X3_takeWholeSum K hK ppg s0 _ _ _ _ _ _ _ _ _ _ _ _ _ _ _ (by repeat (first | assumption | apply SvF.up)) (by repeat (first | assumption | apply SvF.up))) (fun o9 h9 => ?_)
        | refine Par.br (fun _ => ?_) (fun _ => ?_)
        | exact Par.ret (by repeat (first | assumption | apply SvF.up))
        | refine Par.bd (P := fun _ => True) (fun _ _ => True.intro) (fun o9 _ => ?_))
    by_cases e1 : c = 1
    · subst e1
      rw [L_X3_takeAssignment_e1]; unfold B_X3_takeAssignment_1
      repeat' (first
        | exact Par.no
        | (apply ih <;> repeat (first | assumption | apply SvF.up))
        | refine Par.bd (SF_X3_takeWholeSum K hK ppg s0 _ _ _ _ _ _ _ _ _ _ _ _ _ _ _ (by repeat (first | assumption | apply SvF.up)) (by repeat (first | assumption | apply SvF.up))) (fun o9 h9 => ?_)
        | refine Par.br (fun _ => ?_) (fun _ => ?_)
        | exact Par.ret (by repeat (first | assumption | apply SvF.up))
        | refine Par.bd (P := fun _ => True) (fun _ _ => True.intro) (fun o9 _ => ?_))
    · have : L_X3_takeAssignment K  (n + 1) c a1 LL sv ps_operands ps_cells tk_many tk_at tk_kind tk_value tk_place tkfk tkfv tkfp pp_codeSize pp_used ppk = none := by
        match c, e0, e1 with
        | 0, e0, _ => exact absurd rfl e0
        | 1, _, e1 => exact absurd rfl e1
        | m + 2, _, _ => rfl
      rw [this]; exact Par.no
theorem SF_X3_takeAssignment (K : Nat) (hK : 1000000000 ≤ K) (ppg : Nat → Option Nat) (s0 : Nat → Nat → Int32) (a1 : Nat) (LL : List Nat) (sv : Nat → Nat → Int32) (ps_operands : Int32) (ps_cells : Int32) (tk_many : Int32) (tk_at : Int32) (tk_kind : Int32) (tk_value : Int32) (tk_place : Int32) (tkfk : Nat → Int32) (tkfv : Nat → Int32) (tkfp : Nat → Int32) (pp_codeSize : Int32) (pp_used : Int32) (ppk : Nat → Int32) (h1 : InR ppg a1) (h2 : SvF ppg s0 sv) : Par (F_X3_takeAssignment K a1 LL sv ps_operands ps_cells tk_many tk_at tk_kind tk_value tk_place tkfk tkfv tkfp pp_codeSize pp_used ppk) (fun r => SvF ppg s0 r.2.1) := by
  unfold F_X3_takeAssignment; exact SFL_X3_takeAssignment K hK ppg s0 K 0 a1 LL sv ps_operands ps_cells tk_many tk_at tk_kind tk_value tk_place tkfk tkfv tkfp pp_codeSize pp_used ppk h1 h2
set_option maxRecDepth 100000 in
theorem SFL_X3_takeOut (K : Nat) (hK : 1000000000 ≤ K) (ppg : Nat → Option Nat) (s0 : Nat → Nat → Int32)  : ∀ (n c : Nat) (a1 : Nat) (LL : List Nat) (sv : Nat → Nat → Int32) (ps_operands : Int32) (ps_cells : Int32) (tk_many : Int32) (tk_at : Int32) (tk_kind : Int32) (tk_value : Int32) (tk_place : Int32) (tkfk : Nat → Int32) (tkfv : Nat → Int32) (tkfp : Nat → Int32) (pp_codeSize : Int32) (pp_outs : Int32) (ppk : Nat → Int32), InR ppg a1 → SvF ppg s0 sv → Par (L_X3_takeOut K  n c a1 LL sv ps_operands ps_cells tk_many tk_at tk_kind tk_value tk_place tkfk tkfv tkfp pp_codeSize pp_outs ppk) (fun r => SvF ppg s0 r.2.1) := by
  intro n
  induction n with
  | zero => intros; exact Par.no
  | succ n ih =>
    intro c a1 LL sv ps_operands ps_cells tk_many tk_at tk_kind tk_value tk_place tkfk tkfv tkfp pp_codeSize pp_outs ppk hi9 hs9
    by_cases e0 : c = 0
    · subst e0
      rw [L_X3_takeOut_e0]; unfold B_X3_takeOut_0
      repeat' (first
        | exact Par.no
        | (apply ih <;> repeat (first | assumption | apply SvF.up))
        | refine Par.bd (SF_X3_takeNumber K hK ppg s0 _ _ _ _ _ _ _ _ _ _ _ _ (by repeat (first | assumption | apply SvF.up)) (by repeat (first | assumption | apply SvF.up))) (fun o9 h9 => ?_)
        | refine Par.bd (SF_X3_takeWholeSum K hK ppg s0 _ _ _ _ _ _ _ _ _ _ _ _ _ _ _ (by repeat (first | assumption | apply SvF.up)) (by repeat (first | assumption | apply SvF.up))) (fun o9 h9 => ?_)
        | refine Par.br (fun _ => ?_) (fun _ => ?_)
        | exact Par.ret (by repeat (first | assumption | apply SvF.up))
        | refine Par.bd (P := fun _ => True) (fun _ _ => True.intro) (fun o9 _ => ?_))
    by_cases e1 : c = 1
    · subst e1
      rw [L_X3_takeOut_e1]; unfold B_X3_takeOut_1
      repeat' (first
        | exact Par.no
        | (apply ih <;> repeat (first | assumption | apply SvF.up))
        | refine Par.bd (SF_X3_takeNumber K hK ppg s0 _ _ _ _ _ _ _ _ _ _ _ _ (by repeat (first | assumption | apply SvF.up)) (by repeat (first | assumption | apply SvF.up))) (fun o9 h9 => ?_)
        | refine Par.bd (SF_X3_takeWholeSum K hK ppg s0 _ _ _ _ _ _ _ _ _ _ _ _ _ _ _ (by repeat (first | assumption | apply SvF.up)) (by repeat (first | assumption | apply SvF.up))) (fun o9 h9 => ?_)
        | refine Par.br (fun _ => ?_) (fun _ => ?_)
        | exact Par.ret (by repeat (first | assumption | apply SvF.up))
        | refine Par.bd (P := fun _ => True) (fun _ _ => True.intro) (fun o9 _ => ?_))
    · have : L_X3_takeOut K  (n + 1) c a1 LL sv ps_operands ps_cells tk_many tk_at tk_kind tk_value tk_place tkfk tkfv tkfp pp_codeSize pp_outs ppk = none := by
        match c, e0, e1 with
        | 0, e0, _ => exact absurd rfl e0
        | 1, _, e1 => exact absurd rfl e1
        | m + 2, _, _ => rfl
      rw [this]; exact Par.no
theorem SF_X3_takeOut (K : Nat) (hK : 1000000000 ≤ K) (ppg : Nat → Option Nat) (s0 : Nat → Nat → Int32) (a1 : Nat) (LL : List Nat) (sv : Nat → Nat → Int32) (ps_operands : Int32) (ps_cells : Int32) (tk_many : Int32) (tk_at : Int32) (tk_kind : Int32) (tk_value : Int32) (tk_place : Int32) (tkfk : Nat → Int32) (tkfv : Nat → Int32) (tkfp : Nat → Int32) (pp_codeSize : Int32) (pp_outs : Int32) (ppk : Nat → Int32) (h1 : InR ppg a1) (h2 : SvF ppg s0 sv) : Par (F_X3_takeOut K a1 LL sv ps_operands ps_cells tk_many tk_at tk_kind tk_value tk_place tkfk tkfv tkfp pp_codeSize pp_outs ppk) (fun r => SvF ppg s0 r.2.1) := by
  unfold F_X3_takeOut; exact SFL_X3_takeOut K hK ppg s0 K 0 a1 LL sv ps_operands ps_cells tk_many tk_at tk_kind tk_value tk_place tkfk tkfv tkfp pp_codeSize pp_outs ppk h1 h2
set_option maxRecDepth 100000 in
theorem SFL_X3_takeStatements (K : Nat) (hK : 1000000000 ≤ K) (s0 : Nat → Nat → Int32) (cal_X3_takeStatements : Int32 → Int32 → (List Nat) → (Nat → Nat → Int32) → Int32 → Int32 → Int32 → Int32 → Int32 → Int32 → Int32 → (Nat → Int32) → (Nat → Int32) → (Nat → Int32) → Int32 → Int32 → Int32 → Int32 → (Nat → Option Nat) → (Nat → Int32) → Option (Int32 × (Nat → Nat → Int32) × Int32 × Int32 × Int32 × Int32 × Int32 × Int32 × Int32 × Int32 × Int32 × Int32 × (Nat → Int32))) (cal_X3_takeStatement : Int32 → Int32 → (List Nat) → (Nat → Nat → Int32) → Int32 → Int32 → Int32 → Int32 → Int32 → Int32 → Int32 → (Nat → Int32) → (Nat → Int32) → (Nat → Int32) → Int32 → Int32 → Int32 → Int32 → (Nat → Option Nat) → (Nat → Int32) → Option (Int32 × (Nat → Nat → Int32) × Int32 × Int32 × Int32 × Int32 × Int32 × Int32 × Int32 × Int32 × Int32 × Int32 × (Nat → Int32))) (cal_X3_takeIf : Nat → Int32 → Int32 → (List Nat) → (Nat → Nat → Int32) → Int32 → Int32 → Int32 → Int32 → Int32 → Int32 → Int32 → (Nat → Int32) → (Nat → Int32) → (Nat → Int32) → Int32 → Int32 → Int32 → Int32 → (Nat → Option Nat) → (Nat → Int32) → Option (Int32 × (Nat → Nat → Int32) × Int32 × Int32 × Int32 × Int32 × Int32 × Int32 × Int32 × Int32 × Int32 × Int32 × (Nat → Int32))) (cal_X3_takeLoop : Nat → Int32 → Int32 → (List Nat) → (Nat → Nat → Int32) → Int32 → Int32 → Int32 → Int32 → Int32 → Int32 → Int32 → (Nat → Int32) → (Nat → Int32) → (Nat → Int32) → Int32 → Int32 → Int32 → Int32 → (Nat → Option Nat) → (Nat → Int32) → Option (Int32 × (Nat → Nat → Int32) × Int32 × Int32 × Int32 × Int32 × Int32 × Int32 × Int32 × Int32 × Int32 × Int32 × (Nat → Int32))) (cal_X3_takeBraced : Int32 → Int32 → (List Nat) → (Nat → Nat → Int32) → Int32 → Int32 → Int32 → Int32 → Int32 → Int32 → Int32 → (Nat → Int32) → (Nat → Int32) → (Nat → Int32) → Int32 → Int32 → Int32 → Int32 → (Nat → Option Nat) → (Nat → Int32) → Option (Int32 × (Nat → Nat → Int32) × Int32 × Int32 × Int32 × Int32 × Int32 × Int32 × Int32 × Int32 × Int32 × Int32 × (Nat → Int32))) (hX3_takeStatements : ∀ (l1 : Int32) (l2 : Int32) (LL : List Nat) (sv : Nat → Nat → Int32) (ps_operands : Int32) (ps_cells : Int32) (tk_many : Int32) (tk_at : Int32) (tk_kind : Int32) (tk_value : Int32) (tk_place : Int32) (tkfk : Nat → Int32) (tkfv : Nat → Int32) (tkfp : Nat → Int32) (pp_size : Int32) (pp_codeSize : Int32) (pp_outs : Int32) (pp_used : Int32) (ppg : Nat → Option Nat) (ppk : Nat → Int32), SvF ppg s0 sv → Par (cal_X3_takeStatements l1 l2 LL sv ps_operands ps_cells tk_many tk_at tk_kind tk_value tk_place tkfk tkfv tkfp pp_size pp_codeSize pp_outs pp_used ppg ppk) (fun r => SvF ppg s0 r.2.1)) (hX3_takeStatement : ∀ (l1 : Int32) (l2 : Int32) (LL : List Nat) (sv : Nat → Nat → Int32) (ps_operands : Int32) (ps_cells : Int32) (tk_many : Int32) (tk_at : Int32) (tk_kind : Int32) (tk_value : Int32) (tk_place : Int32) (tkfk : Nat → Int32) (tkfv : Nat → Int32) (tkfp : Nat → Int32) (pp_size : Int32) (pp_codeSize : Int32) (pp_outs : Int32) (pp_used : Int32) (ppg : Nat → Option Nat) (ppk : Nat → Int32), SvF ppg s0 sv → Par (cal_X3_takeStatement l1 l2 LL sv ps_operands ps_cells tk_many tk_at tk_kind tk_value tk_place tkfk tkfv tkfp pp_size pp_codeSize pp_outs pp_used ppg ppk) (fun r => SvF ppg s0 r.2.1)) (hX3_takeIf : ∀ (a1 : Nat) (l2 : Int32) (l3 : Int32) (LL : List Nat) (sv : Nat → Nat → Int32) (ps_operands : Int32) (ps_cells : Int32) (tk_many : Int32) (tk_at : Int32) (tk_kind : Int32) (tk_value : Int32) (tk_place : Int32) (tkfk : Nat → Int32) (tkfv : Nat → Int32) (tkfp : Nat → Int32) (pp_size : Int32) (pp_codeSize : Int32) (pp_outs : Int32) (pp_used : Int32) (ppg : Nat → Option Nat) (ppk : Nat → Int32), InR ppg a1 → SvF ppg s0 sv → Par (cal_X3_takeIf a1 l2 l3 LL sv ps_operands ps_cells tk_many tk_at tk_kind tk_value tk_place tkfk tkfv tkfp pp_size pp_codeSize pp_outs pp_used ppg ppk) (fun r => SvF ppg s0 r.2.1)) (hX3_takeLoop : ∀ (a1 : Nat) (l2 : Int32) (l3 : Int32) (LL : List Nat) (sv : Nat → Nat → Int32) (ps_operands : Int32) (ps_cells : Int32) (tk_many : Int32) (tk_at : Int32) (tk_kind : Int32) (tk_value : Int32) (tk_place : Int32) (tkfk : Nat → Int32) (tkfv : Nat → Int32) (tkfp : Nat → Int32) (pp_size : Int32) (pp_codeSize : Int32) (pp_outs : Int32) (pp_used : Int32) (ppg : Nat → Option Nat) (ppk : Nat → Int32), InR ppg a1 → SvF ppg s0 sv → Par (cal_X3_takeLoop a1 l2 l3 LL sv ps_operands ps_cells tk_many tk_at tk_kind tk_value tk_place tkfk tkfv tkfp pp_size pp_codeSize pp_outs pp_used ppg ppk) (fun r => SvF ppg s0 r.2.1)) (hX3_takeBraced : ∀ (l1 : Int32) (l2 : Int32) (LL : List Nat) (sv : Nat → Nat → Int32) (ps_operands : Int32) (ps_cells : Int32) (tk_many : Int32) (tk_at : Int32) (tk_kind : Int32) (tk_value : Int32) (tk_place : Int32) (tkfk : Nat → Int32) (tkfv : Nat → Int32) (tkfp : Nat → Int32) (pp_size : Int32) (pp_codeSize : Int32) (pp_outs : Int32) (pp_used : Int32) (ppg : Nat → Option Nat) (ppk : Nat → Int32), SvF ppg s0 sv → Par (cal_X3_takeBraced l1 l2 LL sv ps_operands ps_cells tk_many tk_at tk_kind tk_value tk_place tkfk tkfv tkfp pp_size pp_codeSize pp_outs pp_used ppg ppk) (fun r => SvF ppg s0 r.2.1)) : ∀ (n c : Nat) (l1 : Int32) (l2 : Int32) (l3 : Int32) (LL : List Nat) (sv : Nat → Nat → Int32) (ps_operands : Int32) (ps_cells : Int32) (tk_many : Int32) (tk_at : Int32) (tk_kind : Int32) (tk_value : Int32) (tk_place : Int32) (tkfk : Nat → Int32) (tkfv : Nat → Int32) (tkfp : Nat → Int32) (pp_size : Int32) (pp_codeSize : Int32) (pp_outs : Int32) (pp_used : Int32) (ppg : Nat → Option Nat) (ppk : Nat → Int32), SvF ppg s0 sv → Par (L_X3_takeStatements K cal_X3_takeStatements cal_X3_takeStatement cal_X3_takeIf cal_X3_takeLoop cal_X3_takeBraced n c l1 l2 l3 LL sv ps_operands ps_cells tk_many tk_at tk_kind tk_value tk_place tkfk tkfv tkfp pp_size pp_codeSize pp_outs pp_used ppg ppk) (fun r => SvF ppg s0 r.2.1) := by
  intro n
  induction n with
  | zero => intros; exact Par.no
  | succ n ih =>
    intro c l1 l2 l3 LL sv ps_operands ps_cells tk_many tk_at tk_kind tk_value tk_place tkfk tkfv tkfp pp_size pp_codeSize pp_outs pp_used ppg ppk  hs9
    by_cases e0 : c = 0
    · subst e0
      rw [L_X3_takeStatements_e0]; unfold B_X3_takeStatements_0
      repeat' (first
        | exact Par.no
        | (apply ih <;> repeat (first | assumption | apply SvF.up))
        | refine Par.bd (SF_X3_takeWholeSum K hK ppg s0 _ _ _ _ _ _ _ _ _ _ _ _ _ _ _ (by repeat (first | assumption | apply SvF.up)) (by repeat (first | assumption | apply SvF.up))) (fun o9 h9 => ?_)
        | refine Par.bd (SF_X3_takeNumber K hK ppg s0 _ _ _ _ _ _ _ _ _ _ _ _ (by repeat (first | assumption | apply SvF.up)) (by repeat (first | assumption | apply SvF.up))) (fun o9 h9 => ?_)
        | refine Par.bd (SF_X3_takeAssignment K hK ppg s0 _ _ _ _ _ _ _ _ _ _ _ _ _ _ _ _ (by repeat (first | assumption | apply SvF.up)) (by repeat (first | assumption | apply SvF.up))) (fun o9 h9 => ?_)
        | refine Par.bd (SF_X3_takeOut K hK ppg s0 _ _ _ _ _ _ _ _ _ _ _ _ _ _ _ _ (by repeat (first | assumption | apply SvF.up)) (by repeat (first | assumption | apply SvF.up))) (fun o9 h9 => ?_)
        | refine Par.bd (hX3_takeStatements _ _ _ _ _ _ _ _ _ _ _ _ _ _ _ _ _ _ _ _ (by repeat (first | assumption | apply SvF.up))) (fun o9 h9 => ?_)
        | refine Par.bd (hX3_takeStatement _ _ _ _ _ _ _ _ _ _ _ _ _ _ _ _ _ _ _ _ (by repeat (first | assumption | apply SvF.up))) (fun o9 h9 => ?_)
        | refine Par.bd (hX3_takeIf _ _ _ _ _ _ _ _ _ _ _ _ _ _ _ _ _ _ _ _ _ (by repeat (first | assumption | apply SvF.up)) (by repeat (first | assumption | apply SvF.up))) (fun o9 h9 => ?_)
        | refine Par.bd (hX3_takeLoop _ _ _ _ _ _ _ _ _ _ _ _ _ _ _ _ _ _ _ _ _ (by repeat (first | assumption | apply SvF.up)) (by repeat (first | assumption | apply SvF.up))) (fun o9 h9 => ?_)
        | refine Par.bd (hX3_takeBraced _ _ _ _ _ _ _ _ _ _ _ _ _ _ _ _ _ _ _ _ (by repeat (first | assumption | apply SvF.up))) (fun o9 h9 => ?_)
        | refine Par.br (fun _ => ?_) (fun _ => ?_)
        | exact Par.ret (by repeat (first | assumption | apply SvF.up))
        | refine Par.bd (P := fun _ => True) (fun _ _ => True.intro) (fun o9 _ => ?_))
    by_cases e1 : c = 1
    · subst e1
      rw [L_X3_takeStatements_e1]; unfold B_X3_takeStatements_1
      repeat' (first
        | exact Par.no
        | (apply ih <;> repeat (first | assumption | apply SvF.up))
        | refine Par.bd (SF_X3_takeWholeSum K hK ppg s0 _ _ _ _ _ _ _ _ _ _ _ _ _ _ _ (by repeat (first | assumption | apply SvF.up)) (by repeat (first | assumption | apply SvF.up))) (fun o9 h9 => ?_)
        | refine Par.bd (SF_X3_takeNumber K hK ppg s0 _ _ _ _ _ _ _ _ _ _ _ _ (by repeat (first | assumption | apply SvF.up)) (by repeat (first | assumption | apply SvF.up))) (fun o9 h9 => ?_)
        | refine Par.bd (SF_X3_takeAssignment K hK ppg s0 _ _ _ _ _ _ _ _ _ _ _ _ _ _ _ _ (by repeat (first | assumption | apply SvF.up)) (by repeat (first | assumption | apply SvF.up))) (fun o9 h9 => ?_)
        | refine Par.bd (SF_X3_takeOut K hK ppg s0 _ _ _ _ _ _ _ _ _ _ _ _ _ _ _ _ (by repeat (first | assumption | apply SvF.up)) (by repeat (first | assumption | apply SvF.up))) (fun o9 h9 => ?_)
        | refine Par.bd (hX3_takeStatements _ _ _ _ _ _ _ _ _ _ _ _ _ _ _ _ _ _ _ _ (by repeat (first | assumption | apply SvF.up))) (fun o9 h9 => ?_)
        | refine Par.bd (hX3_takeStatement _ _ _ _ _ _ _ _ _ _ _ _ _ _ _ _ _ _ _ _ (by repeat (first | assumption | apply SvF.up))) (fun o9 h9 => ?_)
        | refine Par.bd (hX3_takeIf _ _ _ _ _ _ _ _ _ _ _ _ _ _ _ _ _ _ _ _ _ (by repeat (first | assumption | apply SvF.up)) (by repeat (first | assumption | apply SvF.up))) (fun o9 h9 => ?_)
        | refine Par.bd (hX3_takeLoop _ _ _ _ _ _ _ _ _ _ _ _ _ _ _ _ _ _ _ _ _ (by repeat (first | assumption | apply SvF.up)) (by repeat (first | assumption | apply SvF.up))) (fun o9 h9 => ?_)
        | refine Par.bd (hX3_takeBraced _ _ _ _ _ _ _ _ _ _ _ _ _ _ _ _ _ _ _ _ (by repeat (first | assumption | apply SvF.up))) (fun o9 h9 => ?_)
        | refine Par.br (fun _ => ?_) (fun _ => ?_)
        | exact Par.ret (by repeat (first | assumption | apply SvF.up))
        | refine Par.bd (P := fun _ => True) (fun _ _ => True.intro) (fun o9 _ => ?_))
    by_cases e2 : c = 2
    · subst e2
      rw [L_X3_takeStatements_e2]; unfold B_X3_takeStatements_2
      repeat' (first
        | exact Par.no
        | (apply ih <;> repeat (first | assumption | apply SvF.up))
        | refine Par.bd (SF_X3_takeWholeSum K hK ppg s0 _ _ _ _ _ _ _ _ _ _ _ _ _ _ _ (by repeat (first | assumption | apply SvF.up)) (by repeat (first | assumption | apply SvF.up))) (fun o9 h9 => ?_)
        | refine Par.bd (SF_X3_takeNumber K hK ppg s0 _ _ _ _ _ _ _ _ _ _ _ _ (by repeat (first | assumption | apply SvF.up)) (by repeat (first | assumption | apply SvF.up))) (fun o9 h9 => ?_)
        | refine Par.bd (SF_X3_takeAssignment K hK ppg s0 _ _ _ _ _ _ _ _ _ _ _ _ _ _ _ _ (by repeat (first | assumption | apply SvF.up)) (by repeat (first | assumption | apply SvF.up))) (fun o9 h9 => ?_)
        | refine Par.bd (SF_X3_takeOut K hK ppg s0 _ _ _ _ _ _ _ _ _ _ _ _ _ _ _ _ (by repeat (first | assumption | apply SvF.up)) (by repeat (first | assumption | apply SvF.up))) (fun o9 h9 => ?_)
        | refine Par.bd (hX3_takeStatements _ _ _ _ _ _ _ _ _ _ _ _ _ _ _ _ _ _ _ _ (by repeat (first | assumption | apply SvF.up))) (fun o9 h9 => ?_)
        | refine Par.bd (hX3_takeStatement _ _ _ _ _ _ _ _ _ _ _ _ _ _ _ _ _ _ _ _ (by repeat (first | assumption | apply SvF.up))) (fun o9 h9 => ?_)
        | refine Par.bd (hX3_takeIf _ _ _ _ _ _ _ _ _ _ _ _ _ _ _ _ _ _ _ _ _ (by repeat (first | assumption | apply SvF.up)) (by repeat (first | assumption | apply SvF.up))) (fun o9 h9 => ?_)
        | refine Par.bd (hX3_takeLoop _ _ _ _ _ _ _ _ _ _ _ _ _ _ _ _ _ _ _ _ _ (by repeat (first | assumption | apply SvF.up)) (by repeat (first | assumption | apply SvF.up))) (fun o9 h9 => ?_)
        | refine Par.bd (hX3_takeBraced _ _ _ _ _ _ _ _ _ _ _ _ _ _ _ _ _ _ _ _ (by repeat (first | assumption | apply SvF.up))) (fun o9 h9 => ?_)
        | refine Par.br (fun _ => ?_) (fun _ => ?_)
        | exact Par.ret (by repeat (first | assumption | apply SvF.up))
        | refine Par.bd (P := fun _ => True) (fun _ _ => True.intro) (fun o9 _ => ?_))
    by_cases e3 : c = 3
    · subst e3
      rw [L_X3_takeStatements_e3]; unfold B_X3_takeStatements_3
      repeat' (first
        | exact Par.no
        | (apply ih <;> repeat (first | assumption | apply SvF.up))
        | refine Par.bd (SF_X3_takeWholeSum K hK ppg s0 _ _ _ _ _ _ _ _ _ _ _ _ _ _ _ (by repeat (first | assumption | apply SvF.up)) (by repeat (first | assumption | apply SvF.up))) (fun o9 h9 => ?_)
        | refine Par.bd (SF_X3_takeNumber K hK ppg s0 _ _ _ _ _ _ _ _ _ _ _ _ (by repeat (first | assumption | apply SvF.up)) (by repeat (first | assumption | apply SvF.up))) (fun o9 h9 => ?_)
        | refine Par.bd (SF_X3_takeAssignment K hK ppg s0 _ _ _ _ _ _ _ _ _ _ _ _ _ _ _ _ (by repeat (first | assumption | apply SvF.up)) (by repeat (first | assumption | apply SvF.up))) (fun o9 h9 => ?_)
        | refine Par.bd (SF_X3_takeOut K hK ppg s0 _ _ _ _ _ _ _ _ _ _ _ _ _ _ _ _ (by repeat (first | assumption | apply SvF.up)) (by repeat (first | assumption | apply SvF.up))) (fun o9 h9 => ?_)
        | refine Par.bd (hX3_takeStatements _ _ _ _ _ _ _ _ _ _ _ _ _ _ _ _ _ _ _ _ (by repeat (first | assumption | apply SvF.up))) (fun o9 h9 => ?_)
        | refine Par.bd (hX3_takeStatement _ _ _ _ _ _ _ _ _ _ _ _ _ _ _ _ _ _ _ _ (by repeat (first | assumption | apply SvF.up))) (fun o9 h9 => ?_)
        | refine Par.bd (hX3_takeIf _ _ _ _ _ _ _ _ _ _ _ _ _ _ _ _ _ _ _ _ _ (by repeat (first | assumption | apply SvF.up)) (by repeat (first | assumption | apply SvF.up))) (fun o9 h9 => ?_)
        | refine Par.bd (hX3_takeLoop _ _ _ _ _ _ _ _ _ _ _ _ _ _ _ _ _ _ _ _ _ (by repeat (first | assumption | apply SvF.up)) (by repeat (first | assumption | apply SvF.up))) (fun o9 h9 => ?_)
        | refine Par.bd (hX3_takeBraced _ _ _ _ _ _ _ _ _ _ _ _ _ _ _ _ _ _ _ _ (by repeat (first | assumption | apply SvF.up))) (fun o9 h9 => ?_)
        | refine Par.br (fun _ => ?_) (fun _ => ?_)
        | exact Par.ret (by repeat (first | assumption | apply SvF.up))
        | refine Par.bd (P := fun _ => True) (fun _ _ => True.intro) (fun o9 _ => ?_))
    · have : L_X3_takeStatements K cal_X3_takeStatements cal_X3_takeStatement cal_X3_takeIf cal_X3_takeLoop cal_X3_takeBraced (n + 1) c l1 l2 l3 LL sv ps_operands ps_cells tk_many tk_at tk_kind tk_value tk_place tkfk tkfv tkfp pp_size pp_codeSize pp_outs pp_used ppg ppk = none := by
        match c, e0, e1, e2, e3 with
        | 0, e0, _, _, _ => exact absurd rfl e0
        | 1, _, e1, _, _ => exact absurd rfl e1
        | 2, _, _, e2, _ => exact absurd rfl e2
        | 3, _, _, _, e3 => exact absurd rfl e3
        | m + 4, _, _, _, _ => rfl
      rw [this]; exact Par.no
set_option maxRecDepth 100000 in
theorem SFL_X3_takeStatement (K : Nat) (hK : 1000000000 ≤ K) (s0 : Nat → Nat → Int32) (cal_X3_takeStatements : Int32 → Int32 → (List Nat) → (Nat → Nat → Int32) → Int32 → Int32 → Int32 → Int32 → Int32 → Int32 → Int32 → (Nat → Int32) → (Nat → Int32) → (Nat → Int32) → Int32 → Int32 → Int32 → Int32 → (Nat → Option Nat) → (Nat → Int32) → Option (Int32 × (Nat → Nat → Int32) × Int32 × Int32 × Int32 × Int32 × Int32 × Int32 × Int32 × Int32 × Int32 × Int32 × (Nat → Int32))) (cal_X3_takeStatement : Int32 → Int32 → (List Nat) → (Nat → Nat → Int32) → Int32 → Int32 → Int32 → Int32 → Int32 → Int32 → Int32 → (Nat → Int32) → (Nat → Int32) → (Nat → Int32) → Int32 → Int32 → Int32 → Int32 → (Nat → Option Nat) → (Nat → Int32) → Option (Int32 × (Nat → Nat → Int32) × Int32 × Int32 × Int32 × Int32 × Int32 × Int32 × Int32 × Int32 × Int32 × Int32 × (Nat → Int32))) (cal_X3_takeIf : Nat → Int32 → Int32 → (List Nat) → (Nat → Nat → Int32) → Int32 → Int32 → Int32 → Int32 → Int32 → Int32 → Int32 → (Nat → Int32) → (Nat → Int32) → (Nat → Int32) → Int32 → Int32 → Int32 → Int32 → (Nat → Option Nat) → (Nat → Int32) → Option (Int32 × (Nat → Nat → Int32) × Int32 × Int32 × Int32 × Int32 × Int32 × Int32 × Int32 × Int32 × Int32 × Int32 × (Nat → Int32))) (cal_X3_takeLoop : Nat → Int32 → Int32 → (List Nat) → (Nat → Nat → Int32) → Int32 → Int32 → Int32 → Int32 → Int32 → Int32 → Int32 → (Nat → Int32) → (Nat → Int32) → (Nat → Int32) → Int32 → Int32 → Int32 → Int32 → (Nat → Option Nat) → (Nat → Int32) → Option (Int32 × (Nat → Nat → Int32) × Int32 × Int32 × Int32 × Int32 × Int32 × Int32 × Int32 × Int32 × Int32 × Int32 × (Nat → Int32))) (cal_X3_takeBraced : Int32 → Int32 → (List Nat) → (Nat → Nat → Int32) → Int32 → Int32 → Int32 → Int32 → Int32 → Int32 → Int32 → (Nat → Int32) → (Nat → Int32) → (Nat → Int32) → Int32 → Int32 → Int32 → Int32 → (Nat → Option Nat) → (Nat → Int32) → Option (Int32 × (Nat → Nat → Int32) × Int32 × Int32 × Int32 × Int32 × Int32 × Int32 × Int32 × Int32 × Int32 × Int32 × (Nat → Int32))) (hX3_takeStatements : ∀ (l1 : Int32) (l2 : Int32) (LL : List Nat) (sv : Nat → Nat → Int32) (ps_operands : Int32) (ps_cells : Int32) (tk_many : Int32) (tk_at : Int32) (tk_kind : Int32) (tk_value : Int32) (tk_place : Int32) (tkfk : Nat → Int32) (tkfv : Nat → Int32) (tkfp : Nat → Int32) (pp_size : Int32) (pp_codeSize : Int32) (pp_outs : Int32) (pp_used : Int32) (ppg : Nat → Option Nat) (ppk : Nat → Int32), SvF ppg s0 sv → Par (cal_X3_takeStatements l1 l2 LL sv ps_operands ps_cells tk_many tk_at tk_kind tk_value tk_place tkfk tkfv tkfp pp_size pp_codeSize pp_outs pp_used ppg ppk) (fun r => SvF ppg s0 r.2.1)) (hX3_takeStatement : ∀ (l1 : Int32) (l2 : Int32) (LL : List Nat) (sv : Nat → Nat → Int32) (ps_operands : Int32) (ps_cells : Int32) (tk_many : Int32) (tk_at : Int32) (tk_kind : Int32) (tk_value : Int32) (tk_place : Int32) (tkfk : Nat → Int32) (tkfv : Nat → Int32) (tkfp : Nat → Int32) (pp_size : Int32) (pp_codeSize : Int32) (pp_outs : Int32) (pp_used : Int32) (ppg : Nat → Option Nat) (ppk : Nat → Int32), SvF ppg s0 sv → Par (cal_X3_takeStatement l1 l2 LL sv ps_operands ps_cells tk_many tk_at tk_kind tk_value tk_place tkfk tkfv tkfp pp_size pp_codeSize pp_outs pp_used ppg ppk) (fun r => SvF ppg s0 r.2.1)) (hX3_takeIf : ∀ (a1 : Nat) (l2 : Int32) (l3 : Int32) (LL : List Nat) (sv : Nat → Nat → Int32) (ps_operands : Int32) (ps_cells : Int32) (tk_many : Int32) (tk_at : Int32) (tk_kind : Int32) (tk_value : Int32) (tk_place : Int32) (tkfk : Nat → Int32) (tkfv : Nat → Int32) (tkfp : Nat → Int32) (pp_size : Int32) (pp_codeSize : Int32) (pp_outs : Int32) (pp_used : Int32) (ppg : Nat → Option Nat) (ppk : Nat → Int32), InR ppg a1 → SvF ppg s0 sv → Par (cal_X3_takeIf a1 l2 l3 LL sv ps_operands ps_cells tk_many tk_at tk_kind tk_value tk_place tkfk tkfv tkfp pp_size pp_codeSize pp_outs pp_used ppg ppk) (fun r => SvF ppg s0 r.2.1)) (hX3_takeLoop : ∀ (a1 : Nat) (l2 : Int32) (l3 : Int32) (LL : List Nat) (sv : Nat → Nat → Int32) (ps_operands : Int32) (ps_cells : Int32) (tk_many : Int32) (tk_at : Int32) (tk_kind : Int32) (tk_value : Int32) (tk_place : Int32) (tkfk : Nat → Int32) (tkfv : Nat → Int32) (tkfp : Nat → Int32) (pp_size : Int32) (pp_codeSize : Int32) (pp_outs : Int32) (pp_used : Int32) (ppg : Nat → Option Nat) (ppk : Nat → Int32), InR ppg a1 → SvF ppg s0 sv → Par (cal_X3_takeLoop a1 l2 l3 LL sv ps_operands ps_cells tk_many tk_at tk_kind tk_value tk_place tkfk tkfv tkfp pp_size pp_codeSize pp_outs pp_used ppg ppk) (fun r => SvF ppg s0 r.2.1)) (hX3_takeBraced : ∀ (l1 : Int32) (l2 : Int32) (LL : List Nat) (sv : Nat → Nat → Int32) (ps_operands : Int32) (ps_cells : Int32) (tk_many : Int32) (tk_at : Int32) (tk_kind : Int32) (tk_value : Int32) (tk_place : Int32) (tkfk : Nat → Int32) (tkfv : Nat → Int32) (tkfp : Nat → Int32) (pp_size : Int32) (pp_codeSize : Int32) (pp_outs : Int32) (pp_used : Int32) (ppg : Nat → Option Nat) (ppk : Nat → Int32), SvF ppg s0 sv → Par (cal_X3_takeBraced l1 l2 LL sv ps_operands ps_cells tk_many tk_at tk_kind tk_value tk_place tkfk tkfv tkfp pp_size pp_codeSize pp_outs pp_used ppg ppk) (fun r => SvF ppg s0 r.2.1)) : ∀ (n c : Nat) (l1 : Int32) (l2 : Int32) (l3 : Int32) (a4 : Nat) (l5 : Int32) (LL : List Nat) (sv : Nat → Nat → Int32) (ps_operands : Int32) (ps_cells : Int32) (tk_many : Int32) (tk_at : Int32) (tk_kind : Int32) (tk_value : Int32) (tk_place : Int32) (tkfk : Nat → Int32) (tkfv : Nat → Int32) (tkfp : Nat → Int32) (pp_size : Int32) (pp_codeSize : Int32) (pp_outs : Int32) (pp_used : Int32) (ppg : Nat → Option Nat) (ppk : Nat → Int32), (c = 0 ∨ InR ppg a4) → SvF ppg s0 sv → Par (L_X3_takeStatement K cal_X3_takeStatements cal_X3_takeStatement cal_X3_takeIf cal_X3_takeLoop cal_X3_takeBraced n c l1 l2 l3 a4 l5 LL sv ps_operands ps_cells tk_many tk_at tk_kind tk_value tk_place tkfk tkfv tkfp pp_size pp_codeSize pp_outs pp_used ppg ppk) (fun r => SvF ppg s0 r.2.1) := by
  intro n
  induction n with
  | zero => intros; exact Par.no
  | succ n ih =>
    intro c l1 l2 l3 a4 l5 LL sv ps_operands ps_cells tk_many tk_at tk_kind tk_value tk_place tkfk tkfv tkfp pp_size pp_codeSize pp_outs pp_used ppg ppk hi9 hs9
    by_cases e0 : c = 0
    · subst e0
      rw [L_X3_takeStatement_e0]; unfold B_X3_takeStatement_0
      repeat' (first
        | exact Par.no
        | (apply ih; exact Or.inr (by assumption); repeat (first | assumption | apply SvF.up))
        | (refine Par.bd (SF_X4_append K hK s0 _ _ _ _ _ (by assumption)) (fun o9 h9 => ?_); obtain ⟨h91, h92⟩ := h9)
        | refine Par.bd (SF_X3_takeWholeSum K hK ppg s0 _ _ _ _ _ _ _ _ _ _ _ _ _ _ _ (by repeat (first | assumption | apply SvF.up)) (by repeat (first | assumption | apply SvF.up))) (fun o9 h9 => ?_)
        | refine Par.bd (SF_X3_takeNumber K hK ppg s0 _ _ _ _ _ _ _ _ _ _ _ _ (by repeat (first | assumption | apply SvF.up)) (by repeat (first | assumption | apply SvF.up))) (fun o9 h9 => ?_)
        | refine Par.bd (SF_X3_takeAssignment K hK ppg s0 _ _ _ _ _ _ _ _ _ _ _ _ _ _ _ _ (by repeat (first | assumption | apply SvF.up)) (by repeat (first | assumption | apply SvF.up))) (fun o9 h9 => ?_)
        | refine Par.bd (SF_X3_takeOut K hK ppg s0 _ _ _ _ _ _ _ _ _ _ _ _ _ _ _ _ (by repeat (first | assumption | apply SvF.up)) (by repeat (first | assumption | apply SvF.up))) (fun o9 h9 => ?_)
        | refine Par.bd (hX3_takeStatements _ _ _ _ _ _ _ _ _ _ _ _ _ _ _ _ _ _ _ _ (by repeat (first | assumption | apply SvF.up))) (fun o9 h9 => ?_)
        | refine Par.bd (hX3_takeStatement _ _ _ _ _ _ _ _ _ _ _ _ _ _ _ _ _ _ _ _ (by repeat (first | assumption | apply SvF.up))) (fun o9 h9 => ?_)
        | refine Par.bd (hX3_takeIf _ _ _ _ _ _ _ _ _ _ _ _ _ _ _ _ _ _ _ _ _ (by repeat (first | assumption | apply SvF.up)) (by repeat (first | assumption | apply SvF.up))) (fun o9 h9 => ?_)
        | refine Par.bd (hX3_takeLoop _ _ _ _ _ _ _ _ _ _ _ _ _ _ _ _ _ _ _ _ _ (by repeat (first | assumption | apply SvF.up)) (by repeat (first | assumption | apply SvF.up))) (fun o9 h9 => ?_)
        | refine Par.bd (hX3_takeBraced _ _ _ _ _ _ _ _ _ _ _ _ _ _ _ _ _ _ _ _ (by repeat (first | assumption | apply SvF.up))) (fun o9 h9 => ?_)
        | refine Par.br (fun _ => ?_) (fun _ => ?_)
        | exact Par.ret (by repeat (first | assumption | apply SvF.up))
        | refine Par.bd (P := fun _ => True) (fun _ _ => True.intro) (fun o9 _ => ?_))
    by_cases e1 : c = 1
    · subst e1
      have hi8 : InR ppg a4 := by
        rcases hi9 with h | h
        · exact absurd h (by decide)
        · exact h
      rw [L_X3_takeStatement_e1]; unfold B_X3_takeStatement_1
      repeat' (first
        | exact Par.no
        | (apply ih; exact Or.inr (by assumption); repeat (first | assumption | apply SvF.up))
        | (refine Par.bd (SF_X4_append K hK s0 _ _ _ _ _ (by assumption)) (fun o9 h9 => ?_); obtain ⟨h91, h92⟩ := h9)
        | refine Par.bd (SF_X3_takeWholeSum K hK ppg s0 _ _ _ _ _ _ _ _ _ _ _ _ _ _ _ (by repeat (first | assumption | apply SvF.up)) (by repeat (first | assumption | apply SvF.up))) (fun o9 h9 => ?_)
        | refine Par.bd (SF_X3_takeNumber K hK ppg s0 _ _ _ _ _ _ _ _ _ _ _ _ (by repeat (first | assumption | apply SvF.up)) (by repeat (first | assumption | apply SvF.up))) (fun o9 h9 => ?_)
        | refine Par.bd (SF_X3_takeAssignment K hK ppg s0 _ _ _ _ _ _ _ _ _ _ _ _ _ _ _ _ (by repeat (first | assumption | apply SvF.up)) (by repeat (first | assumption | apply SvF.up))) (fun o9 h9 => ?_)
        | refine Par.bd (SF_X3_takeOut K hK ppg s0 _ _ _ _ _ _ _ _ _ _ _ _ _ _ _ _ (by repeat (first | assumption | apply SvF.up)) (by repeat (first | assumption | apply SvF.up))) (fun o9 h9 => ?_)
        | refine Par.bd (hX3_takeStatements _ _ _ _ _ _ _ _ _ _ _ _ _ _ _ _ _ _ _ _ (by repeat (first | assumption | apply SvF.up))) (fun o9 h9 => ?_)
        | refine Par.bd (hX3_takeStatement _ _ _ _ _ _ _ _ _ _ _ _ _ _ _ _ _ _ _ _ (by repeat (first | assumption | apply SvF.up))) (fun o9 h9 => ?_)
        | refine Par.bd (hX3_takeIf _ _ _ _ _ _ _ _ _ _ _ _ _ _ _ _ _ _ _ _ _ (by repeat (first | assumption | apply SvF.up)) (by repeat (first | assumption | apply SvF.up))) (fun o9 h9 => ?_)
        | refine Par.bd (hX3_takeLoop _ _ _ _ _ _ _ _ _ _ _ _ _ _ _ _ _ _ _ _ _ (by repeat (first | assumption | apply SvF.up)) (by repeat (first | assumption | apply SvF.up))) (fun o9 h9 => ?_)
        | refine Par.bd (hX3_takeBraced _ _ _ _ _ _ _ _ _ _ _ _ _ _ _ _ _ _ _ _ (by repeat (first | assumption | apply SvF.up))) (fun o9 h9 => ?_)
        | refine Par.br (fun _ => ?_) (fun _ => ?_)
        | exact Par.ret (by repeat (first | assumption | apply SvF.up))
        | refine Par.bd (P := fun _ => True) (fun _ _ => True.intro) (fun o9 _ => ?_))
    · have : L_X3_takeStatement K cal_X3_takeStatements cal_X3_takeStatement cal_X3_takeIf cal_X3_takeLoop cal_X3_takeBraced (n + 1) c l1 l2 l3 a4 l5 LL sv ps_operands ps_cells tk_many tk_at tk_kind tk_value tk_place tkfk tkfv tkfp pp_size pp_codeSize pp_outs pp_used ppg ppk = none := by
        match c, e0, e1 with
        | 0, e0, _ => exact absurd rfl e0
        | 1, _, e1 => exact absurd rfl e1
        | m + 2, _, _ => rfl
      rw [this]; exact Par.no
set_option maxRecDepth 100000 in
theorem SFL_X3_takeIf (K : Nat) (hK : 1000000000 ≤ K) (s0 : Nat → Nat → Int32) (cal_X3_takeStatements : Int32 → Int32 → (List Nat) → (Nat → Nat → Int32) → Int32 → Int32 → Int32 → Int32 → Int32 → Int32 → Int32 → (Nat → Int32) → (Nat → Int32) → (Nat → Int32) → Int32 → Int32 → Int32 → Int32 → (Nat → Option Nat) → (Nat → Int32) → Option (Int32 × (Nat → Nat → Int32) × Int32 × Int32 × Int32 × Int32 × Int32 × Int32 × Int32 × Int32 × Int32 × Int32 × (Nat → Int32))) (cal_X3_takeStatement : Int32 → Int32 → (List Nat) → (Nat → Nat → Int32) → Int32 → Int32 → Int32 → Int32 → Int32 → Int32 → Int32 → (Nat → Int32) → (Nat → Int32) → (Nat → Int32) → Int32 → Int32 → Int32 → Int32 → (Nat → Option Nat) → (Nat → Int32) → Option (Int32 × (Nat → Nat → Int32) × Int32 × Int32 × Int32 × Int32 × Int32 × Int32 × Int32 × Int32 × Int32 × Int32 × (Nat → Int32))) (cal_X3_takeIf : Nat → Int32 → Int32 → (List Nat) → (Nat → Nat → Int32) → Int32 → Int32 → Int32 → Int32 → Int32 → Int32 → Int32 → (Nat → Int32) → (Nat → Int32) → (Nat → Int32) → Int32 → Int32 → Int32 → Int32 → (Nat → Option Nat) → (Nat → Int32) → Option (Int32 × (Nat → Nat → Int32) × Int32 × Int32 × Int32 × Int32 × Int32 × Int32 × Int32 × Int32 × Int32 × Int32 × (Nat → Int32))) (cal_X3_takeLoop : Nat → Int32 → Int32 → (List Nat) → (Nat → Nat → Int32) → Int32 → Int32 → Int32 → Int32 → Int32 → Int32 → Int32 → (Nat → Int32) → (Nat → Int32) → (Nat → Int32) → Int32 → Int32 → Int32 → Int32 → (Nat → Option Nat) → (Nat → Int32) → Option (Int32 × (Nat → Nat → Int32) × Int32 × Int32 × Int32 × Int32 × Int32 × Int32 × Int32 × Int32 × Int32 × Int32 × (Nat → Int32))) (cal_X3_takeBraced : Int32 → Int32 → (List Nat) → (Nat → Nat → Int32) → Int32 → Int32 → Int32 → Int32 → Int32 → Int32 → Int32 → (Nat → Int32) → (Nat → Int32) → (Nat → Int32) → Int32 → Int32 → Int32 → Int32 → (Nat → Option Nat) → (Nat → Int32) → Option (Int32 × (Nat → Nat → Int32) × Int32 × Int32 × Int32 × Int32 × Int32 × Int32 × Int32 × Int32 × Int32 × Int32 × (Nat → Int32))) (hX3_takeStatements : ∀ (l1 : Int32) (l2 : Int32) (LL : List Nat) (sv : Nat → Nat → Int32) (ps_operands : Int32) (ps_cells : Int32) (tk_many : Int32) (tk_at : Int32) (tk_kind : Int32) (tk_value : Int32) (tk_place : Int32) (tkfk : Nat → Int32) (tkfv : Nat → Int32) (tkfp : Nat → Int32) (pp_size : Int32) (pp_codeSize : Int32) (pp_outs : Int32) (pp_used : Int32) (ppg : Nat → Option Nat) (ppk : Nat → Int32), SvF ppg s0 sv → Par (cal_X3_takeStatements l1 l2 LL sv ps_operands ps_cells tk_many tk_at tk_kind tk_value tk_place tkfk tkfv tkfp pp_size pp_codeSize pp_outs pp_used ppg ppk) (fun r => SvF ppg s0 r.2.1)) (hX3_takeStatement : ∀ (l1 : Int32) (l2 : Int32) (LL : List Nat) (sv : Nat → Nat → Int32) (ps_operands : Int32) (ps_cells : Int32) (tk_many : Int32) (tk_at : Int32) (tk_kind : Int32) (tk_value : Int32) (tk_place : Int32) (tkfk : Nat → Int32) (tkfv : Nat → Int32) (tkfp : Nat → Int32) (pp_size : Int32) (pp_codeSize : Int32) (pp_outs : Int32) (pp_used : Int32) (ppg : Nat → Option Nat) (ppk : Nat → Int32), SvF ppg s0 sv → Par (cal_X3_takeStatement l1 l2 LL sv ps_operands ps_cells tk_many tk_at tk_kind tk_value tk_place tkfk tkfv tkfp pp_size pp_codeSize pp_outs pp_used ppg ppk) (fun r => SvF ppg s0 r.2.1)) (hX3_takeIf : ∀ (a1 : Nat) (l2 : Int32) (l3 : Int32) (LL : List Nat) (sv : Nat → Nat → Int32) (ps_operands : Int32) (ps_cells : Int32) (tk_many : Int32) (tk_at : Int32) (tk_kind : Int32) (tk_value : Int32) (tk_place : Int32) (tkfk : Nat → Int32) (tkfv : Nat → Int32) (tkfp : Nat → Int32) (pp_size : Int32) (pp_codeSize : Int32) (pp_outs : Int32) (pp_used : Int32) (ppg : Nat → Option Nat) (ppk : Nat → Int32), InR ppg a1 → SvF ppg s0 sv → Par (cal_X3_takeIf a1 l2 l3 LL sv ps_operands ps_cells tk_many tk_at tk_kind tk_value tk_place tkfk tkfv tkfp pp_size pp_codeSize pp_outs pp_used ppg ppk) (fun r => SvF ppg s0 r.2.1)) (hX3_takeLoop : ∀ (a1 : Nat) (l2 : Int32) (l3 : Int32) (LL : List Nat) (sv : Nat → Nat → Int32) (ps_operands : Int32) (ps_cells : Int32) (tk_many : Int32) (tk_at : Int32) (tk_kind : Int32) (tk_value : Int32) (tk_place : Int32) (tkfk : Nat → Int32) (tkfv : Nat → Int32) (tkfp : Nat → Int32) (pp_size : Int32) (pp_codeSize : Int32) (pp_outs : Int32) (pp_used : Int32) (ppg : Nat → Option Nat) (ppk : Nat → Int32), InR ppg a1 → SvF ppg s0 sv → Par (cal_X3_takeLoop a1 l2 l3 LL sv ps_operands ps_cells tk_many tk_at tk_kind tk_value tk_place tkfk tkfv tkfp pp_size pp_codeSize pp_outs pp_used ppg ppk) (fun r => SvF ppg s0 r.2.1)) (hX3_takeBraced : ∀ (l1 : Int32) (l2 : Int32) (LL : List Nat) (sv : Nat → Nat → Int32) (ps_operands : Int32) (ps_cells : Int32) (tk_many : Int32) (tk_at : Int32) (tk_kind : Int32) (tk_value : Int32) (tk_place : Int32) (tkfk : Nat → Int32) (tkfv : Nat → Int32) (tkfp : Nat → Int32) (pp_size : Int32) (pp_codeSize : Int32) (pp_outs : Int32) (pp_used : Int32) (ppg : Nat → Option Nat) (ppk : Nat → Int32), SvF ppg s0 sv → Par (cal_X3_takeBraced l1 l2 LL sv ps_operands ps_cells tk_many tk_at tk_kind tk_value tk_place tkfk tkfv tkfp pp_size pp_codeSize pp_outs pp_used ppg ppk) (fun r => SvF ppg s0 r.2.1)) : ∀ (n c : Nat) (a1 : Nat) (l2 : Int32) (l3 : Int32) (LL : List Nat) (sv : Nat → Nat → Int32) (ps_operands : Int32) (ps_cells : Int32) (tk_many : Int32) (tk_at : Int32) (tk_kind : Int32) (tk_value : Int32) (tk_place : Int32) (tkfk : Nat → Int32) (tkfv : Nat → Int32) (tkfp : Nat → Int32) (pp_size : Int32) (pp_codeSize : Int32) (pp_outs : Int32) (pp_used : Int32) (ppg : Nat → Option Nat) (ppk : Nat → Int32), InR ppg a1 → SvF ppg s0 sv → Par (L_X3_takeIf K cal_X3_takeStatements cal_X3_takeStatement cal_X3_takeIf cal_X3_takeLoop cal_X3_takeBraced n c a1 l2 l3 LL sv ps_operands ps_cells tk_many tk_at tk_kind tk_value tk_place tkfk tkfv tkfp pp_size pp_codeSize pp_outs pp_used ppg ppk) (fun r => SvF ppg s0 r.2.1) := by
  intro n
  induction n with
  | zero => intros; exact Par.no
  | succ n ih =>
    intro c a1 l2 l3 LL sv ps_operands ps_cells tk_many tk_at tk_kind tk_value tk_place tkfk tkfv tkfp pp_size pp_codeSize pp_outs pp_used ppg ppk hi9 hs9
    by_cases e0 : c = 0
    · subst e0
      rw [L_X3_takeIf_e0]; unfold B_X3_takeIf_0
      repeat' (first
        | exact Par.no
        | (apply ih <;> repeat (first | assumption | apply SvF.up))
        | refine Par.bd (SF_X3_takeWholeSum K hK ppg s0 _ _ _ _ _ _ _ _ _ _ _ _ _ _ _ (by repeat (first | assumption | apply SvF.up)) (by repeat (first | assumption | apply SvF.up))) (fun o9 h9 => ?_)
        | refine Par.bd (SF_X3_takeNumber K hK ppg s0 _ _ _ _ _ _ _ _ _ _ _ _ (by repeat (first | assumption | apply SvF.up)) (by repeat (first | assumption | apply SvF.up))) (fun o9 h9 => ?_)
        | refine Par.bd (SF_X3_takeAssignment K hK ppg s0 _ _ _ _ _ _ _ _ _ _ _ _ _ _ _ _ (by repeat (first | assumption | apply SvF.up)) (by repeat (first | assumption | apply SvF.up))) (fun o9 h9 => ?_)
        | refine Par.bd (SF_X3_takeOut K hK ppg s0 _ _ _ _ _ _ _ _ _ _ _ _ _ _ _ _ (by repeat (first | assumption | apply SvF.up)) (by repeat (first | assumption | apply SvF.up))) (fun o9 h9 => ?_)
        | refine Par.bd (hX3_takeStatements _ _ _ _ _ _ _ _ _ _ _ _ _ _ _ _ _ _ _ _ (by repeat (first | assumption | apply SvF.up))) (fun o9 h9 => ?_)
        | refine Par.bd (hX3_takeStatement _ _ _ _ _ _ _ _ _ _ _ _ _ _ _ _ _ _ _ _ (by repeat (first | assumption | apply SvF.up))) (fun o9 h9 => ?_)
        | refine Par.bd (hX3_takeIf _ _ _ _ _ _ _ _ _ _ _ _ _ _ _ _ _ _ _ _ _ (by repeat (first | assumption | apply SvF.up)) (by repeat (first | assumption | apply SvF.up))) (fun o9 h9 => ?_)
        | refine Par.bd (hX3_takeLoop _ _ _ _ _ _ _ _ _ _ _ _ _ _ _ _ _ _ _ _ _ (by repeat (first | assumption | apply SvF.up)) (by repeat (first | assumption | apply SvF.up))) (fun o9 h9 => ?_)
        | refine Par.bd (hX3_takeBraced _ _ _ _ _ _ _ _ _ _ _ _ _ _ _ _ _ _ _ _ (by repeat (first | assumption | apply SvF.up))) (fun o9 h9 => ?_)
        | refine Par.br (fun _ => ?_) (fun _ => ?_)
        | exact Par.ret (by repeat (first | assumption | apply SvF.up))
        | refine Par.bd (P := fun _ => True) (fun _ _ => True.intro) (fun o9 _ => ?_))
    by_cases e1 : c = 1
    · subst e1
      rw [L_X3_takeIf_e1]; unfold B_X3_takeIf_1
      repeat' (first
        | exact Par.no
        | (apply ih <;> repeat (first | assumption | apply SvF.up))
        | refine Par.bd (SF_X3_takeWholeSum K hK ppg s0 _ _ _ _ _ _ _ _ _ _ _ _ _ _ _ (by repeat (first | assumption | apply SvF.up)) (by repeat (first | assumption | apply SvF.up))) (fun o9 h9 => ?_)
        | refine Par.bd (SF_X3_takeNumber K hK ppg s0 _ _ _ _ _ _ _ _ _ _ _ _ (by repeat (first | assumption | apply SvF.up)) (by repeat (first | assumption | apply SvF.up))) (fun o9 h9 => ?_)
        | refine Par.bd (SF_X3_takeAssignment K hK ppg s0 _ _ _ _ _ _ _ _ _ _ _ _ _ _ _ _ (by repeat (first | assumption | apply SvF.up)) (by repeat (first | assumption | apply SvF.up))) (fun o9 h9 => ?_)
        | refine Par.bd (SF_X3_takeOut K hK ppg s0 _ _ _ _ _ _ _ _ _ _ _ _ _ _ _ _ (by repeat (first | assumption | apply SvF.up)) (by repeat (first | assumption | apply SvF.up))) (fun o9 h9 => ?_)
        | refine Par.bd (hX3_takeStatements _ _ _ _ _ _ _ _ _ _ _ _ _ _ _ _ _ _ _ _ (by repeat (first | assumption | apply SvF.up))) (fun o9 h9 => ?_)
        | refine Par.bd (hX3_takeStatement _ _ _ _ _ _ _ _ _ _ _ _ _ _ _ _ _ _ _ _ (by repeat (first | assumption | apply SvF.up))) (fun o9 h9 => ?_)
        | refine Par.bd (hX3_takeIf _ _ _ _ _ _ _ _ _ _ _ _ _ _ _ _ _ _ _ _ _ (by repeat (first | assumption | apply SvF.up)) (by repeat (first | assumption | apply SvF.up))) (fun o9 h9 => ?_)
        | refine Par.bd (hX3_takeLoop _ _ _ _ _ _ _ _ _ _ _ _ _ _ _ _ _ _ _ _ _ (by repeat (first | assumption | apply SvF.up)) (by repeat (first | assumption | apply SvF.up))) (fun o9 h9 => ?_)
        | refine Par.bd (hX3_takeBraced _ _ _ _ _ _ _ _ _ _ _ _ _ _ _ _ _ _ _ _ (by repeat (first | assumption | apply SvF.up))) (fun o9 h9 => ?_)
        | refine Par.br (fun _ => ?_) (fun _ => ?_)
        | exact Par.ret (by repeat (first | assumption | apply SvF.up))
        | refine Par.bd (P := fun _ => True) (fun _ _ => True.intro) (fun o9 _ => ?_))
    by_cases e2 : c = 2
    · subst e2
      rw [L_X3_takeIf_e2]; unfold B_X3_takeIf_2
      repeat' (first
        | exact Par.no
        | (apply ih <;> repeat (first | assumption | apply SvF.up))
        | refine Par.bd (SF_X3_takeWholeSum K hK ppg s0 _ _ _ _ _ _ _ _ _ _ _ _ _ _ _ (by repeat (first | assumption | apply SvF.up)) (by repeat (first | assumption | apply SvF.up))) (fun o9 h9 => ?_)
        | refine Par.bd (SF_X3_takeNumber K hK ppg s0 _ _ _ _ _ _ _ _ _ _ _ _ (by repeat (first | assumption | apply SvF.up)) (by repeat (first | assumption | apply SvF.up))) (fun o9 h9 => ?_)
        | refine Par.bd (SF_X3_takeAssignment K hK ppg s0 _ _ _ _ _ _ _ _ _ _ _ _ _ _ _ _ (by repeat (first | assumption | apply SvF.up)) (by repeat (first | assumption | apply SvF.up))) (fun o9 h9 => ?_)
        | refine Par.bd (SF_X3_takeOut K hK ppg s0 _ _ _ _ _ _ _ _ _ _ _ _ _ _ _ _ (by repeat (first | assumption | apply SvF.up)) (by repeat (first | assumption | apply SvF.up))) (fun o9 h9 => ?_)
        | refine Par.bd (hX3_takeStatements _ _ _ _ _ _ _ _ _ _ _ _ _ _ _ _ _ _ _ _ (by repeat (first | assumption | apply SvF.up))) (fun o9 h9 => ?_)
        | refine Par.bd (hX3_takeStatement _ _ _ _ _ _ _ _ _ _ _ _ _ _ _ _ _ _ _ _ (by repeat (first | assumption | apply SvF.up))) (fun o9 h9 => ?_)
        | refine Par.bd (hX3_takeIf _ _ _ _ _ _ _ _ _ _ _ _ _ _ _ _ _ _ _ _ _ (by repeat (first | assumption | apply SvF.up)) (by repeat (first | assumption | apply SvF.up))) (fun o9 h9 => ?_)
        | refine Par.bd (hX3_takeLoop _ _ _ _ _ _ _ _ _ _ _ _ _ _ _ _ _ _ _ _ _ (by repeat (first | assumption | apply SvF.up)) (by repeat (first | assumption | apply SvF.up))) (fun o9 h9 => ?_)
        | refine Par.bd (hX3_takeBraced _ _ _ _ _ _ _ _ _ _ _ _ _ _ _ _ _ _ _ _ (by repeat (first | assumption | apply SvF.up))) (fun o9 h9 => ?_)
        | refine Par.br (fun _ => ?_) (fun _ => ?_)
        | exact Par.ret (by repeat (first | assumption | apply SvF.up))
        | refine Par.bd (P := fun _ => True) (fun _ _ => True.intro) (fun o9 _ => ?_))
    · have : L_X3_takeIf K cal_X3_takeStatements cal_X3_takeStatement cal_X3_takeIf cal_X3_takeLoop cal_X3_takeBraced (n + 1) c a1 l2 l3 LL sv ps_operands ps_cells tk_many tk_at tk_kind tk_value tk_place tkfk tkfv tkfp pp_size pp_codeSize pp_outs pp_used ppg ppk = none := by
        match c, e0, e1, e2 with
        | 0, e0, _, _ => exact absurd rfl e0
        | 1, _, e1, _ => exact absurd rfl e1
        | 2, _, _, e2 => exact absurd rfl e2
        | m + 3, _, _, _ => rfl
      rw [this]; exact Par.no
set_option maxRecDepth 100000 in
theorem SFL_X3_takeLoop (K : Nat) (hK : 1000000000 ≤ K) (s0 : Nat → Nat → Int32) (cal_X3_takeStatements : Int32 → Int32 → (List Nat) → (Nat → Nat → Int32) → Int32 → Int32 → Int32 → Int32 → Int32 → Int32 → Int32 → (Nat → Int32) → (Nat → Int32) → (Nat → Int32) → Int32 → Int32 → Int32 → Int32 → (Nat → Option Nat) → (Nat → Int32) → Option (Int32 × (Nat → Nat → Int32) × Int32 × Int32 × Int32 × Int32 × Int32 × Int32 × Int32 × Int32 × Int32 × Int32 × (Nat → Int32))) (cal_X3_takeStatement : Int32 → Int32 → (List Nat) → (Nat → Nat → Int32) → Int32 → Int32 → Int32 → Int32 → Int32 → Int32 → Int32 → (Nat → Int32) → (Nat → Int32) → (Nat → Int32) → Int32 → Int32 → Int32 → Int32 → (Nat → Option Nat) → (Nat → Int32) → Option (Int32 × (Nat → Nat → Int32) × Int32 × Int32 × Int32 × Int32 × Int32 × Int32 × Int32 × Int32 × Int32 × Int32 × (Nat → Int32))) (cal_X3_takeIf : Nat → Int32 → Int32 → (List Nat) → (Nat → Nat → Int32) → Int32 → Int32 → Int32 → Int32 → Int32 → Int32 → Int32 → (Nat → Int32) → (Nat → Int32) → (Nat → Int32) → Int32 → Int32 → Int32 → Int32 → (Nat → Option Nat) → (Nat → Int32) → Option (Int32 × (Nat → Nat → Int32) × Int32 × Int32 × Int32 × Int32 × Int32 × Int32 × Int32 × Int32 × Int32 × Int32 × (Nat → Int32))) (cal_X3_takeLoop : Nat → Int32 → Int32 → (List Nat) → (Nat → Nat → Int32) → Int32 → Int32 → Int32 → Int32 → Int32 → Int32 → Int32 → (Nat → Int32) → (Nat → Int32) → (Nat → Int32) → Int32 → Int32 → Int32 → Int32 → (Nat → Option Nat) → (Nat → Int32) → Option (Int32 × (Nat → Nat → Int32) × Int32 × Int32 × Int32 × Int32 × Int32 × Int32 × Int32 × Int32 × Int32 × Int32 × (Nat → Int32))) (cal_X3_takeBraced : Int32 → Int32 → (List Nat) → (Nat → Nat → Int32) → Int32 → Int32 → Int32 → Int32 → Int32 → Int32 → Int32 → (Nat → Int32) → (Nat → Int32) → (Nat → Int32) → Int32 → Int32 → Int32 → Int32 → (Nat → Option Nat) → (Nat → Int32) → Option (Int32 × (Nat → Nat → Int32) × Int32 × Int32 × Int32 × Int32 × Int32 × Int32 × Int32 × Int32 × Int32 × Int32 × (Nat → Int32))) (hX3_takeStatements : ∀ (l1 : Int32) (l2 : Int32) (LL : List Nat) (sv : Nat → Nat → Int32) (ps_operands : Int32) (ps_cells : Int32) (tk_many : Int32) (tk_at : Int32) (tk_kind : Int32) (tk_value : Int32) (tk_place : Int32) (tkfk : Nat → Int32) (tkfv : Nat → Int32) (tkfp : Nat → Int32) (pp_size : Int32) (pp_codeSize : Int32) (pp_outs : Int32) (pp_used : Int32) (ppg : Nat → Option Nat) (ppk : Nat → Int32), SvF ppg s0 sv → Par (cal_X3_takeStatements l1 l2 LL sv ps_operands ps_cells tk_many tk_at tk_kind tk_value tk_place tkfk tkfv tkfp pp_size pp_codeSize pp_outs pp_used ppg ppk) (fun r => SvF ppg s0 r.2.1)) (hX3_takeStatement : ∀ (l1 : Int32) (l2 : Int32) (LL : List Nat) (sv : Nat → Nat → Int32) (ps_operands : Int32) (ps_cells : Int32) (tk_many : Int32) (tk_at : Int32) (tk_kind : Int32) (tk_value : Int32) (tk_place : Int32) (tkfk : Nat → Int32) (tkfv : Nat → Int32) (tkfp : Nat → Int32) (pp_size : Int32) (pp_codeSize : Int32) (pp_outs : Int32) (pp_used : Int32) (ppg : Nat → Option Nat) (ppk : Nat → Int32), SvF ppg s0 sv → Par (cal_X3_takeStatement l1 l2 LL sv ps_operands ps_cells tk_many tk_at tk_kind tk_value tk_place tkfk tkfv tkfp pp_size pp_codeSize pp_outs pp_used ppg ppk) (fun r => SvF ppg s0 r.2.1)) (hX3_takeIf : ∀ (a1 : Nat) (l2 : Int32) (l3 : Int32) (LL : List Nat) (sv : Nat → Nat → Int32) (ps_operands : Int32) (ps_cells : Int32) (tk_many : Int32) (tk_at : Int32) (tk_kind : Int32) (tk_value : Int32) (tk_place : Int32) (tkfk : Nat → Int32) (tkfv : Nat → Int32) (tkfp : Nat → Int32) (pp_size : Int32) (pp_codeSize : Int32) (pp_outs : Int32) (pp_used : Int32) (ppg : Nat → Option Nat) (ppk : Nat → Int32), InR ppg a1 → SvF ppg s0 sv → Par (cal_X3_takeIf a1 l2 l3 LL sv ps_operands ps_cells tk_many tk_at tk_kind tk_value tk_place tkfk tkfv tkfp pp_size pp_codeSize pp_outs pp_used ppg ppk) (fun r => SvF ppg s0 r.2.1)) (hX3_takeLoop : ∀ (a1 : Nat) (l2 : Int32) (l3 : Int32) (LL : List Nat) (sv : Nat → Nat → Int32) (ps_operands : Int32) (ps_cells : Int32) (tk_many : Int32) (tk_at : Int32) (tk_kind : Int32) (tk_value : Int32) (tk_place : Int32) (tkfk : Nat → Int32) (tkfv : Nat → Int32) (tkfp : Nat → Int32) (pp_size : Int32) (pp_codeSize : Int32) (pp_outs : Int32) (pp_used : Int32) (ppg : Nat → Option Nat) (ppk : Nat → Int32), InR ppg a1 → SvF ppg s0 sv → Par (cal_X3_takeLoop a1 l2 l3 LL sv ps_operands ps_cells tk_many tk_at tk_kind tk_value tk_place tkfk tkfv tkfp pp_size pp_codeSize pp_outs pp_used ppg ppk) (fun r => SvF ppg s0 r.2.1)) (hX3_takeBraced : ∀ (l1 : Int32) (l2 : Int32) (LL : List Nat) (sv : Nat → Nat → Int32) (ps_operands : Int32) (ps_cells : Int32) (tk_many : Int32) (tk_at : Int32) (tk_kind : Int32) (tk_value : Int32) (tk_place : Int32) (tkfk : Nat → Int32) (tkfv : Nat → Int32) (tkfp : Nat → Int32) (pp_size : Int32) (pp_codeSize : Int32) (pp_outs : Int32) (pp_used : Int32) (ppg : Nat → Option Nat) (ppk : Nat → Int32), SvF ppg s0 sv → Par (cal_X3_takeBraced l1 l2 LL sv ps_operands ps_cells tk_many tk_at tk_kind tk_value tk_place tkfk tkfv tkfp pp_size pp_codeSize pp_outs pp_used ppg ppk) (fun r => SvF ppg s0 r.2.1)) : ∀ (n c : Nat) (a1 : Nat) (l2 : Int32) (l3 : Int32) (LL : List Nat) (sv : Nat → Nat → Int32) (ps_operands : Int32) (ps_cells : Int32) (tk_many : Int32) (tk_at : Int32) (tk_kind : Int32) (tk_value : Int32) (tk_place : Int32) (tkfk : Nat → Int32) (tkfv : Nat → Int32) (tkfp : Nat → Int32) (pp_size : Int32) (pp_codeSize : Int32) (pp_outs : Int32) (pp_used : Int32) (ppg : Nat → Option Nat) (ppk : Nat → Int32), InR ppg a1 → SvF ppg s0 sv → Par (L_X3_takeLoop K cal_X3_takeStatements cal_X3_takeStatement cal_X3_takeIf cal_X3_takeLoop cal_X3_takeBraced n c a1 l2 l3 LL sv ps_operands ps_cells tk_many tk_at tk_kind tk_value tk_place tkfk tkfv tkfp pp_size pp_codeSize pp_outs pp_used ppg ppk) (fun r => SvF ppg s0 r.2.1) := by
  intro n
  induction n with
  | zero => intros; exact Par.no
  | succ n ih =>
    intro c a1 l2 l3 LL sv ps_operands ps_cells tk_many tk_at tk_kind tk_value tk_place tkfk tkfv tkfp pp_size pp_codeSize pp_outs pp_used ppg ppk hi9 hs9
    by_cases e0 : c = 0
    · subst e0
      rw [L_X3_takeLoop_e0]; unfold B_X3_takeLoop_0
      repeat' (first
        | exact Par.no
        | (apply ih <;> repeat (first | assumption | apply SvF.up))
        | refine Par.bd (SF_X3_takeWholeSum K hK ppg s0 _ _ _ _ _ _ _ _ _ _ _ _ _ _ _ (by repeat (first | assumption | apply SvF.up)) (by repeat (first | assumption | apply SvF.up))) (fun o9 h9 => ?_)
        | refine Par.bd (SF_X3_takeNumber K hK ppg s0 _ _ _ _ _ _ _ _ _ _ _ _ (by repeat (first | assumption | apply SvF.up)) (by repeat (first | assumption | apply SvF.up))) (fun o9 h9 => ?_)
        | refine Par.bd (SF_X3_takeAssignment K hK ppg s0 _ _ _ _ _ _ _ _ _ _ _ _ _ _ _ _ (by repeat (first | assumption | apply SvF.up)) (by repeat (first | assumption | apply SvF.up))) (fun o9 h9 => ?_)
        | refine Par.bd (SF_X3_takeOut K hK ppg s0 _ _ _ _ _ _ _ _ _ _ _ _ _ _ _ _ (by repeat (first | assumption | apply SvF.up)) (by repeat (first | assumption | apply SvF.up))) (fun o9 h9 => ?_)
        | refine Par.bd (hX3_takeStatements _ _ _ _ _ _ _ _ _ _ _ _ _ _ _ _ _ _ _ _ (by repeat (first | assumption | apply SvF.up))) (fun o9 h9 => ?_)
        | refine Par.bd (hX3_takeStatement _ _ _ _ _ _ _ _ _ _ _ _ _ _ _ _ _ _ _ _ (by repeat (first | assumption | apply SvF.up))) (fun o9 h9 => ?_)
        | refine Par.bd (hX3_takeIf _ _ _ _ _ _ _ _ _ _ _ _ _ _ _ _ _ _ _ _ _ (by repeat (first | assumption | apply SvF.up)) (by repeat (first | assumption | apply SvF.up))) (fun o9 h9 => ?_)
        | refine Par.bd (hX3_takeLoop _ _ _ _ _ _ _ _ _ _ _ _ _ _ _ _ _ _ _ _ _ (by repeat (first | assumption | apply SvF.up)) (by repeat (first | assumption | apply SvF.up))) (fun o9 h9 => ?_)
        | refine Par.bd (hX3_takeBraced _ _ _ _ _ _ _ _ _ _ _ _ _ _ _ _ _ _ _ _ (by repeat (first | assumption | apply SvF.up))) (fun o9 h9 => ?_)
        | refine Par.br (fun _ => ?_) (fun _ => ?_)
        | exact Par.ret (by repeat (first | assumption | apply SvF.up))
        | refine Par.bd (P := fun _ => True) (fun _ _ => True.intro) (fun o9 _ => ?_))
    by_cases e1 : c = 1
    · subst e1
      rw [L_X3_takeLoop_e1]; unfold B_X3_takeLoop_1
      repeat' (first
        | exact Par.no
        | (apply ih <;> repeat (first | assumption | apply SvF.up))
        | refine Par.bd (SF_X3_takeWholeSum K hK ppg s0 _ _ _ _ _ _ _ _ _ _ _ _ _ _ _ (by repeat (first | assumption | apply SvF.up)) (by repeat (first | assumption | apply SvF.up))) (fun o9 h9 => ?_)
        | refine Par.bd (SF_X3_takeNumber K hK ppg s0 _ _ _ _ _ _ _ _ _ _ _ _ (by repeat (first | assumption | apply SvF.up)) (by repeat (first | assumption | apply SvF.up))) (fun o9 h9 => ?_)
        | refine Par.bd (SF_X3_takeAssignment K hK ppg s0 _ _ _ _ _ _ _ _ _ _ _ _ _ _ _ _ (by repeat (first | assumption | apply SvF.up)) (by repeat (first | assumption | apply SvF.up))) (fun o9 h9 => ?_)
        | refine Par.bd (SF_X3_takeOut K hK ppg s0 _ _ _ _ _ _ _ _ _ _ _ _ _ _ _ _ (by repeat (first | assumption | apply SvF.up)) (by repeat (first | assumption | apply SvF.up))) (fun o9 h9 => ?_)
        | refine Par.bd (hX3_takeStatements _ _ _ _ _ _ _ _ _ _ _ _ _ _ _ _ _ _ _ _ (by repeat (first | assumption | apply SvF.up))) (fun o9 h9 => ?_)
        | refine Par.bd (hX3_takeStatement _ _ _ _ _ _ _ _ _ _ _ _ _ _ _ _ _ _ _ _ (by repeat (first | assumption | apply SvF.up))) (fun o9 h9 => ?_)
        | refine Par.bd (hX3_takeIf _ _ _ _ _ _ _ _ _ _ _ _ _ _ _ _ _ _ _ _ _ (by repeat (first | assumption | apply SvF.up)) (by repeat (first | assumption | apply SvF.up))) (fun o9 h9 => ?_)
        | refine Par.bd (hX3_takeLoop _ _ _ _ _ _ _ _ _ _ _ _ _ _ _ _ _ _ _ _ _ (by repeat (first | assumption | apply SvF.up)) (by repeat (first | assumption | apply SvF.up))) (fun o9 h9 => ?_)
        | refine Par.bd (hX3_takeBraced _ _ _ _ _ _ _ _ _ _ _ _ _ _ _ _ _ _ _ _ (by repeat (first | assumption | apply SvF.up))) (fun o9 h9 => ?_)
        | refine Par.br (fun _ => ?_) (fun _ => ?_)
        | exact Par.ret (by repeat (first | assumption | apply SvF.up))
        | refine Par.bd (P := fun _ => True) (fun _ _ => True.intro) (fun o9 _ => ?_))
    · have : L_X3_takeLoop K cal_X3_takeStatements cal_X3_takeStatement cal_X3_takeIf cal_X3_takeLoop cal_X3_takeBraced (n + 1) c a1 l2 l3 LL sv ps_operands ps_cells tk_many tk_at tk_kind tk_value tk_place tkfk tkfv tkfp pp_size pp_codeSize pp_outs pp_used ppg ppk = none := by
        match c, e0, e1 with
        | 0, e0, _ => exact absurd rfl e0
        | 1, _, e1 => exact absurd rfl e1
        | m + 2, _, _ => rfl
      rw [this]; exact Par.no
set_option maxRecDepth 100000 in
theorem SFL_X3_takeBraced (K : Nat) (hK : 1000000000 ≤ K) (s0 : Nat → Nat → Int32) (cal_X3_takeStatements : Int32 → Int32 → (List Nat) → (Nat → Nat → Int32) → Int32 → Int32 → Int32 → Int32 → Int32 → Int32 → Int32 → (Nat → Int32) → (Nat → Int32) → (Nat → Int32) → Int32 → Int32 → Int32 → Int32 → (Nat → Option Nat) → (Nat → Int32) → Option (Int32 × (Nat → Nat → Int32) × Int32 × Int32 × Int32 × Int32 × Int32 × Int32 × Int32 × Int32 × Int32 × Int32 × (Nat → Int32))) (cal_X3_takeStatement : Int32 → Int32 → (List Nat) → (Nat → Nat → Int32) → Int32 → Int32 → Int32 → Int32 → Int32 → Int32 → Int32 → (Nat → Int32) → (Nat → Int32) → (Nat → Int32) → Int32 → Int32 → Int32 → Int32 → (Nat → Option Nat) → (Nat → Int32) → Option (Int32 × (Nat → Nat → Int32) × Int32 × Int32 × Int32 × Int32 × Int32 × Int32 × Int32 × Int32 × Int32 × Int32 × (Nat → Int32))) (cal_X3_takeIf : Nat → Int32 → Int32 → (List Nat) → (Nat → Nat → Int32) → Int32 → Int32 → Int32 → Int32 → Int32 → Int32 → Int32 → (Nat → Int32) → (Nat → Int32) → (Nat → Int32) → Int32 → Int32 → Int32 → Int32 → (Nat → Option Nat) → (Nat → Int32) → Option (Int32 × (Nat → Nat → Int32) × Int32 × Int32 × Int32 × Int32 × Int32 × Int32 × Int32 × Int32 × Int32 × Int32 × (Nat → Int32))) (cal_X3_takeLoop : Nat → Int32 → Int32 → (List Nat) → (Nat → Nat → Int32) → Int32 → Int32 → Int32 → Int32 → Int32 → Int32 → Int32 → (Nat → Int32) → (Nat → Int32) → (Nat → Int32) → Int32 → Int32 → Int32 → Int32 → (Nat → Option Nat) → (Nat → Int32) → Option (Int32 × (Nat → Nat → Int32) × Int32 × Int32 × Int32 × Int32 × Int32 × Int32 × Int32 × Int32 × Int32 × Int32 × (Nat → Int32))) (cal_X3_takeBraced : Int32 → Int32 → (List Nat) → (Nat → Nat → Int32) → Int32 → Int32 → Int32 → Int32 → Int32 → Int32 → Int32 → (Nat → Int32) → (Nat → Int32) → (Nat → Int32) → Int32 → Int32 → Int32 → Int32 → (Nat → Option Nat) → (Nat → Int32) → Option (Int32 × (Nat → Nat → Int32) × Int32 × Int32 × Int32 × Int32 × Int32 × Int32 × Int32 × Int32 × Int32 × Int32 × (Nat → Int32))) (hX3_takeStatements : ∀ (l1 : Int32) (l2 : Int32) (LL : List Nat) (sv : Nat → Nat → Int32) (ps_operands : Int32) (ps_cells : Int32) (tk_many : Int32) (tk_at : Int32) (tk_kind : Int32) (tk_value : Int32) (tk_place : Int32) (tkfk : Nat → Int32) (tkfv : Nat → Int32) (tkfp : Nat → Int32) (pp_size : Int32) (pp_codeSize : Int32) (pp_outs : Int32) (pp_used : Int32) (ppg : Nat → Option Nat) (ppk : Nat → Int32), SvF ppg s0 sv → Par (cal_X3_takeStatements l1 l2 LL sv ps_operands ps_cells tk_many tk_at tk_kind tk_value tk_place tkfk tkfv tkfp pp_size pp_codeSize pp_outs pp_used ppg ppk) (fun r => SvF ppg s0 r.2.1)) (hX3_takeStatement : ∀ (l1 : Int32) (l2 : Int32) (LL : List Nat) (sv : Nat → Nat → Int32) (ps_operands : Int32) (ps_cells : Int32) (tk_many : Int32) (tk_at : Int32) (tk_kind : Int32) (tk_value : Int32) (tk_place : Int32) (tkfk : Nat → Int32) (tkfv : Nat → Int32) (tkfp : Nat → Int32) (pp_size : Int32) (pp_codeSize : Int32) (pp_outs : Int32) (pp_used : Int32) (ppg : Nat → Option Nat) (ppk : Nat → Int32), SvF ppg s0 sv → Par (cal_X3_takeStatement l1 l2 LL sv ps_operands ps_cells tk_many tk_at tk_kind tk_value tk_place tkfk tkfv tkfp pp_size pp_codeSize pp_outs pp_used ppg ppk) (fun r => SvF ppg s0 r.2.1)) (hX3_takeIf : ∀ (a1 : Nat) (l2 : Int32) (l3 : Int32) (LL : List Nat) (sv : Nat → Nat → Int32) (ps_operands : Int32) (ps_cells : Int32) (tk_many : Int32) (tk_at : Int32) (tk_kind : Int32) (tk_value : Int32) (tk_place : Int32) (tkfk : Nat → Int32) (tkfv : Nat → Int32) (tkfp : Nat → Int32) (pp_size : Int32) (pp_codeSize : Int32) (pp_outs : Int32) (pp_used : Int32) (ppg : Nat → Option Nat) (ppk : Nat → Int32), InR ppg a1 → SvF ppg s0 sv → Par (cal_X3_takeIf a1 l2 l3 LL sv ps_operands ps_cells tk_many tk_at tk_kind tk_value tk_place tkfk tkfv tkfp pp_size pp_codeSize pp_outs pp_used ppg ppk) (fun r => SvF ppg s0 r.2.1)) (hX3_takeLoop : ∀ (a1 : Nat) (l2 : Int32) (l3 : Int32) (LL : List Nat) (sv : Nat → Nat → Int32) (ps_operands : Int32) (ps_cells : Int32) (tk_many : Int32) (tk_at : Int32) (tk_kind : Int32) (tk_value : Int32) (tk_place : Int32) (tkfk : Nat → Int32) (tkfv : Nat → Int32) (tkfp : Nat → Int32) (pp_size : Int32) (pp_codeSize : Int32) (pp_outs : Int32) (pp_used : Int32) (ppg : Nat → Option Nat) (ppk : Nat → Int32), InR ppg a1 → SvF ppg s0 sv → Par (cal_X3_takeLoop a1 l2 l3 LL sv ps_operands ps_cells tk_many tk_at tk_kind tk_value tk_place tkfk tkfv tkfp pp_size pp_codeSize pp_outs pp_used ppg ppk) (fun r => SvF ppg s0 r.2.1)) (hX3_takeBraced : ∀ (l1 : Int32) (l2 : Int32) (LL : List Nat) (sv : Nat → Nat → Int32) (ps_operands : Int32) (ps_cells : Int32) (tk_many : Int32) (tk_at : Int32) (tk_kind : Int32) (tk_value : Int32) (tk_place : Int32) (tkfk : Nat → Int32) (tkfv : Nat → Int32) (tkfp : Nat → Int32) (pp_size : Int32) (pp_codeSize : Int32) (pp_outs : Int32) (pp_used : Int32) (ppg : Nat → Option Nat) (ppk : Nat → Int32), SvF ppg s0 sv → Par (cal_X3_takeBraced l1 l2 LL sv ps_operands ps_cells tk_many tk_at tk_kind tk_value tk_place tkfk tkfv tkfp pp_size pp_codeSize pp_outs pp_used ppg ppk) (fun r => SvF ppg s0 r.2.1)) : ∀ (n c : Nat) (l1 : Int32) (l2 : Int32) (LL : List Nat) (sv : Nat → Nat → Int32) (ps_operands : Int32) (ps_cells : Int32) (tk_many : Int32) (tk_at : Int32) (tk_kind : Int32) (tk_value : Int32) (tk_place : Int32) (tkfk : Nat → Int32) (tkfv : Nat → Int32) (tkfp : Nat → Int32) (pp_size : Int32) (pp_codeSize : Int32) (pp_outs : Int32) (pp_used : Int32) (ppg : Nat → Option Nat) (ppk : Nat → Int32), SvF ppg s0 sv → Par (L_X3_takeBraced K cal_X3_takeStatements cal_X3_takeStatement cal_X3_takeIf cal_X3_takeLoop cal_X3_takeBraced n c l1 l2 LL sv ps_operands ps_cells tk_many tk_at tk_kind tk_value tk_place tkfk tkfv tkfp pp_size pp_codeSize pp_outs pp_used ppg ppk) (fun r => SvF ppg s0 r.2.1) := by
  intro n
  induction n with
  | zero => intros; exact Par.no
  | succ n ih =>
    intro c l1 l2 LL sv ps_operands ps_cells tk_many tk_at tk_kind tk_value tk_place tkfk tkfv tkfp pp_size pp_codeSize pp_outs pp_used ppg ppk  hs9
    by_cases e0 : c = 0
    · subst e0
      rw [L_X3_takeBraced_e0]; unfold B_X3_takeBraced_0
      repeat' (first
        | exact Par.no
        | (apply ih <;> repeat (first | assumption | apply SvF.up))
        | refine Par.bd (SF_X3_takeWholeSum K hK ppg s0 _ _ _ _ _ _ _ _ _ _ _ _ _ _ _ (by repeat (first | assumption | apply SvF.up)) (by repeat (first | assumption | apply SvF.up))) (fun o9 h9 => ?_)
        | refine Par.bd (SF_X3_takeNumber K hK ppg s0 _ _ _ _ _ _ _ _ _ _ _ _ (by repeat (first | assumption | apply SvF.up)) (by repeat (first | assumption | apply SvF.up))) (fun o9 h9 => ?_)
        | refine Par.bd (SF_X3_takeAssignment K hK ppg s0 _ _ _ _ _ _ _ _ _ _ _ _ _ _ _ _ (by repeat (first | assumption | apply SvF.up)) (by repeat (first | assumption | apply SvF.up))) (fun o9 h9 => ?_)
        | refine Par.bd (SF_X3_takeOut K hK ppg s0 _ _ _ _ _ _ _ _ _ _ _ _ _ _ _ _ (by repeat (first | assumption | apply SvF.up)) (by repeat (first | assumption | apply SvF.up))) (fun o9 h9 => ?_)
        | refine Par.bd (hX3_takeStatements _ _ _ _ _ _ _ _ _ _ _ _ _ _ _ _ _ _ _ _ (by repeat (first | assumption | apply SvF.up))) (fun o9 h9 => ?_)
        | refine Par.bd (hX3_takeStatement _ _ _ _ _ _ _ _ _ _ _ _ _ _ _ _ _ _ _ _ (by repeat (first | assumption | apply SvF.up))) (fun o9 h9 => ?_)
        | refine Par.bd (hX3_takeIf _ _ _ _ _ _ _ _ _ _ _ _ _ _ _ _ _ _ _ _ _ (by repeat (first | assumption | apply SvF.up)) (by repeat (first | assumption | apply SvF.up))) (fun o9 h9 => ?_)
        | refine Par.bd (hX3_takeLoop _ _ _ _ _ _ _ _ _ _ _ _ _ _ _ _ _ _ _ _ _ (by repeat (first | assumption | apply SvF.up)) (by repeat (first | assumption | apply SvF.up))) (fun o9 h9 => ?_)
        | refine Par.bd (hX3_takeBraced _ _ _ _ _ _ _ _ _ _ _ _ _ _ _ _ _ _ _ _ (by repeat (first | assumption | apply SvF.up))) (fun o9 h9 => ?_)
        | refine Par.br (fun _ => ?_) (fun _ => ?_)
        | exact Par.ret (by repeat (first | assumption | apply SvF.up))
        | refine Par.bd (P := fun _ => True) (fun _ _ => True.intro) (fun o9 _ => ?_))
    by_cases e1 : c = 1
    · subst e1
      rw [L_X3_takeBraced_e1]; unfold B_X3_takeBraced_1
      repeat' (first
        | exact Par.no
        | (apply ih <;> repeat (first | assumption | apply SvF.up))
        | refine Par.bd (SF_X3_takeWholeSum K hK ppg s0 _ _ _ _ _ _ _ _ _ _ _ _ _ _ _ (by repeat (first | assumption | apply SvF.up)) (by repeat (first | assumption | apply SvF.up))) (fun o9 h9 => ?_)
        | refine Par.bd (SF_X3_takeNumber K hK ppg s0 _ _ _ _ _ _ _ _ _ _ _ _ (by repeat (first | assumption | apply SvF.up)) (by repeat (first | assumption | apply SvF.up))) (fun o9 h9 => ?_)
        | refine Par.bd (SF_X3_takeAssignment K hK ppg s0 _ _ _ _ _ _ _ _ _ _ _ _ _ _ _ _ (by repeat (first | assumption | apply SvF.up)) (by repeat (first | assumption | apply SvF.up))) (fun o9 h9 => ?_)
        | refine Par.bd (SF_X3_takeOut K hK ppg s0 _ _ _ _ _ _ _ _ _ _ _ _ _ _ _ _ (by repeat (first | assumption | apply SvF.up)) (by repeat (first | assumption | apply SvF.up))) (fun o9 h9 => ?_)
        | refine Par.bd (hX3_takeStatements _ _ _ _ _ _ _ _ _ _ _ _ _ _ _ _ _ _ _ _ (by repeat (first | assumption | apply SvF.up))) (fun o9 h9 => ?_)
        | refine Par.bd (hX3_takeStatement _ _ _ _ _ _ _ _ _ _ _ _ _ _ _ _ _ _ _ _ (by repeat (first | assumption | apply SvF.up))) (fun o9 h9 => ?_)
        | refine Par.bd (hX3_takeIf _ _ _ _ _ _ _ _ _ _ _ _ _ _ _ _ _ _ _ _ _ (by repeat (first | assumption | apply SvF.up)) (by repeat (first | assumption | apply SvF.up))) (fun o9 h9 => ?_)
        | refine Par.bd (hX3_takeLoop _ _ _ _ _ _ _ _ _ _ _ _ _ _ _ _ _ _ _ _ _ (by repeat (first | assumption | apply SvF.up)) (by repeat (first | assumption | apply SvF.up))) (fun o9 h9 => ?_)
        | refine Par.bd (hX3_takeBraced _ _ _ _ _ _ _ _ _ _ _ _ _ _ _ _ _ _ _ _ (by repeat (first | assumption | apply SvF.up))) (fun o9 h9 => ?_)
        | refine Par.br (fun _ => ?_) (fun _ => ?_)
        | exact Par.ret (by repeat (first | assumption | apply SvF.up))
        | refine Par.bd (P := fun _ => True) (fun _ _ => True.intro) (fun o9 _ => ?_))
    · have : L_X3_takeBraced K cal_X3_takeStatements cal_X3_takeStatement cal_X3_takeIf cal_X3_takeLoop cal_X3_takeBraced (n + 1) c l1 l2 LL sv ps_operands ps_cells tk_many tk_at tk_kind tk_value tk_place tkfk tkfv tkfp pp_size pp_codeSize pp_outs pp_used ppg ppk = none := by
        match c, e0, e1 with
        | 0, e0, _ => exact absurd rfl e0
        | 1, _, e1 => exact absurd rfl e1
        | m + 2, _, _ => rfl
      rw [this]; exact Par.no
theorem SFD_stm (K : Nat) (hK : 1000000000 ≤ K) (s0 : Nat → Nat → Int32) : ∀ d : Nat, (∀ (l1 : Int32) (l2 : Int32) (LL : List Nat) (sv : Nat → Nat → Int32) (ps_operands : Int32) (ps_cells : Int32) (tk_many : Int32) (tk_at : Int32) (tk_kind : Int32) (tk_value : Int32) (tk_place : Int32) (tkfk : Nat → Int32) (tkfv : Nat → Int32) (tkfp : Nat → Int32) (pp_size : Int32) (pp_codeSize : Int32) (pp_outs : Int32) (pp_used : Int32) (ppg : Nat → Option Nat) (ppk : Nat → Int32), SvF ppg s0 sv → Par ((DD_stm K d).1 l1 l2 LL sv ps_operands ps_cells tk_many tk_at tk_kind tk_value tk_place tkfk tkfv tkfp pp_size pp_codeSize pp_outs pp_used ppg ppk) (fun r => SvF ppg s0 r.2.1)) ∧ (∀ (l1 : Int32) (l2 : Int32) (LL : List Nat) (sv : Nat → Nat → Int32) (ps_operands : Int32) (ps_cells : Int32) (tk_many : Int32) (tk_at : Int32) (tk_kind : Int32) (tk_value : Int32) (tk_place : Int32) (tkfk : Nat → Int32) (tkfv : Nat → Int32) (tkfp : Nat → Int32) (pp_size : Int32) (pp_codeSize : Int32) (pp_outs : Int32) (pp_used : Int32) (ppg : Nat → Option Nat) (ppk : Nat → Int32), SvF ppg s0 sv → Par ((DD_stm K d).2.1 l1 l2 LL sv ps_operands ps_cells tk_many tk_at tk_kind tk_value tk_place tkfk tkfv tkfp pp_size pp_codeSize pp_outs pp_used ppg ppk) (fun r => SvF ppg s0 r.2.1)) ∧ (∀ (a1 : Nat) (l2 : Int32) (l3 : Int32) (LL : List Nat) (sv : Nat → Nat → Int32) (ps_operands : Int32) (ps_cells : Int32) (tk_many : Int32) (tk_at : Int32) (tk_kind : Int32) (tk_value : Int32) (tk_place : Int32) (tkfk : Nat → Int32) (tkfv : Nat → Int32) (tkfp : Nat → Int32) (pp_size : Int32) (pp_codeSize : Int32) (pp_outs : Int32) (pp_used : Int32) (ppg : Nat → Option Nat) (ppk : Nat → Int32), InR ppg a1 → SvF ppg s0 sv → Par ((DD_stm K d).2.2.1 a1 l2 l3 LL sv ps_operands ps_cells tk_many tk_at tk_kind tk_value tk_place tkfk tkfv tkfp pp_size pp_codeSize pp_outs pp_used ppg ppk) (fun r => SvF ppg s0 r.2.1)) ∧ (∀ (a1 : Nat) (l2 : Int32) (l3 : Int32) (LL : List Nat) (sv : Nat → Nat → Int32) (ps_operands : Int32) (ps_cells : Int32) (tk_many : Int32) (tk_at : Int32) (tk_kind : Int32) (tk_value : Int32) (tk_place : Int32) (tkfk : Nat → Int32) (tkfv : Nat → Int32) (tkfp : Nat → Int32) (pp_size : Int32) (pp_codeSize : Int32) (pp_outs : Int32) (pp_used : Int32) (ppg : Nat → Option Nat) (ppk : Nat → Int32), InR ppg a1 → SvF ppg s0 sv → Par ((DD_stm K d).2.2.2.1 a1 l2 l3 LL sv ps_operands ps_cells tk_many tk_at tk_kind tk_value tk_place tkfk tkfv tkfp pp_size pp_codeSize pp_outs pp_used ppg ppk) (fun r => SvF ppg s0 r.2.1)) ∧ (∀ (l1 : Int32) (l2 : Int32) (LL : List Nat) (sv : Nat → Nat → Int32) (ps_operands : Int32) (ps_cells : Int32) (tk_many : Int32) (tk_at : Int32) (tk_kind : Int32) (tk_value : Int32) (tk_place : Int32) (tkfk : Nat → Int32) (tkfv : Nat → Int32) (tkfp : Nat → Int32) (pp_size : Int32) (pp_codeSize : Int32) (pp_outs : Int32) (pp_used : Int32) (ppg : Nat → Option Nat) (ppk : Nat → Int32), SvF ppg s0 sv → Par ((DD_stm K d).2.2.2.2 l1 l2 LL sv ps_operands ps_cells tk_many tk_at tk_kind tk_value tk_place tkfk tkfv tkfp pp_size pp_codeSize pp_outs pp_used ppg ppk) (fun r => SvF ppg s0 r.2.1)) := by
  intro d
  induction d with
  | zero => refine ⟨?_, ?_, ?_, ?_, ?_⟩ <;> (intros; exact Par.no)
  | succ d ih =>
    obtain ⟨i0, i1, i2, i3, i4⟩ := ih
    refine ⟨?_, ?_, ?_, ?_, ?_⟩
    · intro l1 l2 LL sv ps_operands ps_cells tk_many tk_at tk_kind tk_value tk_place tkfk tkfv tkfp pp_size pp_codeSize pp_outs pp_used ppg ppk b
      exact SFL_X3_takeStatements K hK s0 _ _ _ _ _ i0 i1 i2 i3 i4 K 0 l1 l2 0 LL sv ps_operands ps_cells tk_many tk_at tk_kind tk_value tk_place tkfk tkfv tkfp pp_size pp_codeSize pp_outs pp_used ppg ppk b
    · intro l1 l2 LL sv ps_operands ps_cells tk_many tk_at tk_kind tk_value tk_place tkfk tkfv tkfp pp_size pp_codeSize pp_outs pp_used ppg ppk b
      exact SFL_X3_takeStatement K hK s0 _ _ _ _ _ i0 i1 i2 i3 i4 K 0 l1 l2 0 0 0 LL sv ps_operands ps_cells tk_many tk_at tk_kind tk_value tk_place tkfk tkfv tkfp pp_size pp_codeSize pp_outs pp_used ppg ppk (Or.inl rfl) b
    · intro a1 l2 l3 LL sv ps_operands ps_cells tk_many tk_at tk_kind tk_value tk_place tkfk tkfv tkfp pp_size pp_codeSize pp_outs pp_used ppg ppk a b
      exact SFL_X3_takeIf K hK s0 _ _ _ _ _ i0 i1 i2 i3 i4 K 0 a1 l2 l3 LL sv ps_operands ps_cells tk_many tk_at tk_kind tk_value tk_place tkfk tkfv tkfp pp_size pp_codeSize pp_outs pp_used ppg ppk a b
    · intro a1 l2 l3 LL sv ps_operands ps_cells tk_many tk_at tk_kind tk_value tk_place tkfk tkfv tkfp pp_size pp_codeSize pp_outs pp_used ppg ppk a b
      exact SFL_X3_takeLoop K hK s0 _ _ _ _ _ i0 i1 i2 i3 i4 K 0 a1 l2 l3 LL sv ps_operands ps_cells tk_many tk_at tk_kind tk_value tk_place tkfk tkfv tkfp pp_size pp_codeSize pp_outs pp_used ppg ppk a b
    · intro l1 l2 LL sv ps_operands ps_cells tk_many tk_at tk_kind tk_value tk_place tkfk tkfv tkfp pp_size pp_codeSize pp_outs pp_used ppg ppk b
      exact SFL_X3_takeBraced K hK s0 _ _ _ _ _ i0 i1 i2 i3 i4 K 0 l1 l2 LL sv ps_operands ps_cells tk_many tk_at tk_kind tk_value tk_place tkfk tkfv tkfp pp_size pp_codeSize pp_outs pp_used ppg ppk b
theorem SF_X3_takeStatements (K : Nat) (hK : 1000000000 ≤ K) (s0 : Nat → Nat → Int32) (l1 : Int32) (l2 : Int32) (LL : List Nat) (sv : Nat → Nat → Int32) (ps_operands : Int32) (ps_cells : Int32) (tk_many : Int32) (tk_at : Int32) (tk_kind : Int32) (tk_value : Int32) (tk_place : Int32) (tkfk : Nat → Int32) (tkfv : Nat → Int32) (tkfp : Nat → Int32) (pp_size : Int32) (pp_codeSize : Int32) (pp_outs : Int32) (pp_used : Int32) (ppg : Nat → Option Nat) (ppk : Nat → Int32) (h2 : SvF ppg s0 sv) : Par (F_X3_takeStatements K l1 l2 LL sv ps_operands ps_cells tk_many tk_at tk_kind tk_value tk_place tkfk tkfv tkfp pp_size pp_codeSize pp_outs pp_used ppg ppk) (fun r => SvF ppg s0 r.2.1) := by
  unfold F_X3_takeStatements; exact (SFD_stm K hK s0 40).1 l1 l2 LL sv ps_operands ps_cells tk_many tk_at tk_kind tk_value tk_place tkfk tkfv tkfp pp_size pp_codeSize pp_outs pp_used ppg ppk h2
