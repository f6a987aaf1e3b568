/-! p3: the class's reading of statements goes with the machine of statements -/
abbrev R13 : Type := Int32 × (Nat → Nat → Int32) × Int32 × Int32 × Int32 × Int32 × Int32 × Int32 × Int32 × Int32 × Int32 × Int32 × (Nat → Int32)
abbrev CStT : Type := Int32 → Int32 → (List Nat) → (Nat → Nat → Int32) → Int32 → Int32 → Int32 → Int32 → Int32 → Int32 → Int32 → (Nat → Int32) → (Nat → Int32) → (Nat → Int32) → Int32 → Int32 → Int32 → Int32 → (Nat → Option Nat) → (Nat → Int32) → Option R13
def cn1 (D : List Int32) : Nat := (D.filter (fun x => decide (x = 1))).length
theorem cn1_0 (D : List Int32) (x : Int32) (h : x ≠ 1) : cn1 (D ++ [x]) = cn1 D := by unfold cn1; simp [List.filter_append, h]
theorem cn1_1 (D : List Int32) : cn1 (D ++ [1]) = cn1 D + 1 := by unfold cn1; simp [List.filter_append]
theorem cn1_le (D : List Int32) : cn1 D ≤ D.length := List.length_filter_le _ _
def SSt (mn : Int32) (fk fv : Nat → Int32) (D : List Int32) (j : Nat) (r : R13) : Prop :=
  CSt mn fk fv j r.2.2.2.2.1 r.2.2.2.2.2.1 r.2.2.2.2.2.2.1 r.2.2.2.2.2.2.2.1 r.2.2.2.2.2.2.2.2.2.1 ∧ (r.2.2.2.2.2.2.2.2.1).toInt = (D.length : Int) ∧ D.length ≤ 30 ∧ (r.2.2.2.2.2.2.2.2.2.2.1).toInt = (cn1 D : Int)
def StsP (mn : Int32) (fk fv : Nat → Int32) (D : List Int32) (b : Nat) (j : Nat) (r : R13) : Prop :=
  (r.1 = 0 ∧ ∀ S : List (Nat × Bool), S.length = b → Fl2 fk fv (D, S, j)) ∨ (r.1 = 1 ∧ ∃ (X : List Int32) (j' : Nat), SSt mn fk fv (D ++ X) j' r ∧ ¬ begK (fk j') ∧ ∀ S : List (Nat × Bool), S.length = b → Rc2 fk fv (D, S, j) (D ++ X, S, j'))
def StnP (mn : Int32) (fk fv : Nat → Int32) (D : List Int32) (b : Nat) (j : Nat) (r : R13) : Prop :=
  (r.1 = 0 ∧ ∀ S : List (Nat × Bool), S.length = b → Fl2 fk fv (D, S, j)) ∨ (r.1 = 1 ∧ ∃ (X : List Int32) (j' : Nat), SSt mn fk fv (D ++ X) j' r ∧ 0 < X.length ∧ ∀ S : List (Nat × Bool), S.length = b → Rc2 fk fv (D, S, j) (D ++ X, S, j'))
def BrcP (mn : Int32) (fk fv : Nat → Int32) (D : List Int32) (b : Nat) (j : Nat) (r : R13) : Prop :=
  (r.1 = 0 ∧ (¬ (fk j = 123 ∧ b < 6) ∨ ((fk j = 123 ∧ b < 6) ∧ ∀ (i : Nat) (p : Bool) (S : List (Nat × Bool)), S.length = b → Fl2 fk fv (D, (i, p) :: S, j + 1)))) ∨
  (r.1 = 1 ∧ (fk j = 123 ∧ b < 6) ∧ ∃ (X : List Int32) (j' : Nat), fk j' = 125 ∧ SSt mn fk fv (D ++ X) (j' + 1) r ∧ ∀ (i : Nat) (p : Bool) (S : List (Nat × Bool)), S.length = b → Rc2 fk fv (D, (i, p) :: S, j + 1) (D ++ X, (i, p) :: S, j'))
def SpS (cal : CStT) : Prop := ∀ (l1 l2 : Int32) (LL : List Nat) (sv : Nat → Nat → Int32) (ops cl mn at_ kd vl pl : Int32) (fk fv fp : Nat → Int32) (sz cs ou us : Int32) (ppg : Nat → Option Nat) (ppk : Nat → Int32) (D : List Int32) (b : Nat) (j : Nat), STRq mn fk fv fp → CSt mn fk fv j at_ kd vl pl cs → l2.toInt = (b : Int) → b ≤ 6 → sz.toInt = (D.length : Int) → D.length ≤ 30 → ou.toInt = (cn1 D : Int) →
  Par (cal l1 l2 LL sv ops cl mn at_ kd vl pl fk fv fp sz cs ou us ppg ppk) (StsP mn fk fv D b j)
def SpT (cal : CStT) : Prop := ∀ (l1 l2 : Int32) (LL : List Nat) (sv : Nat → Nat → Int32) (ops cl mn at_ kd vl pl : Int32) (fk fv fp : Nat → Int32) (sz cs ou us : Int32) (ppg : Nat → Option Nat) (ppk : Nat → Int32) (D : List Int32) (b : Nat) (j : Nat), STRq mn fk fv fp → CSt mn fk fv j at_ kd vl pl cs → l2.toInt = (b : Int) → b ≤ 6 → sz.toInt = (D.length : Int) → D.length < 30 → ou.toInt = (cn1 D : Int) → begK (fk j) →
  Par (cal l1 l2 LL sv ops cl mn at_ kd vl pl fk fv fp sz cs ou us ppg ppk) (StnP mn fk fv D b j)
def SpI (kk : Int32) (cal : Nat → CStT) : Prop := ∀ (a1 : Nat) (l2 l3 : Int32) (LL : List Nat) (sv : Nat → Nat → Int32) (ops cl mn at_ kd vl pl : Int32) (fk fv fp : Nat → Int32) (sz cs ou us : Int32) (ppg : Nat → Option Nat) (ppk : Nat → Int32) (D : List Int32) (b : Nat) (j : Nat), STRq mn fk fv fp → CSt mn fk fv j at_ kd vl pl cs → l3.toInt = (b : Int) → b ≤ 6 → sz.toInt = (D.length : Int) + 1 → D.length < 30 → ou.toInt = (cn1 D : Int) → fk j = kk →
  Par (cal a1 l2 l3 LL sv ops cl mn at_ kd vl pl fk fv fp sz cs ou us ppg ppk) (StnP mn fk fv D b j)
def SpB (cal : CStT) : Prop := ∀ (l1 l2 : Int32) (LL : List Nat) (sv : Nat → Nat → Int32) (ops cl mn at_ kd vl pl : Int32) (fk fv fp : Nat → Int32) (sz cs ou us : Int32) (ppg : Nat → Option Nat) (ppk : Nat → Int32) (D : List Int32) (b : Nat) (j : Nat), STRq mn fk fv fp → CSt mn fk fv j at_ kd vl pl cs → l2.toInt = (b : Int) → b ≤ 6 → sz.toInt = (D.length : Int) → D.length ≤ 30 → ou.toInt = (cn1 D : Int) →
  Par (cal l1 l2 LL sv ops cl mn at_ kd vl pl fk fv fp sz cs ou us ppg ppk) (BrcP mn fk fv D b j)
theorem E_X3_wholeSum (K : Nat) (hK : 1000000000 ≤ K) (a1 : Nat) (LL : List Nat) (sv : Nat → Nat → Int32) (ops cl mn at_ kd vl pl : Int32) (fk fv fp : Nat → Int32) (cs : Int32) (f : Nat → Int32) (j : Nat) (hSt : STRq mn fk fv fp) (hCs : CSt mn fk fv j at_ kd vl pl cs) :
    Par (F_X3_takeWholeSum K a1 LL sv ops cl mn at_ kd vl pl fk fv fp cs f) (fun r => (r.1 = 0 ∧ Fls fk fv (true, [], 0, 0, j, [])) ∨ (r.1 = 1 ∧ ∃ (e : List Int32) (j' : Nat), Hlt fk fv (true, [], 0, 0, j, []) (j', e) ∧ CSt mn fk fv j' r.2.2.2.2.1 r.2.2.2.2.2.1 r.2.2.2.2.2.2.1 r.2.2.2.2.2.2.2.1 r.2.2.2.2.2.2.2.2.1)) := by
  unfold F_X3_takeWholeSum
  obtain ⟨n, rfl⟩ : ∃ n9, K = n9 + 1 := ⟨K - 1, by omega⟩
  rw [L_X3_takeWholeSum_e0]; unfold B_X3_takeWholeSum_0
  refine Par.br (fun _ => ?_) (fun _ => Par.no)
  refine Par.bd (Q_X3_whole _ hK 0 mn at_ kd vl pl fk fv fp cs f j hSt hCs) (fun q hq => ?_)
  refine Par.br (fun _ => Par.ret ?_) (fun _ => Par.no)
  rcases hq with ⟨h1, h2⟩ | ⟨h1, e, lv', j', h2, h3, h4⟩
  · exact Or.inl ⟨h1, h2⟩
  · exact Or.inr ⟨h1, e, j', h4, h2.2.2.1⟩
theorem E_X3_takeNumber (K : Nat) (hK : 1000000000 ≤ K) (a1 : Nat) (l2 : Int32) (LL : List Nat) (sv : Nat → Nat → Int32) (mn at_ kd vl pl : Int32) (fk fv fp : Nat → Int32) (cs : Int32) (j : Nat) (hSt : STRq mn fk fv fp) (hCs : CSt mn fk fv j at_ kd vl pl cs) :
    Par (F_X3_takeNumber K a1 l2 LL sv mn at_ kd vl pl fk fv fp) (fun r => (r.1 = 0 ∧ ¬ (fk j = 3 ∧ fv j ≤ l2)) ∨ (r.1 = 1 ∧ (fk j = 3 ∧ fv j ≤ l2) ∧ CSt mn fk fv (j + 1) r.2.2.1 r.2.2.2.1 r.2.2.2.2.1 r.2.2.2.2.2 cs)) := by
  unfold F_X3_takeNumber
  have hv : vl = fv j := hCs.2.2.2.1
  have h1 : ∀ n q s b1 b2 b3 b4, Par (L_X3_takeNumber K n 1 a1 q LL s mn b1 b2 b3 b4 fk fv fp) (fun r => r.1 = 0) := by
    intro n; intros
    cases n with
    | zero => exact Par.no
    | succ n => rw [L_X3_takeNumber_e1]; unfold B_X3_takeNumber_1; exact Par.br (fun _ => Par.ret rfl) (fun _ => Par.no)
  obtain ⟨n, hn⟩ : ∃ n9, K = n9 + 1 := ⟨K - 1, by omega⟩
  generalize hz : L_X3_takeNumber K K 0 a1 l2 LL sv mn at_ kd vl pl fk fv fp = z
  have hz2 : z = L_X3_takeNumber K (n + 1) 0 a1 l2 LL sv mn at_ kd vl pl fk fv fp := by rw [← hn, hz]
  rw [hz2, L_X3_takeNumber_e0]; unfold B_X3_takeNumber_0
  refine Par.br (fun _ => ?_) (fun _ => Par.no)
  refine Par.br (fun h => ?_) (fun h => ?_)
  · refine (h1 _ _ _ _ _ _ _).mono (fun r hr => Or.inl ⟨hr, fun h9 => ?_⟩)
    rw [hv, Int32.lt_iff_toInt_lt] at h
    have := h9.2
    rw [Int32.le_iff_toInt_le] at this
    omega
  · refine Par.bd (E_X3_take K hK 3 mn at_ kd vl pl fk fv fp j cs hSt hCs (by decide)) (fun q hq => ?_)
    rcases hq with ⟨e1, e2⟩ | ⟨e1, e2, e3⟩
    · refine Par.yes e1 ?_
      exact (h1 _ _ _ _ _ _ _).mono (fun r hr => Or.inl ⟨hr, fun h9 => e2 h9.1⟩)
    · refine Par.not (by rw [e1]; decide) (Par.ret (Or.inr ⟨rfl, ⟨e2, ?_⟩, e3⟩))
      rw [hv, Int32.lt_iff_toInt_lt] at h
      rw [Int32.le_iff_toInt_le]
      omega
abbrev R11 : Type := Int32 × (Nat → Nat → Int32) × Int32 × Int32 × Int32 × Int32 × Int32 × Int32 × Int32 × Int32 × (Nat → Int32)
theorem E_X3_takeAssignment (K : Nat) (hK : 1000000000 ≤ K) (a1 : Nat) (LL : List Nat) (sv : Nat → Nat → Int32) (ops cl mn at_ kd vl pl : Int32) (fk fv fp : Nat → Int32) (cs us : Int32) (f : Nat → Int32) (j : Nat) (D : List Int32) (hSt : STRq mn fk fv fp) (hCs : CSt mn fk fv j at_ kd vl pl cs) (hk : fk j = 2) (hD : D.length < 30) :
    Par (F_X3_takeAssignment K a1 LL sv ops cl mn at_ kd vl pl fk fv fp cs us f) (fun r => (r.1 = 0 ∧ ∀ S : List (Nat × Bool), Fl2 fk fv (D, S, j)) ∨ (r.1 = 1 ∧ ∃ j' : Nat, CSt mn fk fv j' r.2.2.2.2.1 r.2.2.2.2.2.1 r.2.2.2.2.2.2.1 r.2.2.2.2.2.2.2.1 r.2.2.2.2.2.2.2.2.1 ∧ ∀ S : List (Nat × Bool), Rc2 fk fv (D, S, j) (D ++ [0], S, j'))) := by
  unfold F_X3_takeAssignment
  have h1 : ∀ n s b1 b2 b3 b4 b5 b6 b7 b8 b9, Par (L_X3_takeAssignment K n 1 a1 LL s b1 b2 mn b3 b4 b5 b6 fk fv fp b7 b8 b9) (fun r => r.1 = 0) := by
    intro n; intros
    cases n with
    | zero => exact Par.no
    | succ n => rw [L_X3_takeAssignment_e1]; unfold B_X3_takeAssignment_1; exact Par.br (fun _ => Par.ret rfl) (fun _ => Par.no)
  obtain ⟨n, hn⟩ : ∃ n9, K = n9 + 1 := ⟨K - 1, by omega⟩
  generalize hz : L_X3_takeAssignment K K 0 a1 LL sv ops cl mn at_ kd vl pl fk fv fp cs us f = z
  have hz2 : z = L_X3_takeAssignment K (n + 1) 0 a1 LL sv ops cl mn at_ kd vl pl fk fv fp cs us f := by rw [← hn, hz]
  rw [hz2, L_X3_takeAssignment_e0]; unfold B_X3_takeAssignment_0
  refine Par.br (fun _ => ?_) (fun _ => Par.no)
  obtain ⟨ha, hj, hkk, hv, hc0, hc1⟩ := hCs
  refine Par.bd (E_X7_advance K hK mn at_ kd vl pl fk fv fp j hSt ha hj (by rw [hk]; decide)) (fun q hq => ?_)
  have hC1 : CSt mn fk fv (j + 1) q.1 q.2.1 q.2.2.1 q.2.2.2 cs := ⟨hq.1, hq.2.1, hq.2.2.1, hq.2.2.2, hc0, by omega⟩
  refine Par.bd (E_X3_take K hK 61 mn _ _ _ _ fk fv fp (j + 1) cs hSt hC1 (by decide)) (fun p hp => ?_)
  rcases hp with ⟨e1, e2⟩ | ⟨e1, e2, e3⟩
  · refine Par.yes e1 ?_
    exact (h1 _ _ _ _ _ _ _ _ _ _ _).mono (fun r hr => Or.inl ⟨hr, fun _ => s_set1 hk hD e2⟩)
  · refine Par.not (by rw [e1]; decide) ?_
    refine Par.bd (E_X3_wholeSum K hK a1 LL _ ops cl mn _ _ _ _ fk fv fp cs f (j + 2) hSt e3) (fun w hw => ?_)
    rcases hw with ⟨g1, g2⟩ | ⟨g1, e, j', g2, g3⟩
    · refine Par.yes g1 ?_
      exact (h1 _ _ _ _ _ _ _ _ _ _ _).mono (fun r hr => Or.inl ⟨hr, fun _ => s_set2 hk hD e2 g2⟩)
    · refine Par.not (by rw [g1]; decide) ?_
      refine Par.bd (E_X3_take K hK 59 mn _ _ _ _ fk fv fp j' _ hSt g3 (by decide)) (fun p2 hp2 => ?_)
      rcases hp2 with ⟨i1, i2⟩ | ⟨i1, i2, i3⟩
      · refine Par.yes i1 ?_
        exact (h1 _ _ _ _ _ _ _ _ _ _ _).mono (fun r hr => Or.inl ⟨hr, fun _ => s_set3 hk hD e2 g2 i2⟩)
      · refine Par.not (by rw [i1]; decide) (Par.ret (Or.inr ⟨rfl, j' + 1, i3, fun _ => s_set hk hD e2 g2 i2⟩))
theorem E_X3_takeOut (K : Nat) (hK : 1000000000 ≤ K) (a1 : Nat) (LL : List Nat) (sv : Nat → Nat → Int32) (ops cl mn at_ kd vl pl : Int32) (fk fv fp : Nat → Int32) (cs ou : Int32) (f : Nat → Int32) (j : Nat) (D : List Int32) (hSt : STRq mn fk fv fp) (hCs : CSt mn fk fv j at_ kd vl pl cs) (hk : fk j = 4) (hD : D.length < 30) (ho : ou.toInt = (cn1 D : Int)) :
    Par (F_X3_takeOut K a1 LL sv ops cl mn at_ kd vl pl fk fv fp cs ou f) (fun r => (r.1 = 0 ∧ ∀ S : List (Nat × Bool), Fl2 fk fv (D, S, j)) ∨ (r.1 = 1 ∧ ∃ j' : Nat, CSt mn fk fv j' r.2.2.2.2.1 r.2.2.2.2.2.1 r.2.2.2.2.2.2.1 r.2.2.2.2.2.2.2.1 r.2.2.2.2.2.2.2.2.1 ∧ (r.2.2.2.2.2.2.2.2.2.1).toInt = (cn1 (D ++ [1]) : Int) ∧ ∀ S : List (Nat × Bool), Rc2 fk fv (D, S, j) (D ++ [1], S, j'))) := by
  unfold F_X3_takeOut
  have h1 : ∀ n s b1 b2 b3 b4 b5 b6 b7 b8 b9, Par (L_X3_takeOut K n 1 a1 LL s b1 b2 mn b3 b4 b5 b6 fk fv fp b7 b8 b9) (fun r => r.1 = 0) := by
    intro n; intros
    cases n with
    | zero => exact Par.no
    | succ n => rw [L_X3_takeOut_e1]; unfold B_X3_takeOut_1; exact Par.br (fun _ => Par.ret rfl) (fun _ => Par.no)
  obtain ⟨n, hn⟩ : ∃ n9, K = n9 + 1 := ⟨K - 1, by omega⟩
  generalize hz : L_X3_takeOut K K 0 a1 LL sv ops cl mn at_ kd vl pl fk fv fp cs ou f = z
  have hz2 : z = L_X3_takeOut K (n + 1) 0 a1 LL sv ops cl mn at_ kd vl pl fk fv fp cs ou f := by rw [← hn, hz]
  rw [hz2, L_X3_takeOut_e0]; unfold B_X3_takeOut_0
  refine Par.br (fun _ => ?_) (fun _ => Par.no)
  obtain ⟨ha, hj, hkk, hv, hc0, hc1⟩ := hCs
  refine Par.bd (E_X7_advance K hK mn at_ kd vl pl fk fv fp j hSt ha hj (by rw [hk]; decide)) (fun q hq => ?_)
  have hC1 : CSt mn fk fv (j + 1) q.1 q.2.1 q.2.2.1 q.2.2.2 cs := ⟨hq.1, hq.2.1, hq.2.2.1, hq.2.2.2, hc0, by omega⟩
  refine Par.bd (E_X3_takeNumber K hK a1 3 LL _ mn _ _ _ _ fk fv fp cs (j + 1) hSt hC1) (fun p hp => ?_)
  rcases hp with ⟨e1, e2⟩ | ⟨e1, e2, e3⟩
  · refine Par.yes e1 ?_
    exact (h1 _ _ _ _ _ _ _ _ _ _ _).mono (fun r hr => Or.inl ⟨hr, fun _ => s_out1 hk hD e2⟩)
  · refine Par.not (by rw [e1]; decide) ?_
    refine Par.bd (E_X3_wholeSum K hK a1 LL _ ops cl mn _ _ _ _ fk fv fp cs f (j + 2) hSt e3) (fun w hw => ?_)
    rcases hw with ⟨g1, g2⟩ | ⟨g1, e, j', g2, g3⟩
    · refine Par.yes g1 ?_
      exact (h1 _ _ _ _ _ _ _ _ _ _ _).mono (fun r hr => Or.inl ⟨hr, fun _ => s_out2 hk hD e2 g2⟩)
    · refine Par.not (by rw [g1]; decide) ?_
      refine Par.bd (E_X3_take K hK 59 mn _ _ _ _ fk fv fp j' _ hSt g3 (by decide)) (fun p2 hp2 => ?_)
      rcases hp2 with ⟨i1, i2⟩ | ⟨i1, i2, i3⟩
      · refine Par.yes i1 ?_
        exact (h1 _ _ _ _ _ _ _ _ _ _ _).mono (fun r hr => Or.inl ⟨hr, fun _ => s_out3 hk hD e2 g2 i2⟩)
      · refine Par.not (by rw [i1]; decide) (Par.ret (Or.inr ⟨rfl, j' + 1, i3, ?_, fun _ => s_out hk hD e2 g2 i2⟩))
        show (ou + 1).toInt = _
        have hcl := cn1_le D
        rw [ad1 ou (cn1 D) ho (by omega), cn1_1]
