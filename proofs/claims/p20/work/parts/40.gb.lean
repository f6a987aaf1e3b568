/-! p3: the class's reading of sums goes with the machine of sums -/
def STRq (mn : Int32) (fk fv fp : Nat → Int32) : Prop :=
  1 ≤ mn.toInt ∧ mn.toInt ≤ 301 ∧ (∀ j : Nat, (j : Int) + 1 < mn.toInt → fk j ≠ 0) ∧ (∀ j : Nat, (j : Int) + 1 = mn.toInt → fk j = 0) ∧ (∀ j : Nat, (j : Int) < mn.toInt → (0 ≤ (fv j).toInt ∧ (fv j).toInt ≤ 9 ∧ (fk j = 2 → (fv j).toInt ≤ 5) ∧ 0 ≤ (fp j).toInt))
def CSt (mn : Int32) (fk fv : Nat → Int32) (j : Nat) (at_ kd vl pl cs : Int32) : Prop :=
  at_.toInt = (j : Int) ∧ ((j : Int) < mn.toInt ∧ 0 ≤ pl.toInt) ∧ kd = fk j ∧ vl = fv j ∧ 0 ≤ cs.toInt ∧ cs.toInt ≤ (j : Int)
theorem STRq.go {mn pl : Int32} {fk fv fp : Nat → Int32} (h : STRq mn fk fv fp) {j : Nat} (hj : (j : Int) < mn.toInt ∧ 0 ≤ pl.toInt) (hk : fk j ≠ 0) : (j : Int) + 1 < mn.toInt := by
  by_cases h2 : (j : Int) + 1 < mn.toInt
  · exact h2
  · exact absurd (h.2.2.2.1 j (by omega)) hk
theorem E_X7_advance (K : Nat) (hK : 1000000000 ≤ K) (mn at_ kd vl pl : Int32) (fk fv fp : Nat → Int32) (j : Nat) (hS : STRq mn fk fv fp) (ha : at_.toInt = (j : Int)) (hj : (j : Int) < mn.toInt ∧ 0 ≤ pl.toInt) (hk : fk j ≠ 0) :
    Par (F_X7_advance K mn at_ kd vl pl fk fv fp) (fun r => r.1.toInt = ((j + 1 : Nat) : Int) ∧ (((j + 1 : Nat) : Int) < mn.toInt ∧ 0 ≤ r.2.2.2.toInt) ∧ r.2.1 = fk (j + 1) ∧ r.2.2.1 = fv (j + 1)) := by
  have hgo := hS.go hj hk
  have hm := hS.2.1
  have h1 : (at_ + 1).toInt = ((j + 1 : Nat) : Int) := ad1 at_ j ha (by omega)
  have h2 : (at_ + 1).toNatClampNeg = j + 1 := cl1 _ _ h1
  unfold F_X7_advance
  obtain ⟨n, rfl⟩ : ∃ n9, K = n9 + 1 := ⟨K - 1, by omega⟩
  rw [L_X7_advance_e0]; unfold B_X7_advance_0
  refine Par.yes (by rw [Int32.lt_iff_toInt_lt, h1]; omega) ?_
  refine Par.br (fun _ => ?_) (fun _ => Par.no)
  refine Par.br (fun _ => ?_) (fun _ => Par.no)
  refine Par.br (fun _ => ?_) (fun _ => Par.no)
  refine Par.ret ⟨h1, ⟨by omega, ?_⟩, ?_, ?_⟩
  · show 0 ≤ (fp (at_ + 1).toNatClampNeg).toInt
    rw [h2]
    exact (hS.2.2.2.2 (j + 1) (by omega)).2.2.2
  · show fk (at_ + 1).toNatClampNeg = _
    rw [h2]
  · show fv (at_ + 1).toNatClampNeg = _
    rw [h2]
theorem E_X4_emit (K : Nat) (hK : 1000000000 ≤ K) (op cs : Int32) (f : Nat → Int32) (h0 : 0 ≤ cs.toInt) (h1 : cs.toInt < 300) :
    Par (F_X4_emit K op cs f) (fun r => r.1.toInt = cs.toInt + 1 ∧ r.2 = upd f cs.toNatClampNeg op) := by
  unfold F_X4_emit
  obtain ⟨n, rfl⟩ : ∃ n9, K = n9 + 1 := ⟨K - 1, by omega⟩
  rw [L_X4_emit_e0]; unfold B_X4_emit_0
  refine Par.not (by rw [Int32.le_iff_toInt_le]; simp only [Int32.reduceToInt]; omega) ?_
  refine Par.br (fun _ => ?_) (fun _ => Par.no)
  refine Par.ret ⟨?_, rfl⟩
  show (cs + 1).toInt = _
  simp only [Int32.toInt_add, Int32.reduceToInt]
  rw [bmI (by omega) (by omega)]
theorem E_X3_take (K : Nat) (hK : 1000000000 ≤ K) (kd9 mn at_ kd vl pl : Int32) (fk fv fp : Nat → Int32) (j : Nat) (cs : Int32) (hS : STRq mn fk fv fp) (hC : CSt mn fk fv j at_ kd vl pl cs) (h9 : kd9 ≠ 0) :
    Par (F_X3_take K kd9 mn at_ kd vl pl fk fv fp) (fun r => (r.1 = 0 ∧ fk j ≠ kd9) ∨ (r.1 = 1 ∧ fk j = kd9 ∧ CSt mn fk fv (j + 1) r.2.1 r.2.2.1 r.2.2.2.1 r.2.2.2.2 cs)) := by
  obtain ⟨ha, hj, hk, hv, hc0, hc1⟩ := hC
  unfold F_X3_take
  obtain ⟨n, rfl⟩ : ∃ n9, K = n9 + 1 := ⟨K - 1, by omega⟩
  rw [L_X3_take_e0]; unfold B_X3_take_0
  refine Par.br (fun h => ?_) (fun h => ?_)
  · have hk9 : fk j = kd9 := by rw [← hk]; exact h
    refine Par.bd (E_X7_advance _ hK mn at_ kd vl pl fk fv fp j hS ha hj (by rw [hk9]; exact h9)) (fun r hr => ?_)
    exact Par.ret (Or.inr ⟨rfl, hk9, hr.1, hr.2.1, hr.2.2.1, hr.2.2.2, hc0, by omega⟩)
  · exact Par.ret (Or.inl ⟨rfl, by rw [← hk]; exact h⟩)
theorem E_X3_takeOperand (K : Nat) (hK : 1000000000 ≤ K) (op ops mn at_ kd vl pl : Int32) (fk fv fp : Nat → Int32) (cs : Int32) (f : Nat → Int32) (j : Nat) (x : Int32) (hS : STRq mn fk fv fp) (hC : CSt mn fk fv j at_ kd vl pl cs) (hk : fk j ≠ 0) (hx : op = encc x) (ho : 0 ≤ ops.toInt ∧ ops.toInt ≤ 24) :
    Par (F_X3_takeOperand K op ops mn at_ kd vl pl fk fv fp cs f) (fun r => (r.1 = 0 ∧ 24 ≤ ops.toInt) ∨ (r.1 = 1 ∧ ops.toInt < 24 ∧ r.2.1.toInt = ops.toInt + 1 ∧ CSt mn fk fv (j + 1) r.2.2.1 r.2.2.2.1 r.2.2.2.2.1 r.2.2.2.2.2.1 r.2.2.2.2.2.2.1 ∧ EMt cs f r.2.2.2.2.2.2.1 r.2.2.2.2.2.2.2 [x])) := by
  obtain ⟨ha, hj, hkk, hv, hc0, hc1⟩ := hC
  have hgo := hS.go hj hk
  have hm := hS.2.1
  unfold F_X3_takeOperand
  obtain ⟨n, rfl⟩ : ∃ n9, K = n9 + 1 := ⟨K - 1, by omega⟩
  rw [L_X3_takeOperand_e0]; unfold B_X3_takeOperand_0
  refine Par.br (fun h => ?_) (fun h => ?_)
  · rw [Int32.lt_iff_toInt_lt] at h
    simp only [Int32.reduceToInt] at h
    refine Par.bd (E_X4_emit _ hK op cs f hc0 (by omega)) (fun r hr => ?_)
    refine Par.bd (E_X7_advance _ hK mn at_ kd vl pl fk fv fp j hS ha hj hk) (fun q hq => ?_)
    refine Par.ret (Or.inr ⟨rfl, h, ?_, ⟨hq.1, hq.2.1, hq.2.2.1, hq.2.2.2, ?_, ?_⟩, ?_⟩)
    · show (ops + 1).toInt = _
      simp only [Int32.toInt_add, Int32.reduceToInt]
      rw [bmI (by omega) (by omega)]
    · show 0 ≤ r.1.toInt
      omega
    · show r.1.toInt ≤ _
      omega
    · show EMt cs f r.1 r.2 [x]
      rw [hr.2]
      exact EMt.one hc0 hr.1 hx
  · rw [Int32.lt_iff_toInt_lt] at h
    simp only [Int32.reduceToInt] at h
    exact Par.ret (Or.inl ⟨rfl, by omega⟩)
abbrev R9t : Type := Int32 × Int32 × Int32 × Int32 × Int32 × Int32 × Int32 × Int32 × (Nat → Int32)
/-- what a taken piece of a sum leaves: e came to the code, j' is the token at hand -/
def SOkq (mn : Int32) (fk fv : Nat → Int32) (j : Nat) (cl cs : Int32) (f : Nat → Int32) (r : R9t) (e : List Int32) (lv' j' : Nat) : Prop :=
  r.2.1.toInt = (lv' : Int) ∧ lv' ≤ 24 ∧ CSt mn fk fv j' r.2.2.2.1 r.2.2.2.2.1 r.2.2.2.2.2.1 r.2.2.2.2.2.2.1 r.2.2.2.2.2.2.2.1 ∧ EMt cs f r.2.2.2.2.2.2.2.1 r.2.2.2.2.2.2.2.2 e ∧ j + e.length ≤ j' ∧ r.2.2.1 = CMk e cl
def FacP (mn : Int32) (fk fv : Nat → Int32) (o : Int) (lv j : Nat) (cl cs : Int32) (f : Nat → Int32) (r : R9t) : Prop :=
  (r.1 = 0 ∧ ∀ S out, Fls fk fv (true, S, o, lv, j, out)) ∨
  (r.1 = 1 ∧ ∃ (e : List Int32) (lv' j' : Nat), SOkq mn fk fv j cl cs f r e lv' j' ∧ j < j' ∧ ∀ S out, Rch fk fv (true, S, o, lv, j, out) (pnC S o lv' j' (out ++ e)))
def PenP (c : Nat) (mn : Int32) (fk fv : Nat → Int32) (o : Int) (lv j : Nat) (cl cs : Int32) (f : Nat → Int32) (r : R9t) : Prop :=
  (r.1 = 0 ∧ ∀ S out, TopLt c S → Fls fk fv (true, S, o, lv, j, out)) ∨
  (r.1 = 1 ∧ ∃ (e : List Int32) (lv' j' : Nat), SOkq mn fk fv j cl cs f r e lv' j' ∧ j < j' ∧ clo (fk j') < c ∧ ∀ S out, TopLt c S → ∃ Q out1, (∀ x ∈ Q, c ≤ clo x) ∧ out1 ++ Q = out ++ e ∧ Rch fk fv (true, S, o, lv, j, out) (false, Q ++ S, o, lv', j', out1))
def CmpP (mn : Int32) (fk fv : Nat → Int32) (o : Int) (lv j : Nat) (cl cs : Int32) (f : Nat → Int32) (r : R9t) : Prop :=
  (r.1 = 0 ∧ ∀ S Q out, (∀ x ∈ Q, 2 ≤ clo x) → Fls fk fv (false, Q ++ 40 :: S, o, lv, j, out)) ∨
  (r.1 = 1 ∧ ∃ (e : List Int32) (lv' j' : Nat), SOkq mn fk fv j cl cs f r e lv' j' ∧ ∀ S Q out, (∀ x ∈ Q, 2 ≤ clo x) → ∃ Q' out1, (∀ x ∈ Q', 0 < clo x) ∧ out1 ++ Q' = out ++ Q ++ e ∧ Rch fk fv (false, Q ++ 40 :: S, o, lv, j, out) (false, Q' ++ 40 :: S, o, lv', j', out1) ∧ ¬ (1 < clo (fk j') ∨ (clo (fk j') = 1 ∧ mayC (Q' ++ 40 :: S) = true)))
def SpF (P : Int32 → (Nat → Int32) → (Nat → Int32) → Int → Nat → Nat → Int32 → Int32 → (Nat → Int32) → R9t → Prop) (pre : (Nat → Int32) → Nat → Prop)
    (cal : Int32 → Int32 → Int32 → Int32 → Int32 → Int32 → Int32 → Int32 → (Nat → Int32) → (Nat → Int32) → (Nat → Int32) → Int32 → (Nat → Int32) → Option R9t) : Prop :=
  ∀ (l1 ops cl mn at_ kd vl pl : Int32) (fk fv fp : Nat → Int32) (cs : Int32) (f : Nat → Int32) (o : Int) (lv j : Nat), STRq mn fk fv fp → CSt mn fk fv j at_ kd vl pl cs → l1.toInt = o → 0 ≤ o → o ≤ 8 → ops.toInt = (lv : Int) → lv ≤ 24 → pre fk j →
    Par (cal l1 ops cl mn at_ kd vl pl fk fv fp cs f) (P mn fk fv o lv j cl cs f)
