/-! the class: tokens, statements, the table -/
/-! the class: the pool of statements, tokens, the table of heaps -/
def PIv (LL : List Nat) (sv : Nat → Nat → Int32) : Prop := ∀ a ∈ LL, 0 ≤ (sv a 4).toInt ∧ 0 ≤ (sv a 7).toInt ∧ (0 ≤ (sv a 1).toInt ∧ (sv a 1).toInt ≤ 9) ∧ ((sv a 0).toInt = 0 → (sv a 1).toInt ≤ 5)
def PGv (LL : List Nat) (pg : Nat → Option Nat) : Prop := ∀ i : Nat, i < 30 → ∃ a, pg i = some a ∧ a ∈ LL
theorem Tot.pg {α : Type} {Q : α → Prop} {LL : List Nat} {pg : Nat → Option Nat} {i : Int32} {f : Nat → Option α} (h : PGv LL pg) (h0 : 0 ≤ i.toInt ∧ i.toInt < 30) (k : ∀ a : Nat, pg i.toNatClampNeg = some a → a ∈ LL → Tot (f a) Q) : Tot ((pg i.toNatClampNeg).bind (fun a => if a ∈ LL then f a else none)) Q := by
  have c := clampI h0.1
  obtain ⟨a, e, ha⟩ := h i.toNatClampNeg (by omega)
  have k2 := k a e ha
  rw [e]
  show Tot (if a ∈ LL then f a else none) Q
  rw [if_pos ha]; exact k2
section PV
variable {LL : List Nat} {sv : Nat → Nat → Int32} {a : Nat} {v : Int32}
theorem sU_at (k : Nat) : sU sv a k v a k = v := by simp [sU]
theorem sU_of {b k j : Nat} (h : b ≠ a ∨ j ≠ k) : sU sv a k v b j = sv b j := by
  unfold sU
  split
  · split
    · omega
    · rfl
  · rfl
/-- fields that nothing hangs on -/
theorem PIv.free (h : PIv LL sv) {k : Nat} (hk : k ≠ 0 ∧ k ≠ 1 ∧ k ≠ 4 ∧ k ≠ 7) : PIv LL (sU sv a k v) := fun b hb => by
  rw [sU_of (Or.inr (by omega)), sU_of (Or.inr (by omega)), sU_of (Or.inr (by omega)), sU_of (Or.inr (by omega))]; exact h b hb
theorem PIv.f4 (h : PIv LL sv) (hv : 0 ≤ v.toInt) : PIv LL (sU sv a 4 v) := fun b hb => by
  rw [sU_of (j := 7) (Or.inr (by omega)), sU_of (j := 1) (Or.inr (by omega)), sU_of (j := 0) (Or.inr (by omega))]
  obtain ⟨h1, h2, h3, h4⟩ := h b hb
  refine ⟨?_, h2, h3, h4⟩
  by_cases z : b = a
  · subst z; rw [sU_at]; exact hv
  · rw [sU_of (Or.inl z)]; exact h1
theorem PIv.f7 (h : PIv LL sv) (hv : 0 ≤ v.toInt) : PIv LL (sU sv a 7 v) := fun b hb => by
  rw [sU_of (j := 4) (Or.inr (by omega)), sU_of (j := 1) (Or.inr (by omega)), sU_of (j := 0) (Or.inr (by omega))]
  obtain ⟨h1, h2, h3, h4⟩ := h b hb
  refine ⟨h1, ?_, h3, h4⟩
  by_cases z : b = a
  · subst z; rw [sU_at]; exact hv
  · rw [sU_of (Or.inl z)]; exact h2
/-- the kind: of an assignment only where its cell is one -/
theorem PIv.f0 (h : PIv LL sv) (hv : v.toInt ≠ 0 ∨ (sv a 1).toInt ≤ 5) : PIv LL (sU sv a 0 v) := fun b hb => by
  rw [sU_of (j := 4) (Or.inr (by omega)), sU_of (j := 7) (Or.inr (by omega)), sU_of (j := 1) (Or.inr (by omega))]
  obtain ⟨h1, h2, h3, h4⟩ := h b hb
  refine ⟨h1, h2, h3, fun q => ?_⟩
  by_cases z : b = a
  · subst z; rw [sU_at] at q; exact hv.resolve_left (by omega)
  · rw [sU_of (Or.inl z)] at q; exact h4 q
theorem PIv.f1 (h : PIv LL sv) (h0 : 0 ≤ v.toInt) (h9 : v.toInt ≤ 9) (hv : (sv a 0).toInt ≠ 0 ∨ v.toInt ≤ 5) : PIv LL (sU sv a 1 v) := fun b hb => by
  rw [sU_of (j := 4) (Or.inr (by omega)), sU_of (j := 7) (Or.inr (by omega)), sU_of (j := 0) (Or.inr (by omega))]
  obtain ⟨h1, h2, h3, h4⟩ := h b hb
  by_cases z : b = a
  · subst z; rw [sU_at]; exact ⟨h1, h2, ⟨h0, h9⟩, fun q => hv.resolve_left (by omega)⟩
  · rw [sU_of (Or.inl z)]; exact ⟨h1, h2, h3, h4⟩
theorem PIv.reset (h : PIv LL sv) {w : Int32} : PIv LL (sU (sU (sU (sU (sU (sU (sU (sU (sU sv a 0 0) a 1 0) a 2 0) a 3 w) a 4 0) a 5 0) a 6 0) a 7 0) a 8 0) := fun b hb => by
  obtain ⟨h1, h2, h3, h4⟩ := h b hb
  by_cases z : b = a
  · subst z; simp [sU]
  · simp [sU, z]; exact ⟨h1, h2, h3, h4⟩
end PV
/-! tokens -/
def TKa (mn : Int32) (fk fv : Nat → Int32) : Prop := (0 ≤ mn.toInt ∧ mn.toInt ≤ 301) ∧ ∀ i : Nat, (i : Int) < mn.toInt → 0 ≤ (fv i).toInt ∧ (fv i).toInt ≤ 9 ∧ ((fk i).toInt = 2 → (fv i).toInt ≤ 5)
def TKc (k v : Int32) : Prop := 0 ≤ v.toInt ∧ v.toInt ≤ 9 ∧ (k.toInt = 2 → v.toInt ≤ 5)
def TKs (mn at_ k v : Int32) (fk fv : Nat → Int32) : Prop := TKa mn fk fv ∧ (-1 ≤ at_.toInt ∧ at_.toInt ≤ 301) ∧ TKc k v
theorem TKa.at {mn i : Int32} {fk fv : Nat → Int32} (h : TKa mn fk fv) (h0 : 0 ≤ i.toInt) (h1 : i.toInt < mn.toInt) : TKc (fk i.toNatClampNeg) (fv i.toNatClampNeg) := by
  have c := clampI h0
  exact h.2 _ (by omega)
theorem TKa.add {mn k v : Int32} {fk fv : Nat → Int32} (h : TKa mn fk fv) (h1 : mn.toInt < 301) (hc : TKc k v) : TKa (mn + 1) (upd fk mn.toNatClampNeg k) (upd fv mn.toNatClampNeg v) := by
  have h0 := h.1.1
  have c := clampI h0
  have e : (mn + 1).toInt = mn.toInt + 1 := by simp only [Int32.toInt_add, Int32.reduceToInt, Int.bmod]; omega
  refine ⟨by omega, fun i hi => ?_⟩
  by_cases z : i = mn.toNatClampNeg
  · subst z; rw [upd_eq, upd_eq]; exact hc
  · rw [upd_ne _ _ z, upd_ne _ _ z]; exact h.2 i (by omega)
/-! the table of heaps -/
def TBv (sm mn : Int32) (go : Nat → Int32) : Prop := (0 ≤ sm.toInt ∧ sm.toInt ≤ 8191) ∧ (0 ≤ mn.toInt ∧ mn.toInt ≤ 4096) ∧ ∀ i : Nat, i < 8192 → 0 ≤ (go i).toInt ∧ (go i).toInt ≤ 4096
theorem TBv.mk {sm mn : Int32} {go : Nat → Int32} (h1 : 0 ≤ sm.toInt ∧ sm.toInt ≤ 8191) (h2 : 0 ≤ mn.toInt ∧ mn.toInt ≤ 4096) (h3 : ∀ i : Nat, i < 8192 → 0 ≤ (go i).toInt ∧ (go i).toInt ≤ 4096) : TBv sm mn go := ⟨h1, h2, h3⟩
theorem TBv.at {sm mn i : Int32} {go : Nat → Int32} (h : TBv sm mn go) (h0 : 0 ≤ i.toInt) (h1 : i.toInt < 8192) : 0 ≤ (go i.toNatClampNeg).toInt ∧ (go i.toNatClampNeg).toInt ≤ 4096 := by
  have c := clampI h0
  exact h.2.2 _ (by omega)
theorem goU {go : Nat → Int32} (h : ∀ i : Nat, i < 8192 → 0 ≤ (go i).toInt ∧ (go i).toInt ≤ 4096) {x v : Int32} (h0 : 0 ≤ v.toInt) (h1 : v.toInt ≤ 4096) : ∀ i : Nat, i < 8192 → 0 ≤ (upd go x.toNatClampNeg v i).toInt ∧ (upd go x.toNatClampNeg v i).toInt ≤ 4096 := fun i hi => by
  by_cases z : i = x.toNatClampNeg
  · subst z; rw [upd_eq]; exact ⟨h0, h1⟩
  · rw [upd_ne _ _ z]; exact h i hi
/-! bits -/
theorem bc12 {j : Nat} (h : j < 4096) : (match F_J6_bitCount_0f7a4 1 (nI j) with | some r => decide (0 ≤ r.toInt ∧ r.toInt ≤ 12) | none => false) = true :=
  co_dec (N := 4096) (P := fun j => (match F_J6_bitCount_0f7a4 1 (nI j) with | some r => decide (0 ≤ r.toInt ∧ r.toInt ≤ 12) | none => false) = true) (by decide +kernel) h
theorem nI4 {x : Int32} (h0 : 0 ≤ x.toInt) (h1 : x.toInt ≤ 4095) : ∃ j : Nat, j < 4096 ∧ x = nI j := by
  obtain ⟨j, hj, e⟩ := nI_of2 (x := x) (n := 4095) (M := 4095) (by decide) (by simp only [Int32.lt_iff_toInt_lt, Int32.reduceToInt]; omega) (by simp only [Int32.le_iff_toInt_le, Int32.reduceToInt]; omega)
  exact ⟨j, by omega, e⟩
theorem int13 {c : Int32} (h0 : 0 ≤ c.toInt) (h1 : c.toInt ≤ 12) : 1 ≤ ((1 : Int32) <<< (c &&& 31)).toInt ∧ ((1 : Int32) <<< (c &&& 31)).toInt ≤ 4096 := by
  have : c = 0 ∨ c = 1 ∨ c = 2 ∨ c = 3 ∨ c = 4 ∨ c = 5 ∨ c = 6 ∨ c = 7 ∨ c = 8 ∨ c = 9 ∨ c = 10 ∨ c = 11 ∨ c = 12 := by
    simp only [← Int32.toInt_inj, Int32.reduceToInt]; omega
  rcases this with rfl | rfl | rfl | rfl | rfl | rfl | rfl | rfl | rfl | rfl | rfl | rfl | rfl <;> decide
theorem or32 (x y : Int32) (k : Nat) (hk : k < 31) (hx : 0 ≤ x.toInt ∧ x.toInt < 2 ^ k) (hy : 0 ≤ y.toInt ∧ y.toInt < 2 ^ k) : 0 ≤ (x ||| y).toInt ∧ (x ||| y).toInt < 2 ^ k := by
  have e1 : (x ||| y).toInt = (x.toBitVec ||| y.toBitVec).toInt := rfl
  have e2 : x.toInt = x.toBitVec.toInt := rfl
  have e3 : y.toInt = y.toBitVec.toInt := rfl
  rw [e2] at hx
  rw [e3] at hy
  rw [e1]
  rw [BitVec.toInt_eq_toNat_cond] at hx hy ⊢
  have lx := x.toBitVec.isLt
  have ly := y.toBitVec.isLt
  have p2 : (2 : Int) ^ k = ((2 ^ k : Nat) : Int) := by simp
  have hlt : (2 : Nat) ^ k ≤ 2 ^ 30 := Nat.pow_le_pow_right (by decide) (by omega)
  rw [p2] at hx hy ⊢
  have nx : x.toBitVec.toNat < 2 ^ k := by split at hx <;> omega
  have ny : y.toBitVec.toNat < 2 ^ k := by split at hy <;> omega
  have hn : (x.toBitVec ||| y.toBitVec).toNat < 2 ^ k := by rw [BitVec.toNat_or]; exact Nat.or_lt_two_pow nx ny
  rw [if_pos (by omega)]
  omega
theorem mask12 (x : Int32) : 0 ≤ (x &&& 4095).toInt ∧ (x &&& 4095).toInt < 4096 := by
  have := and32 x 4095 (by decide)
  have e : (4095 : Int32).toInt = 4095 := by decide
  omega
theorem mask12' (x : Int32) : 0 ≤ (4095 &&& x).toInt ∧ (4095 &&& x).toInt ≤ 4095 := by
  rw [Int32.and_comm]
  have := mask12 x
  omega
theorem andL {x y : Int32} (h0 : 0 ≤ x.toInt) (h1 : x.toInt ≤ 4095) : 0 ≤ (x &&& y).toInt ∧ (x &&& y).toInt ≤ 4095 := by
  rw [Int32.and_comm]
  have := and32 y x h0
  omega
theorem viewIx {e k : Int32} (h0 : 0 ≤ e.toInt) (h1 : e.toInt ≤ 3) (k0 : 0 ≤ k.toInt ∧ k.toInt < 4096) : 0 ≤ ((e <<< ((12 : Int32) &&& 31)) ||| k).toInt ∧ ((e <<< ((12 : Int32) &&& 31)) ||| k).toInt < 16384 := by
  have he : 0 ≤ (e <<< ((12 : Int32) &&& 31)).toInt ∧ (e <<< ((12 : Int32) &&& 31)).toInt < 2 ^ 14 := by
    rcases int4 h0 h1 with rfl | rfl | rfl | rfl <;> decide
  have := or32 (e <<< ((12 : Int32) &&& 31)) k 14 (by decide) he ⟨k0.1, by omega⟩
  omega
theorem and3r (z : Int32) : 0 ≤ (z &&& 3).toInt ∧ (z &&& 3).toInt ≤ 3 := by
  have := and32 z 3 (by decide)
  have e : (3 : Int32).toInt = 3 := by decide
  omega
theorem cellBits {c : Int32} (h0 : 0 ≤ c.toInt) (h1 : c.toInt < 6) : 0 ≤ ((3 : Int32) <<< ((2 * c) &&& 31)).toInt ∧ ((3 : Int32) <<< ((2 * c) &&& 31)).toInt < 2 ^ 12 := by
  rcases int7 h0 (by omega) with rfl | rfl | rfl | rfl | rfl | rfl | rfl
  all_goals first | (exfalso; revert h1; decide) | decide
/-! the class: reading -/
def CSz (cs : Int32) : Prop := 0 ≤ cs.toInt ∧ cs.toInt ≤ 300
def PSz (sz : Int32) : Prop := 0 ≤ sz.toInt ∧ sz.toInt ≤ 30
def Bo (r : Int32) : Prop := r = 0 ∨ r = 1
theorem TKs.v {mn at_ k v : Int32} {fk fv : Nat → Int32} (h : TKs mn at_ k v fk fv) : 0 ≤ v.toInt ∧ v.toInt ≤ 9 ∧ (k.toInt = 2 → v.toInt ≤ 5) := h.2.2
theorem PIv.num {LL : List Nat} {sv : Nat → Nat → Int32} {a : Nat} {mn at_ k v : Int32} {fk fv : Nat → Int32} (h : PIv LL sv) (hk : (sv a 0).toInt ≠ 0) (ht : TKs mn at_ k v fk fv) : PIv LL (sU sv a 1 v) := h.f1 ht.v.1 ht.v.2.1 (Or.inl hk)
theorem PIv.asg {LL : List Nat} {sv : Nat → Nat → Int32} {a : Nat} {mn at_ k v : Int32} {fk fv : Nat → Int32} (h : PIv LL sv) (h1 : (sv a 1).toInt ≤ 5) (ht : TKs mn at_ k v fk fv) (hk : k.toInt = 2) : PIv LL (sU (sU sv a 0 0) a 1 v) := (h.f0 (Or.inr h1)).f1 ht.v.1 ht.v.2.1 (Or.inr (ht.v.2.2 hk))
theorem PIv.sum {LL : List Nat} {sv : Nat → Nat → Int32} {a : Nat} {c v w : Int32} (h : PIv LL sv) (hc : CSz c) : PIv LL (sU (sU (sU sv a 4 c) a 5 v) a 6 w) := ((h.f4 hc.1).free (by decide)).free (by decide)
theorem PIv.mid {LL : List Nat} {sv : Nat → Nat → Int32} {a : Nat} {c : Int32} (h : PIv LL sv) (hc : PSz c) : PIv LL (sU sv a 7 c) := h.f7 hc.1
theorem sU01 {sv : Nat → Nat → Int32} {a k : Nat} {v w : Int32} (hk : k ≠ 0) (hv : v.toInt ≠ 0) : ((sU (sU sv a 0 v) a k w) a 0).toInt ≠ 0 := by
  rw [sU_of (Or.inr (by omega)), sU_at]; exact hv
theorem sU00 {sv : Nat → Nat → Int32} {a : Nat} {v : Int32} (hv : v.toInt ≠ 0) : ((sU sv a 0 v) a 0).toInt ≠ 0 := by
  rw [sU_at]; exact hv
set_option maxHeartbeats 400000 in
set_option maxRecDepth 100000 in
theorem T_X9_isCell (K : Nat) (hK : 1000000000 ≤ K) (l0_ : Int32) (hpre : True) : Tot (F_X9_isCell K l0_) (fun r => (r = 1 ∧ 0 ≤ l0_.toInt ∧ l0_.toInt ≤ 5) ∨ (r = 0 ∧ (l0_.toInt < 0 ∨ 5 < l0_.toInt))) := by
  unfold F_X9_isCell
  obtain ⟨n, hn⟩ : ∃ n9, K = n9 + 8 := ⟨K - 8, by omega⟩
  have hn2 : 999999000 ≤ n := by omega
  suffices hs : Tot (L_X9_isCell K  (n + 8) 0 l0_) (fun r => (r = 1 ∧ 0 ≤ l0_.toInt ∧ l0_.toInt ≤ 5) ∨ (r = 0 ∧ (l0_.toInt < 0 ∨ 5 < l0_.toInt))) from by rw [← hn] at hs; exact hs
  rw [L_X9_isCell_e0]; unfold B_X9_isCell_0; try simp only [subOne]
  repeat' (first | with_reducible refine Tot.ret ?_ | with_reducible refine Tot.ix ?_ ?_ | with_reducible refine Tot.yesB (by decide) ?_ | with_reducible refine Tot.noB (by decide) ?_ | with_reducible refine Tot.yes ?_ ?_ | with_reducible refine Tot.br (fun _ => ?_) (fun _ => ?_) | (rw [L_X9_isCell_e0]; unfold B_X9_isCell_0; try simp only [subOne]) | (rw [L_X9_isCell_e1]; unfold B_X9_isCell_1; try simp only [subOne]))
  all_goals (first | exact True.intro | omega | (((try simp only [ne_eq, true_and, and_true, true_or, or_true, false_or, or_false, not_true_eq_false, not_false_eq_true, false_and, and_false, Int32.lt_iff_toInt_lt, Int32.le_iff_toInt_le, ← Int32.toInt_inj, Int32.toInt_add, Int32.toInt_sub, Int32.toInt_mul, Int32.reduceToInt, ge_iff_le, gt_iff_lt, upd_eq, upd_upd] at *) <;> (try simp (disch := omega) only [bmI] at *)) <;> (first | omega | ((try simp only [Int.bmod] at *) <;> omega) | (simp_all <;> fail))))
set_option maxHeartbeats 400000 in
set_option maxRecDepth 100000 in
theorem T_X9_isLevel (K : Nat) (hK : 1000000000 ≤ K) (l0_ : Int32) (hpre : True) : Tot (F_X9_isLevel K l0_) (fun r => (r = 1 ∧ 0 ≤ l0_.toInt ∧ l0_.toInt ≤ 3) ∨ (r = 0 ∧ (l0_.toInt < 0 ∨ 3 < l0_.toInt))) := by
  unfold F_X9_isLevel
  obtain ⟨n, hn⟩ : ∃ n9, K = n9 + 8 := ⟨K - 8, by omega⟩
  have hn2 : 999999000 ≤ n := by omega
  suffices hs : Tot (L_X9_isLevel K  (n + 8) 0 l0_) (fun r => (r = 1 ∧ 0 ≤ l0_.toInt ∧ l0_.toInt ≤ 3) ∨ (r = 0 ∧ (l0_.toInt < 0 ∨ 3 < l0_.toInt))) from by rw [← hn] at hs; exact hs
  rw [L_X9_isLevel_e0]; unfold B_X9_isLevel_0; try simp only [subOne]
  repeat' (first | with_reducible refine Tot.ret ?_ | with_reducible refine Tot.ix ?_ ?_ | with_reducible refine Tot.yesB (by decide) ?_ | with_reducible refine Tot.noB (by decide) ?_ | with_reducible refine Tot.yes ?_ ?_ | with_reducible refine Tot.br (fun _ => ?_) (fun _ => ?_) | (rw [L_X9_isLevel_e0]; unfold B_X9_isLevel_0; try simp only [subOne]) | (rw [L_X9_isLevel_e1]; unfold B_X9_isLevel_1; try simp only [subOne]))
  all_goals (first | exact True.intro | omega | (((try simp only [ne_eq, true_and, and_true, true_or, or_true, false_or, or_false, not_true_eq_false, not_false_eq_true, false_and, and_false, Int32.lt_iff_toInt_lt, Int32.le_iff_toInt_le, ← Int32.toInt_inj, Int32.toInt_add, Int32.toInt_sub, Int32.toInt_mul, Int32.reduceToInt, ge_iff_le, gt_iff_lt, upd_eq, upd_upd] at *) <;> (try simp (disch := omega) only [bmI] at *)) <;> (first | omega | ((try simp only [Int.bmod] at *) <;> omega) | (simp_all <;> fail))))
set_option maxHeartbeats 400000 in
set_option maxRecDepth 100000 in
theorem T_X9_isFlag (K : Nat) (hK : 1000000000 ≤ K) (l0_ : Int32) (hpre : True) : Tot (F_X9_isFlag K l0_) (fun r => (r = 1 ∧ 0 ≤ l0_.toInt ∧ l0_.toInt ≤ 1) ∨ r = 0) := by
  unfold F_X9_isFlag
  obtain ⟨n, hn⟩ : ∃ n9, K = n9 + 8 := ⟨K - 8, by omega⟩
  have hn2 : 999999000 ≤ n := by omega
  suffices hs : Tot (L_X9_isFlag K  (n + 8) 0 l0_) (fun r => (r = 1 ∧ 0 ≤ l0_.toInt ∧ l0_.toInt ≤ 1) ∨ r = 0) from by rw [← hn] at hs; exact hs
  rw [L_X9_isFlag_e0]; unfold B_X9_isFlag_0; try simp only [subOne]
  repeat' (first | with_reducible refine Tot.ret ?_ | with_reducible refine Tot.ix ?_ ?_ | with_reducible refine Tot.yesB (by decide) ?_ | with_reducible refine Tot.noB (by decide) ?_ | with_reducible refine Tot.yes ?_ ?_ | with_reducible refine Tot.br (fun _ => ?_) (fun _ => ?_) | (rw [L_X9_isFlag_e0]; unfold B_X9_isFlag_0; try simp only [subOne]) | (rw [L_X9_isFlag_e1]; unfold B_X9_isFlag_1; try simp only [subOne]))
  all_goals (first | exact True.intro | omega | (((try simp only [ne_eq, true_and, and_true, true_or, or_true, false_or, or_false, not_true_eq_false, not_false_eq_true, false_and, and_false, Int32.lt_iff_toInt_lt, Int32.le_iff_toInt_le, ← Int32.toInt_inj, Int32.toInt_add, Int32.toInt_sub, Int32.toInt_mul, Int32.reduceToInt, ge_iff_le, gt_iff_lt, upd_eq, upd_upd] at *) <;> (try simp (disch := omega) only [bmI] at *)) <;> (first | omega | ((try simp only [Int.bmod] at *) <;> omega) | (simp_all <;> fail))))
set_option maxHeartbeats 400000 in
set_option maxRecDepth 100000 in
theorem T_X9_isWatched (K : Nat) (hK : 1000000000 ≤ K) (l0_ : Int32) (l1_ : Int32) (l2_ : Int32) (hpre : True) : Tot (F_X9_isWatched K l0_ l1_ l2_) (fun r => (r = 1 ∧ 0 ≤ l0_.toInt ∧ l0_.toInt ≤ 3) ∨ r = 0) := by
  unfold F_X9_isWatched
  obtain ⟨n, hn⟩ : ∃ n9, K = n9 + 8 := ⟨K - 8, by omega⟩
  have hn2 : 999999000 ≤ n := by omega
  suffices hs : Tot (L_X9_isWatched K  (n + 8) 0 l0_ l1_ l2_) (fun r => (r = 1 ∧ 0 ≤ l0_.toInt ∧ l0_.toInt ≤ 3) ∨ r = 0) from by rw [← hn] at hs; exact hs
  rw [L_X9_isWatched_e0]; unfold B_X9_isWatched_0; try simp only [subOne]
  repeat' (first | with_reducible refine Tot.ret ?_ | with_reducible refine Tot.ix ?_ ?_ | with_reducible refine Tot.yesB (by decide) ?_ | with_reducible refine Tot.noB (by decide) ?_ | with_reducible refine Tot.yes ?_ ?_ | with_reducible refine Tot.br (fun _ => ?_) (fun _ => ?_) | with_reducible refine Tot.bd (T_X9_isLevel K hK _ ?_) (fun _ _ => ?_) | with_reducible refine Tot.bd (T_X9_isFlag K hK _ ?_) (fun _ _ => ?_) | (rw [L_X9_isWatched_e0]; unfold B_X9_isWatched_0; try simp only [subOne]) | (rw [L_X9_isWatched_e1]; unfold B_X9_isWatched_1; try simp only [subOne]))
  all_goals (first | exact True.intro | omega | (((try simp only [ne_eq, true_and, and_true, true_or, or_true, false_or, or_false, not_true_eq_false, not_false_eq_true, false_and, and_false, Int32.lt_iff_toInt_lt, Int32.le_iff_toInt_le, ← Int32.toInt_inj, Int32.toInt_add, Int32.toInt_sub, Int32.toInt_mul, Int32.reduceToInt, ge_iff_le, gt_iff_lt, upd_eq, upd_upd] at *) <;> (try simp (disch := omega) only [bmI] at *)) <;> (first | omega | ((try simp only [Int.bmod] at *) <;> omega) | (simp_all <;> fail))))
set_option maxHeartbeats 400000 in
set_option maxRecDepth 100000 in
theorem T_X9_isWithin (K : Nat) (hK : 1000000000 ≤ K) (l0_ : Int32) (l1_ : Int32) (hpre : True) : Tot (F_X9_isWithin K l0_ l1_) (fun r => r = 0 ∨ r = 1) := by
  unfold F_X9_isWithin
  obtain ⟨n, hn⟩ : ∃ n9, K = n9 + 8 := ⟨K - 8, by omega⟩
  have hn2 : 999999000 ≤ n := by omega
  suffices hs : Tot (L_X9_isWithin K  (n + 8) 0 l0_ l1_) (fun r => r = 0 ∨ r = 1) from by rw [← hn] at hs; exact hs
  rw [L_X9_isWithin_e0]; unfold B_X9_isWithin_0; try simp only [subOne]
  repeat' (first | with_reducible refine Tot.ret ?_ | with_reducible refine Tot.ix ?_ ?_ | with_reducible refine Tot.yesB (by decide) ?_ | with_reducible refine Tot.noB (by decide) ?_ | with_reducible refine Tot.yes ?_ ?_ | with_reducible refine Tot.br (fun _ => ?_) (fun _ => ?_) | (rw [L_X9_isWithin_e0]; unfold B_X9_isWithin_0; try simp only [subOne]))
  all_goals (first | exact True.intro | omega | (((try simp only [ne_eq, true_and, and_true, true_or, or_true, false_or, or_false, not_true_eq_false, not_false_eq_true, false_and, and_false, Int32.lt_iff_toInt_lt, Int32.le_iff_toInt_le, ← Int32.toInt_inj, Int32.toInt_add, Int32.toInt_sub, Int32.toInt_mul, Int32.reduceToInt, ge_iff_le, gt_iff_lt, upd_eq, upd_upd] at *) <;> (try simp (disch := omega) only [bmI] at *)) <;> (first | omega | ((try simp only [Int.bmod] at *) <;> omega) | (simp_all <;> fail))))
set_option maxHeartbeats 400000 in
set_option maxRecDepth 100000 in
theorem T_J6_bitCount_0f7a4 (K : Nat) (hK : 1000000000 ≤ K) (l0_ : Int32) (hpre : True) : Tot (F_J6_bitCount_0f7a4 K l0_) (fun r => 0 ≤ l0_.toInt → l0_.toInt ≤ 4095 → 0 ≤ r.toInt ∧ r.toInt ≤ 12) := by
  unfold F_J6_bitCount_0f7a4
  obtain ⟨n, hn⟩ : ∃ n9, K = n9 + 8 := ⟨K - 8, by omega⟩
  have hn2 : 999999000 ≤ n := by omega
  suffices hs : Tot (L_J6_bitCount_0f7a4 K  (n + 8) 0 l0_) (fun r => 0 ≤ l0_.toInt → l0_.toInt ≤ 4095 → 0 ≤ r.toInt ∧ r.toInt ≤ 12) from by rw [← hn] at hs; exact hs
  have hbc : 0 ≤ l0_.toInt → l0_.toInt ≤ 4095 → _ := fun h0 h1 => (by obtain ⟨j, hj, e⟩ := nI4 h0 h1; have := bc12 hj; rw [← e] at this; exact this : (match F_J6_bitCount_0f7a4 1 l0_ with | some r => decide (0 ≤ r.toInt ∧ r.toInt ≤ 12) | none => false) = true)
  unfold F_J6_bitCount_0f7a4 at hbc
  rw [L_J6_bitCount_0f7a4_e0] at hbc
  unfold B_J6_bitCount_0f7a4_0 at hbc
  rw [L_J6_bitCount_0f7a4_e0]; unfold B_J6_bitCount_0f7a4_0; try simp only [subOne]
  repeat' (first | with_reducible refine Tot.ret ?_ | with_reducible refine Tot.ix ?_ ?_ | with_reducible refine Tot.yesB (by decide) ?_ | with_reducible refine Tot.noB (by decide) ?_ | with_reducible refine Tot.yes ?_ ?_ | with_reducible refine Tot.br (fun _ => ?_) (fun _ => ?_) | (rw [L_J6_bitCount_0f7a4_e0]; unfold B_J6_bitCount_0f7a4_0; try simp only [subOne]))
  all_goals (exact fun h0 h1 => of_decide_eq_true (hbc h0 h1))
set_option maxHeartbeats 400000 in
set_option maxRecDepth 100000 in
theorem T_X9_numbersOf (K : Nat) (hK : 1000000000 ≤ K) (l0_ : Int32) (hpre : 0 ≤ l0_.toInt ∧ l0_.toInt ≤ 4095) : Tot (F_X9_numbersOf K l0_) (fun r => 1 ≤ r.toInt ∧ r.toInt ≤ 4096) := by
  unfold F_X9_numbersOf
  obtain ⟨n, hn⟩ : ∃ n9, K = n9 + 8 := ⟨K - 8, by omega⟩
  have hn2 : 999999000 ≤ n := by omega
  suffices hs : Tot (L_X9_numbersOf K  (n + 8) 0 l0_) (fun r => 1 ≤ r.toInt ∧ r.toInt ≤ 4096) from by rw [← hn] at hs; exact hs
  rw [L_X9_numbersOf_e0]; unfold B_X9_numbersOf_0; try simp only [subOne]
  repeat' (first | with_reducible refine Tot.ret ?_ | with_reducible refine Tot.ix ?_ ?_ | with_reducible refine Tot.yesB (by decide) ?_ | with_reducible refine Tot.noB (by decide) ?_ | with_reducible refine Tot.yes ?_ ?_ | with_reducible refine Tot.br (fun _ => ?_) (fun _ => ?_) | with_reducible refine Tot.bd (T_J6_bitCount_0f7a4 K hK _ ?_) (fun _ _ => ?_) | (rw [L_X9_numbersOf_e0]; unfold B_X9_numbersOf_0; try simp only [subOne]))
  all_goals (first | (rename_i hq; have h9 := hq hpre.1 hpre.2; exact int13 h9.1 h9.2) | (first | exact True.intro | omega | (((try simp only [ne_eq, true_and, and_true, true_or, or_true, false_or, or_false, not_true_eq_false, not_false_eq_true, false_and, and_false, Int32.lt_iff_toInt_lt, Int32.le_iff_toInt_le, ← Int32.toInt_inj, Int32.toInt_add, Int32.toInt_sub, Int32.toInt_mul, Int32.reduceToInt, ge_iff_le, gt_iff_lt, upd_eq, upd_upd] at *) <;> (try simp (disch := omega) only [bmI] at *)) <;> (first | omega | ((try simp only [Int.bmod] at *) <;> omega) | (simp_all <;> fail)))))
set_option maxHeartbeats 400000 in
set_option maxRecDepth 100000 in
theorem T_X9_isPacked (K : Nat) (hK : 1000000000 ≤ K) (l0_ : Int32) (l1_ : Int32) (hpre : 0 ≤ l1_.toInt ∧ l1_.toInt ≤ 4095) : Tot (F_X9_isPacked K l0_ l1_) (fun r => r = 0 ∨ r = 1) := by
  unfold F_X9_isPacked
  obtain ⟨n, hn⟩ : ∃ n9, K = n9 + 8 := ⟨K - 8, by omega⟩
  have hn2 : 999999000 ≤ n := by omega
  suffices hs : Tot (L_X9_isPacked K  (n + 8) 0 l0_ l1_) (fun r => r = 0 ∨ r = 1) from by rw [← hn] at hs; exact hs
  rw [L_X9_isPacked_e0]; unfold B_X9_isPacked_0; try simp only [subOne]
  repeat' (first | with_reducible refine Tot.ret ?_ | with_reducible refine Tot.ix ?_ ?_ | with_reducible refine Tot.yesB (by decide) ?_ | with_reducible refine Tot.noB (by decide) ?_ | with_reducible refine Tot.yes ?_ ?_ | with_reducible refine Tot.br (fun _ => ?_) (fun _ => ?_) | with_reducible refine Tot.bd (T_X9_numbersOf K hK _ ?_) (fun _ _ => ?_) | (rw [L_X9_isPacked_e0]; unfold B_X9_isPacked_0; try simp only [subOne]) | (rw [L_X9_isPacked_e1]; unfold B_X9_isPacked_1; try simp only [subOne]))
  all_goals (first | exact True.intro | omega | (((try simp only [ne_eq, true_and, and_true, true_or, or_true, false_or, or_false, not_true_eq_false, not_false_eq_true, false_and, and_false, Int32.lt_iff_toInt_lt, Int32.le_iff_toInt_le, ← Int32.toInt_inj, Int32.toInt_add, Int32.toInt_sub, Int32.toInt_mul, Int32.reduceToInt, ge_iff_le, gt_iff_lt, upd_eq, upd_upd] at *) <;> (try simp (disch := omega) only [bmI] at *)) <;> (first | omega | ((try simp only [Int.bmod] at *) <;> omega) | (simp_all <;> fail))))
set_option maxHeartbeats 400000 in
set_option maxRecDepth 100000 in
theorem T_X9_spread (K : Nat) (hK : 1000000000 ≤ K) (l0_ : Int32) (l1_ : Int32) (hpre : True) : Tot (F_X9_spread K l0_ l1_) (fun r => True) := by
  have key : ∀ N : Nat, (∀ (l0 : Int32) (l1 : Int32) (l2 : Int32) (l3 : Int32) (l4 : Int32), (0 ≤ l4.toInt ∧ l4.toInt ≤ 13) → (13 - l4.toInt).toNat < N → ∀ n : Nat, 8 * ((13 - l4.toInt).toNat + 1) ≤ n → Tot (L_X9_spread K  n 1 l0 l1 l2 l3 l4) (fun r => True)) := by
    intro N
    induction N with
    | zero => exact fun _ _ _ _ _ _ hm => absurd hm (Nat.not_lt_zero _)
    | succ N ih =>
      have ih1 := ih; clear ih
      · intro l0 l1 l2 l3 l4 hI hm n hn
        obtain ⟨n, rfl⟩ : ∃ n9, n = n9 + 8 := ⟨n - 8, by omega⟩
        rw [L_X9_spread_e1]; unfold B_X9_spread_1; try simp only [subOne]
        repeat' (first | with_reducible refine Tot.ret ?_ | with_reducible refine Tot.ix ?_ ?_ | with_reducible refine Tot.yesB (by decide) ?_ | with_reducible refine Tot.noB (by decide) ?_ | with_reducible refine Tot.yes ?_ ?_ | with_reducible refine Tot.br (fun _ => ?_) (fun _ => ?_) | with_reducible refine ih1 _ _ _ _ _ ?_ ?_ _ ?_ | (rw [L_X9_spread_e0]; unfold B_X9_spread_0; try simp only [subOne]) | (rw [L_X9_spread_e2]; unfold B_X9_spread_2; try simp only [subOne]))
        all_goals clear ih1
        all_goals (first | exact True.intro | omega | (((try simp only [ne_eq, true_and, and_true, true_or, or_true, false_or, or_false, not_true_eq_false, not_false_eq_true, false_and, and_false, Int32.lt_iff_toInt_lt, Int32.le_iff_toInt_le, ← Int32.toInt_inj, Int32.toInt_add, Int32.toInt_sub, Int32.toInt_mul, Int32.reduceToInt, ge_iff_le, gt_iff_lt, upd_eq, upd_upd] at *) <;> (try simp (disch := omega) only [bmI] at *)) <;> (first | omega | ((try simp only [Int.bmod] at *) <;> omega) | (simp_all <;> fail))))
  have hk1 : ∀ (l0 : Int32) (l1 : Int32) (l2 : Int32) (l3 : Int32) (l4 : Int32), (0 ≤ l4.toInt ∧ l4.toInt ≤ 13) → ∀ n : Nat, 8 * ((13 - l4.toInt).toNat + 1) ≤ n → Tot (L_X9_spread K  n 1 l0 l1 l2 l3 l4) (fun r => True) := fun l0 l1 l2 l3 l4 hI n hn => (key ((13 - l4.toInt).toNat + 1)) l0 l1 l2 l3 l4 hI (Nat.lt_succ_self _) n hn
  clear key
  unfold F_X9_spread
  obtain ⟨n, hn⟩ : ∃ n9, K = n9 + 8 := ⟨K - 8, by omega⟩
  have hn2 : 999999000 ≤ n := by omega
  suffices hs : Tot (L_X9_spread K  (n + 8) 0 l0_ l1_ 0 0 0) (fun r => True) from by rw [← hn] at hs; exact hs
  rw [L_X9_spread_e0]; unfold B_X9_spread_0; try simp only [subOne]
  repeat' (first | with_reducible refine Tot.ret ?_ | with_reducible refine Tot.ix ?_ ?_ | with_reducible refine Tot.yesB (by decide) ?_ | with_reducible refine Tot.noB (by decide) ?_ | with_reducible refine Tot.yes ?_ ?_ | with_reducible refine Tot.br (fun _ => ?_) (fun _ => ?_) | with_reducible refine hk1 _ _ _ _ _ ?_ _ ?_ | (rw [L_X9_spread_e0]; unfold B_X9_spread_0; try simp only [subOne]) | (rw [L_X9_spread_e2]; unfold B_X9_spread_2; try simp only [subOne]))
  all_goals clear hk1
  all_goals (first | exact True.intro | omega | (((try simp only [ne_eq, true_and, and_true, true_or, or_true, false_or, or_false, not_true_eq_false, not_false_eq_true, false_and, and_false, Int32.lt_iff_toInt_lt, Int32.le_iff_toInt_le, ← Int32.toInt_inj, Int32.toInt_add, Int32.toInt_sub, Int32.toInt_mul, Int32.reduceToInt, ge_iff_le, gt_iff_lt, upd_eq, upd_upd] at *) <;> (try simp (disch := omega) only [bmI] at *)) <;> (first | omega | ((try simp only [Int.bmod] at *) <;> omega) | (simp_all <;> fail))))
set_option maxHeartbeats 400000 in
set_option maxRecDepth 100000 in
theorem T_X9_gather (K : Nat) (hK : 1000000000 ≤ K) (l0_ : Int32) (l1_ : Int32) (hpre : True) : Tot (F_X9_gather K l0_ l1_) (fun r => True) := by
  have key : ∀ N : Nat, (∀ (l0 : Int32) (l1 : Int32) (l2 : Int32) (l3 : Int32) (l4 : Int32), (0 ≤ l4.toInt ∧ l4.toInt ≤ 13) → (13 - l4.toInt).toNat < N → ∀ n : Nat, 8 * ((13 - l4.toInt).toNat + 1) ≤ n → Tot (L_X9_gather K  n 1 l0 l1 l2 l3 l4) (fun r => True)) := by
    intro N
    induction N with
    | zero => exact fun _ _ _ _ _ _ hm => absurd hm (Nat.not_lt_zero _)
    | succ N ih =>
      have ih1 := ih; clear ih
      · intro l0 l1 l2 l3 l4 hI hm n hn
        obtain ⟨n, rfl⟩ : ∃ n9, n = n9 + 8 := ⟨n - 8, by omega⟩
        rw [L_X9_gather_e1]; unfold B_X9_gather_1; try simp only [subOne]
        repeat' (first | with_reducible refine Tot.ret ?_ | with_reducible refine Tot.ix ?_ ?_ | with_reducible refine Tot.yesB (by decide) ?_ | with_reducible refine Tot.noB (by decide) ?_ | with_reducible refine Tot.yes ?_ ?_ | with_reducible refine Tot.br (fun _ => ?_) (fun _ => ?_) | with_reducible refine ih1 _ _ _ _ _ ?_ ?_ _ ?_ | (rw [L_X9_gather_e0]; unfold B_X9_gather_0; try simp only [subOne]) | (rw [L_X9_gather_e2]; unfold B_X9_gather_2; try simp only [subOne]))
        all_goals clear ih1
        all_goals (first | exact True.intro | omega | (((try simp only [ne_eq, true_and, and_true, true_or, or_true, false_or, or_false, not_true_eq_false, not_false_eq_true, false_and, and_false, Int32.lt_iff_toInt_lt, Int32.le_iff_toInt_le, ← Int32.toInt_inj, Int32.toInt_add, Int32.toInt_sub, Int32.toInt_mul, Int32.reduceToInt, ge_iff_le, gt_iff_lt, upd_eq, upd_upd] at *) <;> (try simp (disch := omega) only [bmI] at *)) <;> (first | omega | ((try simp only [Int.bmod] at *) <;> omega) | (simp_all <;> fail))))
  have hk1 : ∀ (l0 : Int32) (l1 : Int32) (l2 : Int32) (l3 : Int32) (l4 : Int32), (0 ≤ l4.toInt ∧ l4.toInt ≤ 13) → ∀ n : Nat, 8 * ((13 - l4.toInt).toNat + 1) ≤ n → Tot (L_X9_gather K  n 1 l0 l1 l2 l3 l4) (fun r => True) := fun l0 l1 l2 l3 l4 hI n hn => (key ((13 - l4.toInt).toNat + 1)) l0 l1 l2 l3 l4 hI (Nat.lt_succ_self _) n hn
  clear key
  unfold F_X9_gather
  obtain ⟨n, hn⟩ : ∃ n9, K = n9 + 8 := ⟨K - 8, by omega⟩
  have hn2 : 999999000 ≤ n := by omega
  suffices hs : Tot (L_X9_gather K  (n + 8) 0 l0_ l1_ 0 0 0) (fun r => True) from by rw [← hn] at hs; exact hs
  rw [L_X9_gather_e0]; unfold B_X9_gather_0; try simp only [subOne]
  repeat' (first | with_reducible refine Tot.ret ?_ | with_reducible refine Tot.ix ?_ ?_ | with_reducible refine Tot.yesB (by decide) ?_ | with_reducible refine Tot.noB (by decide) ?_ | with_reducible refine Tot.yes ?_ ?_ | with_reducible refine Tot.br (fun _ => ?_) (fun _ => ?_) | with_reducible refine hk1 _ _ _ _ _ ?_ _ ?_ | (rw [L_X9_gather_e0]; unfold B_X9_gather_0; try simp only [subOne]) | (rw [L_X9_gather_e2]; unfold B_X9_gather_2; try simp only [subOne]))
  all_goals clear hk1
  all_goals (first | exact True.intro | omega | (((try simp only [ne_eq, true_and, and_true, true_or, or_true, false_or, or_false, not_true_eq_false, not_false_eq_true, false_and, and_false, Int32.lt_iff_toInt_lt, Int32.le_iff_toInt_le, ← Int32.toInt_inj, Int32.toInt_add, Int32.toInt_sub, Int32.toInt_mul, Int32.reduceToInt, ge_iff_le, gt_iff_lt, upd_eq, upd_upd] at *) <;> (try simp (disch := omega) only [bmI] at *)) <;> (first | omega | ((try simp only [Int.bmod] at *) <;> omega) | (simp_all <;> fail))))
set_option maxHeartbeats 400000 in
set_option maxRecDepth 100000 in
theorem T_X9_following (K : Nat) (hK : 1000000000 ≤ K) (l0_ : Int32) (l1_ : Int32) (hpre : True) : Tot (F_X9_following K l0_ l1_) (fun r => True) := by
  unfold F_X9_following
  obtain ⟨n, hn⟩ : ∃ n9, K = n9 + 8 := ⟨K - 8, by omega⟩
  have hn2 : 999999000 ≤ n := by omega
  suffices hs : Tot (L_X9_following K  (n + 8) 0 l0_ l1_) (fun r => True) from by rw [← hn] at hs; exact hs
  rw [L_X9_following_e0]; unfold B_X9_following_0; try simp only [subOne]
  repeat' (first | with_reducible refine Tot.ret ?_ | with_reducible refine Tot.ix ?_ ?_ | with_reducible refine Tot.yesB (by decide) ?_ | with_reducible refine Tot.noB (by decide) ?_ | with_reducible refine Tot.yes ?_ ?_ | with_reducible refine Tot.br (fun _ => ?_) (fun _ => ?_) | (rw [L_X9_following_e0]; unfold B_X9_following_0; try simp only [subOne]))
  all_goals (first | exact True.intro | omega | (((try simp only [ne_eq, true_and, and_true, true_or, or_true, false_or, or_false, not_true_eq_false, not_false_eq_true, false_and, and_false, Int32.lt_iff_toInt_lt, Int32.le_iff_toInt_le, ← Int32.toInt_inj, Int32.toInt_add, Int32.toInt_sub, Int32.toInt_mul, Int32.reduceToInt, ge_iff_le, gt_iff_lt, upd_eq, upd_upd] at *) <;> (try simp (disch := omega) only [bmI] at *)) <;> (first | omega | ((try simp only [Int.bmod] at *) <;> omega) | (simp_all <;> fail))))
set_option maxHeartbeats 400000 in
set_option maxRecDepth 100000 in
theorem T_X8_lensOf (K : Nat) (hK : 1000000000 ≤ K) (l0_ : Int32) (j1_ : Int64) (hpre : True) : Tot (F_X8_lensOf K l0_ j1_) (fun r => True) := by
  unfold F_X8_lensOf
  obtain ⟨n, hn⟩ : ∃ n9, K = n9 + 8 := ⟨K - 8, by omega⟩
  have hn2 : 999999000 ≤ n := by omega
  suffices hs : Tot (L_X8_lensOf K  (n + 8) 0 l0_ j1_) (fun r => True) from by rw [← hn] at hs; exact hs
  rw [L_X8_lensOf_e0]; unfold B_X8_lensOf_0; try simp only [subOne]
  repeat' (first | with_reducible refine Tot.ret ?_ | with_reducible refine Tot.ix ?_ ?_ | with_reducible refine Tot.yesB (by decide) ?_ | with_reducible refine Tot.noB (by decide) ?_ | with_reducible refine Tot.yes ?_ ?_ | with_reducible refine Tot.br (fun _ => ?_) (fun _ => ?_) | (rw [L_X8_lensOf_e0]; unfold B_X8_lensOf_0; try simp only [subOne]))
  all_goals (first | exact True.intro | omega | (((try simp only [ne_eq, true_and, and_true, true_or, or_true, false_or, or_false, not_true_eq_false, not_false_eq_true, false_and, and_false, Int32.lt_iff_toInt_lt, Int32.le_iff_toInt_le, ← Int32.toInt_inj, Int32.toInt_add, Int32.toInt_sub, Int32.toInt_mul, Int32.reduceToInt, ge_iff_le, gt_iff_lt, upd_eq, upd_upd] at *) <;> (try simp (disch := omega) only [bmI] at *)) <;> (first | omega | ((try simp only [Int.bmod] at *) <;> omega) | (simp_all <;> fail))))
set_option maxHeartbeats 400000 in
set_option maxRecDepth 100000 in
theorem T_X7_isLetter (K : Nat) (hK : 1000000000 ≤ K) (l0_ : Int32) (hpre : True) : Tot (F_X7_isLetter K l0_) (fun r => r = 0 ∨ r = 1) := by
  unfold F_X7_isLetter
  obtain ⟨n, hn⟩ : ∃ n9, K = n9 + 8 := ⟨K - 8, by omega⟩
  have hn2 : 999999000 ≤ n := by omega
  suffices hs : Tot (L_X7_isLetter K  (n + 8) 0 l0_) (fun r => r = 0 ∨ r = 1) from by rw [← hn] at hs; exact hs
  rw [L_X7_isLetter_e0]; unfold B_X7_isLetter_0; try simp only [subOne]
  repeat' (first | with_reducible refine Tot.ret ?_ | with_reducible refine Tot.ix ?_ ?_ | with_reducible refine Tot.yesB (by decide) ?_ | with_reducible refine Tot.noB (by decide) ?_ | with_reducible refine Tot.yes ?_ ?_ | with_reducible refine Tot.br (fun _ => ?_) (fun _ => ?_) | (rw [L_X7_isLetter_e0]; unfold B_X7_isLetter_0; try simp only [subOne]) | (rw [L_X7_isLetter_e1]; unfold B_X7_isLetter_1; try simp only [subOne]) | (rw [L_X7_isLetter_e2]; unfold B_X7_isLetter_2; try simp only [subOne]) | (rw [L_X7_isLetter_e3]; unfold B_X7_isLetter_3; try simp only [subOne]))
  all_goals (first | exact True.intro | omega | (((try simp only [ne_eq, true_and, and_true, true_or, or_true, false_or, or_false, not_true_eq_false, not_false_eq_true, false_and, and_false, Int32.lt_iff_toInt_lt, Int32.le_iff_toInt_le, ← Int32.toInt_inj, Int32.toInt_add, Int32.toInt_sub, Int32.toInt_mul, Int32.reduceToInt, ge_iff_le, gt_iff_lt, upd_eq, upd_upd] at *) <;> (try simp (disch := omega) only [bmI] at *)) <;> (first | omega | ((try simp only [Int.bmod] at *) <;> omega) | (simp_all <;> fail))))
set_option maxHeartbeats 400000 in
set_option maxRecDepth 100000 in
theorem T_X7_isFigure (K : Nat) (hK : 1000000000 ≤ K) (l0_ : Int32) (hpre : True) : Tot (F_X7_isFigure K l0_) (fun r => (r = 1 ∧ 48 ≤ l0_.toInt ∧ l0_.toInt ≤ 57) ∨ r = 0) := by
  unfold F_X7_isFigure
  obtain ⟨n, hn⟩ : ∃ n9, K = n9 + 8 := ⟨K - 8, by omega⟩
  have hn2 : 999999000 ≤ n := by omega
  suffices hs : Tot (L_X7_isFigure K  (n + 8) 0 l0_) (fun r => (r = 1 ∧ 48 ≤ l0_.toInt ∧ l0_.toInt ≤ 57) ∨ r = 0) from by rw [← hn] at hs; exact hs
  rw [L_X7_isFigure_e0]; unfold B_X7_isFigure_0; try simp only [subOne]
  repeat' (first | with_reducible refine Tot.ret ?_ | with_reducible refine Tot.ix ?_ ?_ | with_reducible refine Tot.yesB (by decide) ?_ | with_reducible refine Tot.noB (by decide) ?_ | with_reducible refine Tot.yes ?_ ?_ | with_reducible refine Tot.br (fun _ => ?_) (fun _ => ?_) | (rw [L_X7_isFigure_e0]; unfold B_X7_isFigure_0; try simp only [subOne]) | (rw [L_X7_isFigure_e1]; unfold B_X7_isFigure_1; try simp only [subOne]))
  all_goals (first | exact True.intro | omega | (((try simp only [ne_eq, true_and, and_true, true_or, or_true, false_or, or_false, not_true_eq_false, not_false_eq_true, false_and, and_false, Int32.lt_iff_toInt_lt, Int32.le_iff_toInt_le, ← Int32.toInt_inj, Int32.toInt_add, Int32.toInt_sub, Int32.toInt_mul, Int32.reduceToInt, ge_iff_le, gt_iff_lt, upd_eq, upd_upd] at *) <;> (try simp (disch := omega) only [bmI] at *)) <;> (first | omega | ((try simp only [Int.bmod] at *) <;> omega) | (simp_all <;> fail))))
set_option maxHeartbeats 400000 in
set_option maxRecDepth 100000 in
theorem T_X0_levelOf (K : Nat) (hK : 1000000000 ≤ K) (l0_ : Int32) (lvf_ : Nat → Int32) (hpre : True) : Tot (F_X0_levelOf K l0_ lvf_) (fun r => True) := by
  have key : ∀ N : Nat, (∀ (l0 : Int32) (l2 : Int32) (l3 : Int32), (0 ≤ l3.toInt ∧ l3.toInt ≤ 6) → (6 - l3.toInt).toNat < N → ∀ n : Nat, 8 * ((6 - l3.toInt).toNat + 1) ≤ n → Tot (L_X0_levelOf K  n 1 l0 l2 l3 lvf_) (fun r => True)) := by
    intro N
    induction N with
    | zero => exact fun _ _ _ _ hm => absurd hm (Nat.not_lt_zero _)
    | succ N ih =>
      have ih1 := ih; clear ih
      · intro l0 l2 l3 hI hm n hn
        obtain ⟨n, rfl⟩ : ∃ n9, n = n9 + 8 := ⟨n - 8, by omega⟩
        rw [L_X0_levelOf_e1]; unfold B_X0_levelOf_1; try simp only [subOne]
        repeat' (first | with_reducible refine Tot.ret ?_ | with_reducible refine Tot.ix ?_ ?_ | with_reducible refine Tot.yesB (by decide) ?_ | with_reducible refine Tot.noB (by decide) ?_ | with_reducible refine Tot.yes ?_ ?_ | with_reducible refine Tot.br (fun _ => ?_) (fun _ => ?_) | with_reducible refine ih1 _ _ _ ?_ ?_ _ ?_ | (rw [L_X0_levelOf_e0]; unfold B_X0_levelOf_0; try simp only [subOne]) | (rw [L_X0_levelOf_e2]; unfold B_X0_levelOf_2; try simp only [subOne]))
        all_goals clear ih1
        all_goals (first | exact True.intro | omega | (((try simp only [ne_eq, true_and, and_true, true_or, or_true, false_or, or_false, not_true_eq_false, not_false_eq_true, false_and, and_false, Int32.lt_iff_toInt_lt, Int32.le_iff_toInt_le, ← Int32.toInt_inj, Int32.toInt_add, Int32.toInt_sub, Int32.toInt_mul, Int32.reduceToInt, ge_iff_le, gt_iff_lt, upd_eq, upd_upd] at *) <;> (try simp (disch := omega) only [bmI] at *)) <;> (first | omega | ((try simp only [Int.bmod] at *) <;> omega) | (simp_all <;> fail))))
  have hk1 : ∀ (l0 : Int32) (l2 : Int32) (l3 : Int32), (0 ≤ l3.toInt ∧ l3.toInt ≤ 6) → ∀ n : Nat, 8 * ((6 - l3.toInt).toNat + 1) ≤ n → Tot (L_X0_levelOf K  n 1 l0 l2 l3 lvf_) (fun r => True) := fun l0 l2 l3 hI n hn => (key ((6 - l3.toInt).toNat + 1)) l0 l2 l3 hI (Nat.lt_succ_self _) n hn
  clear key
  unfold F_X0_levelOf
  obtain ⟨n, hn⟩ : ∃ n9, K = n9 + 8 := ⟨K - 8, by omega⟩
  have hn2 : 999999000 ≤ n := by omega
  suffices hs : Tot (L_X0_levelOf K  (n + 8) 0 l0_ 0 0 lvf_) (fun r => True) from by rw [← hn] at hs; exact hs
  rw [L_X0_levelOf_e0]; unfold B_X0_levelOf_0; try simp only [subOne]
  repeat' (first | with_reducible refine Tot.ret ?_ | with_reducible refine Tot.ix ?_ ?_ | with_reducible refine Tot.yesB (by decide) ?_ | with_reducible refine Tot.noB (by decide) ?_ | with_reducible refine Tot.yes ?_ ?_ | with_reducible refine Tot.br (fun _ => ?_) (fun _ => ?_) | with_reducible refine hk1 _ _ _ ?_ _ ?_ | (rw [L_X0_levelOf_e0]; unfold B_X0_levelOf_0; try simp only [subOne]) | (rw [L_X0_levelOf_e2]; unfold B_X0_levelOf_2; try simp only [subOne]))
  all_goals clear hk1
  all_goals (first | exact True.intro | omega | (((try simp only [ne_eq, true_and, and_true, true_or, or_true, false_or, or_false, not_true_eq_false, not_false_eq_true, false_and, and_false, Int32.lt_iff_toInt_lt, Int32.le_iff_toInt_le, ← Int32.toInt_inj, Int32.toInt_add, Int32.toInt_sub, Int32.toInt_mul, Int32.reduceToInt, ge_iff_le, gt_iff_lt, upd_eq, upd_upd] at *) <;> (try simp (disch := omega) only [bmI] at *)) <;> (first | omega | ((try simp only [Int.bmod] at *) <;> omega) | (simp_all <;> fail))))
set_option maxHeartbeats 400000 in
set_option maxRecDepth 100000 in
theorem T_X6_append (K : Nat) (hK : 1000000000 ≤ K) (l1_ : Int32) (tx_length_ : Int32) (txf_ : Nat → Int32) (hpre : 0 ≤ tx_length_.toInt ∧ tx_length_.toInt ≤ 300) : Tot (F_X6_append K l1_ tx_length_ txf_) (fun r => 0 ≤ r.1.toInt ∧ r.1.toInt ≤ 300) := by
  unfold F_X6_append
  obtain ⟨n, hn⟩ : ∃ n9, K = n9 + 8 := ⟨K - 8, by omega⟩
  have hn2 : 999999000 ≤ n := by omega
  suffices hs : Tot (L_X6_append K  (n + 8) 0 l1_ tx_length_ txf_) (fun r => 0 ≤ r.1.toInt ∧ r.1.toInt ≤ 300) from by rw [← hn] at hs; exact hs
  rw [L_X6_append_e0]; unfold B_X6_append_0; try simp only [subOne]
  repeat' (first | with_reducible refine Tot.ret ?_ | with_reducible refine Tot.ix ?_ ?_ | with_reducible refine Tot.yesB (by decide) ?_ | with_reducible refine Tot.noB (by decide) ?_ | with_reducible refine Tot.yes ?_ ?_ | with_reducible refine Tot.br (fun _ => ?_) (fun _ => ?_) | (rw [L_X6_append_e0]; unfold B_X6_append_0; try simp only [subOne]))
  all_goals (first | exact True.intro | omega | (((try simp only [ne_eq, true_and, and_true, true_or, or_true, false_or, or_false, not_true_eq_false, not_false_eq_true, false_and, and_false, Int32.lt_iff_toInt_lt, Int32.le_iff_toInt_le, ← Int32.toInt_inj, Int32.toInt_add, Int32.toInt_sub, Int32.toInt_mul, Int32.reduceToInt, ge_iff_le, gt_iff_lt, upd_eq, upd_upd] at *) <;> (try simp (disch := omega) only [bmI] at *)) <;> (first | omega | ((try simp only [Int.bmod] at *) <;> omega) | (simp_all <;> fail))))
set_option maxHeartbeats 400000 in
set_option maxRecDepth 100000 in
theorem T_X6_at (K : Nat) (hK : 1000000000 ≤ K) (l1_ : Int32) (tx_length_ : Int32) (txf_ : Nat → Int32) (hpre : tx_length_.toInt ≤ 300) : Tot (F_X6_at K l1_ tx_length_ txf_) (fun r => (0 ≤ l1_.toInt ∧ l1_.toInt < tx_length_.toInt ∧ r = txf_ l1_.toNatClampNeg) ∨ (r = -1 ∧ (l1_.toInt < 0 ∨ tx_length_.toInt ≤ l1_.toInt))) := by
  unfold F_X6_at
  obtain ⟨n, hn⟩ : ∃ n9, K = n9 + 8 := ⟨K - 8, by omega⟩
  have hn2 : 999999000 ≤ n := by omega
  suffices hs : Tot (L_X6_at K  (n + 8) 0 l1_ tx_length_ txf_) (fun r => (0 ≤ l1_.toInt ∧ l1_.toInt < tx_length_.toInt ∧ r = txf_ l1_.toNatClampNeg) ∨ (r = -1 ∧ (l1_.toInt < 0 ∨ tx_length_.toInt ≤ l1_.toInt))) from by rw [← hn] at hs; exact hs
  rw [L_X6_at_e0]; unfold B_X6_at_0; try simp only [subOne]
  repeat' (first | with_reducible refine Tot.ret ?_ | with_reducible refine Tot.ix ?_ ?_ | with_reducible refine Tot.yesB (by decide) ?_ | with_reducible refine Tot.noB (by decide) ?_ | with_reducible refine Tot.yes ?_ ?_ | with_reducible refine Tot.br (fun _ => ?_) (fun _ => ?_) | (rw [L_X6_at_e0]; unfold B_X6_at_0; try simp only [subOne]) | (rw [L_X6_at_e1]; unfold B_X6_at_1; try simp only [subOne]))
  all_goals (first | exact True.intro | omega | (((try simp only [ne_eq, true_and, and_true, true_or, or_true, false_or, or_false, not_true_eq_false, not_false_eq_true, false_and, and_false, Int32.lt_iff_toInt_lt, Int32.le_iff_toInt_le, ← Int32.toInt_inj, Int32.toInt_add, Int32.toInt_sub, Int32.toInt_mul, Int32.reduceToInt, ge_iff_le, gt_iff_lt, upd_eq, upd_upd] at *) <;> (try simp (disch := omega) only [bmI] at *)) <;> (first | omega | ((try simp only [Int.bmod] at *) <;> omega) | (simp_all <;> fail))))
set_option maxHeartbeats 400000 in
set_option maxRecDepth 100000 in
theorem T_X7_advance (K : Nat) (hK : 1000000000 ≤ K) (tk_many_ : Int32) (tk_at_ : Int32) (tk_kind_ : Int32) (tk_value_ : Int32) (tk_place_ : Int32) (tkfk_ : Nat → Int32) (tkfv_ : Nat → Int32) (tkfp_ : Nat → Int32) (hpre : TKs tk_many_ tk_at_ tk_kind_ tk_value_ tkfk_ tkfv_) : Tot (F_X7_advance K tk_many_ tk_at_ tk_kind_ tk_value_ tk_place_ tkfk_ tkfv_ tkfp_) (fun r => TKs tk_many_ r.1 r.2.1 r.2.2.1 tkfk_ tkfv_) := by
  obtain ⟨ha, hb, hc⟩ := hpre
  have ha1 := ha.1
  unfold F_X7_advance
  obtain ⟨n, hn⟩ : ∃ n9, K = n9 + 8 := ⟨K - 8, by omega⟩
  have hn2 : 999999000 ≤ n := by omega
  suffices hs : Tot (L_X7_advance K  (n + 8) 0 tk_many_ tk_at_ tk_kind_ tk_value_ tk_place_ tkfk_ tkfv_ tkfp_) (fun r => TKs tk_many_ r.1 r.2.1 r.2.2.1 tkfk_ tkfv_) from by rw [← hn] at hs; exact hs
  rw [L_X7_advance_e0]; unfold B_X7_advance_0; try simp only [subOne]
  repeat' (first | with_reducible refine Tot.ret ?_ | with_reducible refine Tot.ix ?_ ?_ | with_reducible refine Tot.yesB (by decide) ?_ | with_reducible refine Tot.noB (by decide) ?_ | with_reducible refine Tot.yes ?_ ?_ | with_reducible refine Tot.br (fun _ => ?_) (fun _ => ?_) | (rw [L_X7_advance_e0]; unfold B_X7_advance_0; try simp only [subOne]))
  all_goals ((try dsimp only) <;> (first | exact ⟨ha, by (first | exact True.intro | omega | (((try simp only [ne_eq, true_and, and_true, true_or, or_true, false_or, or_false, not_true_eq_false, not_false_eq_true, false_and, and_false, Int32.lt_iff_toInt_lt, Int32.le_iff_toInt_le, ← Int32.toInt_inj, Int32.toInt_add, Int32.toInt_sub, Int32.toInt_mul, Int32.reduceToInt, ge_iff_le, gt_iff_lt, upd_eq, upd_upd] at *) <;> (try simp (disch := omega) only [bmI] at *)) <;> (first | omega | ((try simp only [Int.bmod] at *) <;> omega) | (simp_all <;> fail)))), ha.at (by (first | exact True.intro | omega | (((try simp only [ne_eq, true_and, and_true, true_or, or_true, false_or, or_false, not_true_eq_false, not_false_eq_true, false_and, and_false, Int32.lt_iff_toInt_lt, Int32.le_iff_toInt_le, ← Int32.toInt_inj, Int32.toInt_add, Int32.toInt_sub, Int32.toInt_mul, Int32.reduceToInt, ge_iff_le, gt_iff_lt, upd_eq, upd_upd] at *) <;> (try simp (disch := omega) only [bmI] at *)) <;> (first | omega | ((try simp only [Int.bmod] at *) <;> omega) | (simp_all <;> fail))))) (by (first | exact True.intro | omega | (((try simp only [ne_eq, true_and, and_true, true_or, or_true, false_or, or_false, not_true_eq_false, not_false_eq_true, false_and, and_false, Int32.lt_iff_toInt_lt, Int32.le_iff_toInt_le, ← Int32.toInt_inj, Int32.toInt_add, Int32.toInt_sub, Int32.toInt_mul, Int32.reduceToInt, ge_iff_le, gt_iff_lt, upd_eq, upd_upd] at *) <;> (try simp (disch := omega) only [bmI] at *)) <;> (first | omega | ((try simp only [Int.bmod] at *) <;> omega) | (simp_all <;> fail)))))⟩ | exact ⟨ha, hb, hc⟩ | assumption | (first | exact True.intro | omega | (((try simp only [ne_eq, true_and, and_true, true_or, or_true, false_or, or_false, not_true_eq_false, not_false_eq_true, false_and, and_false, Int32.lt_iff_toInt_lt, Int32.le_iff_toInt_le, ← Int32.toInt_inj, Int32.toInt_add, Int32.toInt_sub, Int32.toInt_mul, Int32.reduceToInt, ge_iff_le, gt_iff_lt, upd_eq, upd_upd] at *) <;> (try simp (disch := omega) only [bmI] at *)) <;> (first | omega | ((try simp only [Int.bmod] at *) <;> omega) | (simp_all <;> fail))))))
set_option maxHeartbeats 400000 in
set_option maxRecDepth 100000 in
theorem T_X7_add (K : Nat) (hK : 1000000000 ≤ K) (l1_ : Int32) (l2_ : Int32) (l3_ : Int32) (tk_many_ : Int32) (tkfk_ : Nat → Int32) (tkfv_ : Nat → Int32) (tkfp_ : Nat → Int32) (hpre : TKa tk_many_ tkfk_ tkfv_ ∧ TKc l1_ l2_) : Tot (F_X7_add K l1_ l2_ l3_ tk_many_ tkfk_ tkfv_ tkfp_) (fun r => TKa r.1 r.2.1 r.2.2.1) := by
  obtain ⟨ha, hc⟩ := hpre
  have ha1 := ha.1
  unfold F_X7_add
  obtain ⟨n, hn⟩ : ∃ n9, K = n9 + 8 := ⟨K - 8, by omega⟩
  have hn2 : 999999000 ≤ n := by omega
  suffices hs : Tot (L_X7_add K  (n + 8) 0 l1_ l2_ l3_ tk_many_ tkfk_ tkfv_ tkfp_) (fun r => TKa r.1 r.2.1 r.2.2.1) from by rw [← hn] at hs; exact hs
  rw [L_X7_add_e0]; unfold B_X7_add_0; try simp only [subOne]
  repeat' (first | with_reducible refine Tot.ret ?_ | with_reducible refine Tot.ix ?_ ?_ | with_reducible refine Tot.yesB (by decide) ?_ | with_reducible refine Tot.noB (by decide) ?_ | with_reducible refine Tot.yes ?_ ?_ | with_reducible refine Tot.br (fun _ => ?_) (fun _ => ?_) | (rw [L_X7_add_e0]; unfold B_X7_add_0; try simp only [subOne]))
  all_goals ((try dsimp only) <;> (first | exact ha.add (by (first | exact True.intro | omega | (((try simp only [ne_eq, true_and, and_true, true_or, or_true, false_or, or_false, not_true_eq_false, not_false_eq_true, false_and, and_false, Int32.lt_iff_toInt_lt, Int32.le_iff_toInt_le, ← Int32.toInt_inj, Int32.toInt_add, Int32.toInt_sub, Int32.toInt_mul, Int32.reduceToInt, ge_iff_le, gt_iff_lt, upd_eq, upd_upd] at *) <;> (try simp (disch := omega) only [bmI] at *)) <;> (first | omega | ((try simp only [Int.bmod] at *) <;> omega) | (simp_all <;> fail))))) hc | exact ha | assumption | (first | exact True.intro | omega | (((try simp only [ne_eq, true_and, and_true, true_or, or_true, false_or, or_false, not_true_eq_false, not_false_eq_true, false_and, and_false, Int32.lt_iff_toInt_lt, Int32.le_iff_toInt_le, ← Int32.toInt_inj, Int32.toInt_add, Int32.toInt_sub, Int32.toInt_mul, Int32.reduceToInt, ge_iff_le, gt_iff_lt, upd_eq, upd_upd] at *) <;> (try simp (disch := omega) only [bmI] at *)) <;> (first | omega | ((try simp only [Int.bmod] at *) <;> omega) | (simp_all <;> fail))))))
set_option maxHeartbeats 2000000 in
set_option maxRecDepth 100000 in
theorem T_X7_takeNumber (K : Nat) (hK : 1000000000 ≤ K) (l2_ : Int32) (tk_many_ : Int32) (tkfk_ : Nat → Int32) (tkfv_ : Nat → Int32) (tkfp_ : Nat → Int32) (tx_length_ : Int32) (txf_ : Nat → Int32) (hpre : (0 ≤ l2_.toInt ∧ l2_.toInt < tx_length_.toInt ∧ tx_length_.toInt ≤ 300 ∧ 48 ≤ (txf_ l2_.toNatClampNeg).toInt ∧ (txf_ l2_.toNatClampNeg).toInt ≤ 57) ∧ TKa tk_many_ tkfk_ tkfv_) : Tot (F_X7_takeNumber K l2_ tk_many_ tkfk_ tkfv_ tkfp_ tx_length_ txf_) (fun r => (l2_.toInt ≤ r.1.toInt ∧ r.1.toInt ≤ 300) ∧ TKa r.2.1 r.2.2.1 r.2.2.2.1) := by
  obtain ⟨hA, ha⟩ := hpre
  have key : ∀ N : Nat, (∀ (l2 : Int32) (l3 : Int32) (s0 : Int32) (tk_many : Int32) (tkfk : Nat → Int32) (tkfv : Nat → Int32) (tkfp : Nat → Int32), ((l2.toInt = l2_.toInt ∧ l2_.toInt ≤ l3.toInt ∧ l3.toInt ≤ 300) ∧ l2 = l2_ ∧ TKa tk_many tkfk tkfv) → (300 - l3.toInt).toNat < N → ∀ n : Nat, 8 * ((300 - l3.toInt).toNat + 1) ≤ n → Tot (L_X7_takeNumber K  n 1 l2 l3 s0 tk_many tkfk tkfv tkfp tx_length_ txf_) (fun r => (l2_.toInt ≤ r.1.toInt ∧ r.1.toInt ≤ 300) ∧ TKa r.2.1 r.2.2.1 r.2.2.2.1)) := by
    intro N
    induction N with
    | zero => exact fun _ _ _ _ _ _ _ _ hm => absurd hm (Nat.not_lt_zero _)
    | succ N ih =>
      have ih1 := ih; clear ih
      · intro l2 l3 s0 tk_many tkfk tkfv tkfp hI hm n hn
        obtain ⟨n, rfl⟩ : ∃ n9, n = n9 + 8 := ⟨n - 8, by omega⟩
        obtain ⟨hB, rfl, ha⟩ := hI
        rw [L_X7_takeNumber_e1]; unfold B_X7_takeNumber_1; try simp only [subOne]
        repeat' (first | with_reducible refine Tot.ret ?_ | with_reducible refine Tot.ix ?_ ?_ | with_reducible refine Tot.yesB (by decide) ?_ | with_reducible refine Tot.noB (by decide) ?_ | with_reducible refine Tot.yes ?_ ?_ | with_reducible refine Tot.br (fun _ => ?_) (fun _ => ?_) | with_reducible refine Tot.bd (T_X6_at K hK _ _ _ ?_) (fun _ _ => ?_) | with_reducible refine Tot.bd (T_X7_isFigure K hK _ ?_) (fun _ _ => ?_) | with_reducible refine Tot.bd (T_X7_add K hK _ _ _ _ _ _ _ ?_) (fun _ _ => ?_) | with_reducible refine ih1 _ _ _ _ _ _ _ ?_ ?_ _ ?_ | (rw [L_X7_takeNumber_e0]; unfold B_X7_takeNumber_0; try simp only [subOne]) | (rw [L_X7_takeNumber_e2]; unfold B_X7_takeNumber_2; try simp only [subOne]) | (rw [L_X7_takeNumber_e3]; unfold B_X7_takeNumber_3; try simp only [subOne]))
        all_goals clear ih1
        all_goals (((try simp only [ne_eq, true_and, and_true, true_or, or_true, false_or, or_false, not_true_eq_false, not_false_eq_true, false_and, and_false, Int32.lt_iff_toInt_lt, Int32.le_iff_toInt_le, ← Int32.toInt_inj, Int32.toInt_add, Int32.toInt_sub, Int32.toInt_mul, Int32.reduceToInt, ge_iff_le, gt_iff_lt, upd_eq, upd_upd] at *) <;> (try simp (disch := omega) only [bmI] at *)) <;> (first | exact True.intro | omega | assumption | (exact ⟨by omega, ha⟩) | (exact ⟨ha, by unfold TKc; ((try simp only [ne_eq, true_and, and_true, true_or, or_true, false_or, or_false, not_true_eq_false, not_false_eq_true, false_and, and_false, Int32.lt_iff_toInt_lt, Int32.le_iff_toInt_le, ← Int32.toInt_inj, Int32.toInt_add, Int32.toInt_sub, Int32.toInt_mul, Int32.reduceToInt, ge_iff_le, gt_iff_lt, upd_eq, upd_upd] at *) <;> (try simp (disch := omega) only [bmI] at *)) <;> omega⟩) | (exact ⟨by omega, by assumption⟩) | (exact ⟨by omega, trivial, ha⟩) | (refine ⟨by omega, ?_, ha⟩; first | rfl | trivial)))
  have hk1 : ∀ (l2 : Int32) (l3 : Int32) (s0 : Int32) (tk_many : Int32) (tkfk : Nat → Int32) (tkfv : Nat → Int32) (tkfp : Nat → Int32), ((l2.toInt = l2_.toInt ∧ l2_.toInt ≤ l3.toInt ∧ l3.toInt ≤ 300) ∧ l2 = l2_ ∧ TKa tk_many tkfk tkfv) → ∀ n : Nat, 8 * ((300 - l3.toInt).toNat + 1) ≤ n → Tot (L_X7_takeNumber K  n 1 l2 l3 s0 tk_many tkfk tkfv tkfp tx_length_ txf_) (fun r => (l2_.toInt ≤ r.1.toInt ∧ r.1.toInt ≤ 300) ∧ TKa r.2.1 r.2.2.1 r.2.2.2.1) := fun l2 l3 s0 tk_many tkfk tkfv tkfp hI n hn => (key ((300 - l3.toInt).toNat + 1)) l2 l3 s0 tk_many tkfk tkfv tkfp hI (Nat.lt_succ_self _) n hn
  clear key
  unfold F_X7_takeNumber
  obtain ⟨n, hn⟩ : ∃ n9, K = n9 + 8 := ⟨K - 8, by omega⟩
  have hn2 : 999999000 ≤ n := by omega
  suffices hs : Tot (L_X7_takeNumber K  (n + 8) 0 l2_ 0 0 tk_many_ tkfk_ tkfv_ tkfp_ tx_length_ txf_) (fun r => (l2_.toInt ≤ r.1.toInt ∧ r.1.toInt ≤ 300) ∧ TKa r.2.1 r.2.2.1 r.2.2.2.1) from by rw [← hn] at hs; exact hs
  rw [L_X7_takeNumber_e0]; unfold B_X7_takeNumber_0; try simp only [subOne]
  repeat' (first | with_reducible refine Tot.ret ?_ | with_reducible refine Tot.ix ?_ ?_ | with_reducible refine Tot.yesB (by decide) ?_ | with_reducible refine Tot.noB (by decide) ?_ | with_reducible refine Tot.yes ?_ ?_ | with_reducible refine Tot.br (fun _ => ?_) (fun _ => ?_) | with_reducible refine Tot.bd (T_X6_at K hK _ _ _ ?_) (fun _ _ => ?_) | with_reducible refine Tot.bd (T_X7_isFigure K hK _ ?_) (fun _ _ => ?_) | with_reducible refine Tot.bd (T_X7_add K hK _ _ _ _ _ _ _ ?_) (fun _ _ => ?_) | with_reducible refine hk1 _ _ _ _ _ _ _ ?_ _ ?_ | (rw [L_X7_takeNumber_e0]; unfold B_X7_takeNumber_0; try simp only [subOne]) | (rw [L_X7_takeNumber_e2]; unfold B_X7_takeNumber_2; try simp only [subOne]) | (rw [L_X7_takeNumber_e3]; unfold B_X7_takeNumber_3; try simp only [subOne]))
  all_goals clear hk1
  all_goals ((try dsimp only) <;> (first | exact ⟨by (first | exact True.intro | omega | (((try simp only [ne_eq, true_and, and_true, true_or, or_true, false_or, or_false, not_true_eq_false, not_false_eq_true, false_and, and_false, Int32.lt_iff_toInt_lt, Int32.le_iff_toInt_le, ← Int32.toInt_inj, Int32.toInt_add, Int32.toInt_sub, Int32.toInt_mul, Int32.reduceToInt, ge_iff_le, gt_iff_lt, upd_eq, upd_upd] at *) <;> (try simp (disch := omega) only [bmI] at *)) <;> (first | omega | ((try simp only [Int.bmod] at *) <;> omega) | (simp_all <;> fail)))), rfl, ha⟩ | assumption | (first | exact True.intro | omega | (((try simp only [ne_eq, true_and, and_true, true_or, or_true, false_or, or_false, not_true_eq_false, not_false_eq_true, false_and, and_false, Int32.lt_iff_toInt_lt, Int32.le_iff_toInt_le, ← Int32.toInt_inj, Int32.toInt_add, Int32.toInt_sub, Int32.toInt_mul, Int32.reduceToInt, ge_iff_le, gt_iff_lt, upd_eq, upd_upd] at *) <;> (try simp (disch := omega) only [bmI] at *)) <;> (first | omega | ((try simp only [Int.bmod] at *) <;> omega) | (simp_all <;> fail))))))
set_option maxHeartbeats 400000 in
set_option maxRecDepth 100000 in
theorem T_X7_wordKind (K : Nat) (hK : 1000000000 ≤ K) (l0_ : Int32) (hpre : True) : Tot (F_X7_wordKind K l0_) (fun r => 1 ≤ r.toInt ∧ r.toInt ≤ 7 ∧ r.toInt ≠ 2 ∧ r.toInt ≠ 3) := by
  unfold F_X7_wordKind
  obtain ⟨n, hn⟩ : ∃ n9, K = n9 + 8 := ⟨K - 8, by omega⟩
  have hn2 : 999999000 ≤ n := by omega
  suffices hs : Tot (L_X7_wordKind K  (n + 8) 0 l0_) (fun r => 1 ≤ r.toInt ∧ r.toInt ≤ 7 ∧ r.toInt ≠ 2 ∧ r.toInt ≠ 3) from by rw [← hn] at hs; exact hs
  rw [L_X7_wordKind_e0]; unfold B_X7_wordKind_0; try simp only [subOne]
  repeat' (first | with_reducible refine Tot.ret ?_ | with_reducible refine Tot.ix ?_ ?_ | with_reducible refine Tot.yesB (by decide) ?_ | with_reducible refine Tot.noB (by decide) ?_ | with_reducible refine Tot.yes ?_ ?_ | with_reducible refine Tot.br (fun _ => ?_) (fun _ => ?_) | (rw [L_X7_wordKind_e0]; unfold B_X7_wordKind_0; try simp only [subOne]))
  all_goals (first | exact True.intro | omega | (((try simp only [ne_eq, true_and, and_true, true_or, or_true, false_or, or_false, not_true_eq_false, not_false_eq_true, false_and, and_false, Int32.lt_iff_toInt_lt, Int32.le_iff_toInt_le, ← Int32.toInt_inj, Int32.toInt_add, Int32.toInt_sub, Int32.toInt_mul, Int32.reduceToInt, ge_iff_le, gt_iff_lt, upd_eq, upd_upd] at *) <;> (try simp (disch := omega) only [bmI] at *)) <;> (first | omega | ((try simp only [Int.bmod] at *) <;> omega) | (simp_all <;> fail))))
set_option maxHeartbeats 2000000 in
set_option maxRecDepth 100000 in
theorem T_X7_takeWord (K : Nat) (hK : 1000000000 ≤ K) (l2_ : Int32) (tk_many_ : Int32) (tkfk_ : Nat → Int32) (tkfv_ : Nat → Int32) (tkfp_ : Nat → Int32) (tx_length_ : Int32) (txf_ : Nat → Int32) (hpre : (0 ≤ l2_.toInt ∧ l2_.toInt < tx_length_.toInt ∧ tx_length_.toInt ≤ 300) ∧ TKa tk_many_ tkfk_ tkfv_) : Tot (F_X7_takeWord K l2_ tk_many_ tkfk_ tkfv_ tkfp_ tx_length_ txf_) (fun r => (l2_.toInt ≤ r.1.toInt ∧ r.1.toInt ≤ 300) ∧ TKa r.2.1 r.2.2.1 r.2.2.2.1) := by
  obtain ⟨hA, ha⟩ := hpre
  have key : ∀ N : Nat, (∀ (l2 : Int32) (l3 : Int32) (l4 : Int32) (s0 : Int32) (tk_many : Int32) (tkfk : Nat → Int32) (tkfv : Nat → Int32) (tkfp : Nat → Int32), ((l2.toInt = l2_.toInt ∧ l2_.toInt ≤ l3.toInt ∧ l3.toInt ≤ 300) ∧ l2 = l2_ ∧ TKa tk_many tkfk tkfv) → (300 - l3.toInt).toNat < N → ∀ n : Nat, 8 * ((300 - l3.toInt).toNat + 1) ≤ n → Tot (L_X7_takeWord K  n 1 l2 l3 l4 s0 tk_many tkfk tkfv tkfp tx_length_ txf_) (fun r => (l2_.toInt ≤ r.1.toInt ∧ r.1.toInt ≤ 300) ∧ TKa r.2.1 r.2.2.1 r.2.2.2.1)) := by
    intro N
    induction N with
    | zero => exact fun _ _ _ _ _ _ _ _ _ hm => absurd hm (Nat.not_lt_zero _)
    | succ N ih =>
      have ih1 := ih; clear ih
      · intro l2 l3 l4 s0 tk_many tkfk tkfv tkfp hI hm n hn
        obtain ⟨n, rfl⟩ : ∃ n9, n = n9 + 8 := ⟨n - 8, by omega⟩
        obtain ⟨hB, rfl, ha⟩ := hI
        rw [L_X7_takeWord_e1]; unfold B_X7_takeWord_1; try simp only [subOne]
        repeat' (first | with_reducible refine Tot.ret ?_ | with_reducible refine Tot.ix ?_ ?_ | with_reducible refine Tot.yesB (by decide) ?_ | with_reducible refine Tot.noB (by decide) ?_ | with_reducible refine Tot.yes ?_ ?_ | with_reducible refine Tot.br (fun _ => ?_) (fun _ => ?_) | with_reducible refine Tot.bd (T_X6_at K hK _ _ _ ?_) (fun _ _ => ?_) | with_reducible refine Tot.bd (T_X7_isLetter K hK _ ?_) (fun _ _ => ?_) | with_reducible refine Tot.bd (T_X7_add K hK _ _ _ _ _ _ _ ?_) (fun _ _ => ?_) | with_reducible refine Tot.bd (T_X7_wordKind K hK _ ?_) (fun _ _ => ?_) | with_reducible refine ih1 _ _ _ _ _ _ _ _ ?_ ?_ _ ?_ | (rw [L_X7_takeWord_e0]; unfold B_X7_takeWord_0; try simp only [subOne]) | (rw [L_X7_takeWord_e2]; unfold B_X7_takeWord_2; try simp only [subOne]) | (rw [L_X7_takeWord_e3]; unfold B_X7_takeWord_3; try simp only [subOne]) | (rw [L_X7_takeWord_e4]; unfold B_X7_takeWord_4; try simp only [subOne]) | (rw [L_X7_takeWord_e5]; unfold B_X7_takeWord_5; try simp only [subOne]))
        all_goals clear ih1
        all_goals (((try simp only [ne_eq, true_and, and_true, true_or, or_true, false_or, or_false, not_true_eq_false, not_false_eq_true, false_and, and_false, Int32.lt_iff_toInt_lt, Int32.le_iff_toInt_le, ← Int32.toInt_inj, Int32.toInt_add, Int32.toInt_sub, Int32.toInt_mul, Int32.reduceToInt, ge_iff_le, gt_iff_lt, upd_eq, upd_upd] at *) <;> (try simp (disch := omega) only [bmI] at *)) <;> (first | exact True.intro | omega | assumption | (exact ⟨ha, by unfold TKc; ((try simp only [ne_eq, true_and, and_true, true_or, or_true, false_or, or_false, not_true_eq_false, not_false_eq_true, false_and, and_false, Int32.lt_iff_toInt_lt, Int32.le_iff_toInt_le, ← Int32.toInt_inj, Int32.toInt_add, Int32.toInt_sub, Int32.toInt_mul, Int32.reduceToInt, ge_iff_le, gt_iff_lt, upd_eq, upd_upd] at *) <;> (try simp (disch := omega) only [bmI] at *)) <;> omega⟩) | (exact ⟨by omega, by assumption⟩) | (exact ⟨by omega, trivial, ha⟩) | (exact ⟨by omega, ha⟩)))
  have hk1 : ∀ (l2 : Int32) (l3 : Int32) (l4 : Int32) (s0 : Int32) (tk_many : Int32) (tkfk : Nat → Int32) (tkfv : Nat → Int32) (tkfp : Nat → Int32), ((l2.toInt = l2_.toInt ∧ l2_.toInt ≤ l3.toInt ∧ l3.toInt ≤ 300) ∧ l2 = l2_ ∧ TKa tk_many tkfk tkfv) → ∀ n : Nat, 8 * ((300 - l3.toInt).toNat + 1) ≤ n → Tot (L_X7_takeWord K  n 1 l2 l3 l4 s0 tk_many tkfk tkfv tkfp tx_length_ txf_) (fun r => (l2_.toInt ≤ r.1.toInt ∧ r.1.toInt ≤ 300) ∧ TKa r.2.1 r.2.2.1 r.2.2.2.1) := fun l2 l3 l4 s0 tk_many tkfk tkfv tkfp hI n hn => (key ((300 - l3.toInt).toNat + 1)) l2 l3 l4 s0 tk_many tkfk tkfv tkfp hI (Nat.lt_succ_self _) n hn
  clear key
  unfold F_X7_takeWord
  obtain ⟨n, hn⟩ : ∃ n9, K = n9 + 8 := ⟨K - 8, by omega⟩
  have hn2 : 999999000 ≤ n := by omega
  suffices hs : Tot (L_X7_takeWord K  (n + 8) 0 l2_ 0 0 0 tk_many_ tkfk_ tkfv_ tkfp_ tx_length_ txf_) (fun r => (l2_.toInt ≤ r.1.toInt ∧ r.1.toInt ≤ 300) ∧ TKa r.2.1 r.2.2.1 r.2.2.2.1) from by rw [← hn] at hs; exact hs
  rw [L_X7_takeWord_e0]; unfold B_X7_takeWord_0; try simp only [subOne]
  repeat' (first | with_reducible refine Tot.ret ?_ | with_reducible refine Tot.ix ?_ ?_ | with_reducible refine Tot.yesB (by decide) ?_ | with_reducible refine Tot.noB (by decide) ?_ | with_reducible refine Tot.yes ?_ ?_ | with_reducible refine Tot.br (fun _ => ?_) (fun _ => ?_) | with_reducible refine Tot.bd (T_X6_at K hK _ _ _ ?_) (fun _ _ => ?_) | with_reducible refine Tot.bd (T_X7_isLetter K hK _ ?_) (fun _ _ => ?_) | with_reducible refine Tot.bd (T_X7_add K hK _ _ _ _ _ _ _ ?_) (fun _ _ => ?_) | with_reducible refine Tot.bd (T_X7_wordKind K hK _ ?_) (fun _ _ => ?_) | with_reducible refine hk1 _ _ _ _ _ _ _ _ ?_ _ ?_ | (rw [L_X7_takeWord_e0]; unfold B_X7_takeWord_0; try simp only [subOne]) | (rw [L_X7_takeWord_e2]; unfold B_X7_takeWord_2; try simp only [subOne]) | (rw [L_X7_takeWord_e3]; unfold B_X7_takeWord_3; try simp only [subOne]) | (rw [L_X7_takeWord_e4]; unfold B_X7_takeWord_4; try simp only [subOne]) | (rw [L_X7_takeWord_e5]; unfold B_X7_takeWord_5; try simp only [subOne]))
  all_goals clear hk1
  all_goals ((try dsimp only) <;> (first | exact ⟨by (first | exact True.intro | omega | (((try simp only [ne_eq, true_and, and_true, true_or, or_true, false_or, or_false, not_true_eq_false, not_false_eq_true, false_and, and_false, Int32.lt_iff_toInt_lt, Int32.le_iff_toInt_le, ← Int32.toInt_inj, Int32.toInt_add, Int32.toInt_sub, Int32.toInt_mul, Int32.reduceToInt, ge_iff_le, gt_iff_lt, upd_eq, upd_upd] at *) <;> (try simp (disch := omega) only [bmI] at *)) <;> (first | omega | ((try simp only [Int.bmod] at *) <;> omega) | (simp_all <;> fail)))), rfl, ha⟩ | assumption | (first | exact True.intro | omega | (((try simp only [ne_eq, true_and, and_true, true_or, or_true, false_or, or_false, not_true_eq_false, not_false_eq_true, false_and, and_false, Int32.lt_iff_toInt_lt, Int32.le_iff_toInt_le, ← Int32.toInt_inj, Int32.toInt_add, Int32.toInt_sub, Int32.toInt_mul, Int32.reduceToInt, ge_iff_le, gt_iff_lt, upd_eq, upd_upd] at *) <;> (try simp (disch := omega) only [bmI] at *)) <;> (first | omega | ((try simp only [Int.bmod] at *) <;> omega) | (simp_all <;> fail))))))
set_option maxHeartbeats 400000 in
set_option maxRecDepth 100000 in
theorem T_X5_reset (K : Nat) (hK : 1000000000 ≤ K) (a0_ : Nat) (l1_ : Int32) (LL_ : List Nat) (sv_ : Nat → Nat → Int32) (hpre : a0_ ∈ LL_ ∧ PIv LL_ sv_) : Tot (F_X5_reset K a0_ l1_ LL_ sv_) (fun r => PIv LL_ r ∧ (r a0_ 1).toInt = 0) := by
  unfold F_X5_reset
  obtain ⟨n, hn⟩ : ∃ n9, K = n9 + 8 := ⟨K - 8, by omega⟩
  have hn2 : 999999000 ≤ n := by omega
  suffices hs : Tot (L_X5_reset K  (n + 8) 0 a0_ l1_ LL_ sv_) (fun r => PIv LL_ r ∧ (r a0_ 1).toInt = 0) from by rw [← hn] at hs; exact hs
  rw [L_X5_reset_e0]; unfold B_X5_reset_0; try simp only [subOne]
  repeat' (first | with_reducible refine Tot.ret ?_ | with_reducible refine Tot.ix ?_ ?_ | with_reducible refine Tot.yesB (by decide) ?_ | with_reducible refine Tot.noB (by decide) ?_ | with_reducible refine Tot.yes ?_ ?_ | with_reducible refine Tot.br (fun _ => ?_) (fun _ => ?_) | (rw [L_X5_reset_e0]; unfold B_X5_reset_0; try simp only [subOne]))
  all_goals (first | exact hpre.1 | exact ⟨hpre.2.reset, by simp [sU]⟩)
set_option maxHeartbeats 400000 in
set_option maxRecDepth 100000 in
theorem T_X4_reset (K : Nat) (hK : 1000000000 ≤ K) (p_size_ : Int32) (p_codeSize_ : Int32) (p_outs_ : Int32) (p_used_ : Int32) (hpre : True) : Tot (F_X4_reset K p_size_ p_codeSize_ p_outs_ p_used_) (fun r => r.1.toInt = 0 ∧ r.2.1.toInt = 0) := by
  unfold F_X4_reset
  obtain ⟨n, hn⟩ : ∃ n9, K = n9 + 8 := ⟨K - 8, by omega⟩
  have hn2 : 999999000 ≤ n := by omega
  suffices hs : Tot (L_X4_reset K  (n + 8) 0 p_size_ p_codeSize_ p_outs_ p_used_) (fun r => r.1.toInt = 0 ∧ r.2.1.toInt = 0) from by rw [← hn] at hs; exact hs
  rw [L_X4_reset_e0]; unfold B_X4_reset_0; try simp only [subOne]
  repeat' (first | with_reducible refine Tot.ret ?_ | with_reducible refine Tot.ix ?_ ?_ | with_reducible refine Tot.yesB (by decide) ?_ | with_reducible refine Tot.noB (by decide) ?_ | with_reducible refine Tot.yes ?_ ?_ | with_reducible refine Tot.br (fun _ => ?_) (fun _ => ?_) | (rw [L_X4_reset_e0]; unfold B_X4_reset_0; try simp only [subOne]))
  all_goals (first | exact True.intro | omega | (((try simp only [ne_eq, true_and, and_true, true_or, or_true, false_or, or_false, not_true_eq_false, not_false_eq_true, false_and, and_false, Int32.lt_iff_toInt_lt, Int32.le_iff_toInt_le, ← Int32.toInt_inj, Int32.toInt_add, Int32.toInt_sub, Int32.toInt_mul, Int32.reduceToInt, ge_iff_le, gt_iff_lt, upd_eq, upd_upd] at *) <;> (try simp (disch := omega) only [bmI] at *)) <;> (first | omega | ((try simp only [Int.bmod] at *) <;> omega) | (simp_all <;> fail))))
set_option maxHeartbeats 400000 in
set_option maxRecDepth 100000 in
theorem T_X4_isFull (K : Nat) (hK : 1000000000 ≤ K) (p_size_ : Int32) (hpre : True) : Tot (F_X4_isFull K p_size_) (fun r => (r = 1 ∧ 30 ≤ p_size_.toInt) ∨ (r = 0 ∧ p_size_.toInt < 30)) := by
  unfold F_X4_isFull
  obtain ⟨n, hn⟩ : ∃ n9, K = n9 + 8 := ⟨K - 8, by omega⟩
  have hn2 : 999999000 ≤ n := by omega
  suffices hs : Tot (L_X4_isFull K  (n + 8) 0 p_size_) (fun r => (r = 1 ∧ 30 ≤ p_size_.toInt) ∨ (r = 0 ∧ p_size_.toInt < 30)) from by rw [← hn] at hs; exact hs
  rw [L_X4_isFull_e0]; unfold B_X4_isFull_0; try simp only [subOne]
  repeat' (first | with_reducible refine Tot.ret ?_ | with_reducible refine Tot.ix ?_ ?_ | with_reducible refine Tot.yesB (by decide) ?_ | with_reducible refine Tot.noB (by decide) ?_ | with_reducible refine Tot.yes ?_ ?_ | with_reducible refine Tot.br (fun _ => ?_) (fun _ => ?_) | (rw [L_X4_isFull_e0]; unfold B_X4_isFull_0; try simp only [subOne]))
  all_goals (first | exact True.intro | omega | (((try simp only [ne_eq, true_and, and_true, true_or, or_true, false_or, or_false, not_true_eq_false, not_false_eq_true, false_and, and_false, Int32.lt_iff_toInt_lt, Int32.le_iff_toInt_le, ← Int32.toInt_inj, Int32.toInt_add, Int32.toInt_sub, Int32.toInt_mul, Int32.reduceToInt, ge_iff_le, gt_iff_lt, upd_eq, upd_upd] at *) <;> (try simp (disch := omega) only [bmI] at *)) <;> (first | omega | ((try simp only [Int.bmod] at *) <;> omega) | (simp_all <;> fail))))
set_option maxHeartbeats 400000 in
set_option maxRecDepth 100000 in
theorem T_X4_emit (K : Nat) (hK : 1000000000 ≤ K) (l1_ : Int32) (p_codeSize_ : Int32) (pk_ : Nat → Int32) (hpre : CSz p_codeSize_) : Tot (F_X4_emit K l1_ p_codeSize_ pk_) (fun r => CSz r.1) := by
  unfold CSz at hpre
  unfold F_X4_emit
  obtain ⟨n, hn⟩ : ∃ n9, K = n9 + 8 := ⟨K - 8, by omega⟩
  have hn2 : 999999000 ≤ n := by omega
  suffices hs : Tot (L_X4_emit K  (n + 8) 0 l1_ p_codeSize_ pk_) (fun r => CSz r.1) from by rw [← hn] at hs; exact hs
  rw [L_X4_emit_e0]; unfold B_X4_emit_0; try simp only [subOne]
  repeat' (first | with_reducible refine Tot.ret ?_ | with_reducible refine Tot.ix ?_ ?_ | with_reducible refine Tot.yesB (by decide) ?_ | with_reducible refine Tot.noB (by decide) ?_ | with_reducible refine Tot.yes ?_ ?_ | with_reducible refine Tot.br (fun _ => ?_) (fun _ => ?_) | (rw [L_X4_emit_e0]; unfold B_X4_emit_0; try simp only [subOne]))
  all_goals (first | (unfold CSz; (first | exact True.intro | omega | (((try simp only [ne_eq, true_and, and_true, true_or, or_true, false_or, or_false, not_true_eq_false, not_false_eq_true, false_and, and_false, Int32.lt_iff_toInt_lt, Int32.le_iff_toInt_le, ← Int32.toInt_inj, Int32.toInt_add, Int32.toInt_sub, Int32.toInt_mul, Int32.reduceToInt, ge_iff_le, gt_iff_lt, upd_eq, upd_upd] at *) <;> (try simp (disch := omega) only [bmI] at *)) <;> (first | omega | ((try simp only [Int.bmod] at *) <;> omega) | (simp_all <;> fail))))) | (first | exact True.intro | omega | (((try simp only [ne_eq, true_and, and_true, true_or, or_true, false_or, or_false, not_true_eq_false, not_false_eq_true, false_and, and_false, Int32.lt_iff_toInt_lt, Int32.le_iff_toInt_le, ← Int32.toInt_inj, Int32.toInt_add, Int32.toInt_sub, Int32.toInt_mul, Int32.reduceToInt, ge_iff_le, gt_iff_lt, upd_eq, upd_upd] at *) <;> (try simp (disch := omega) only [bmI] at *)) <;> (first | omega | ((try simp only [Int.bmod] at *) <;> omega) | (simp_all <;> fail)))))
set_option maxHeartbeats 400000 in
set_option maxRecDepth 100000 in
theorem T_X4_append (K : Nat) (hK : 1000000000 ≤ K) (l1_ : Int32) (LL_ : List Nat) (sv_ : Nat → Nat → Int32) (p_size_ : Int32) (pg_ : Nat → Option Nat) (hpre : (PGv LL_ pg_ ∧ PIv LL_ sv_) ∧ 0 ≤ p_size_.toInt) : Tot (F_X4_append K l1_ LL_ sv_ p_size_ pg_) (fun r => (r.1 ∈ LL_ ∧ PIv LL_ r.2.1) ∧ PSz r.2.2 ∧ (r.2.1 r.1 1).toInt = 0) := by
  obtain ⟨⟨hG, hI⟩, h0⟩ := hpre
  have hmx : 0 ≤ (if 29 < p_size_ then 29 else p_size_).toInt ∧ (if 29 < p_size_ then 29 else p_size_).toInt < 30 := by (split <;> (first | exact True.intro | omega | (((try simp only [ne_eq, true_and, and_true, true_or, or_true, false_or, or_false, not_true_eq_false, not_false_eq_true, false_and, and_false, Int32.lt_iff_toInt_lt, Int32.le_iff_toInt_le, ← Int32.toInt_inj, Int32.toInt_add, Int32.toInt_sub, Int32.toInt_mul, Int32.reduceToInt, ge_iff_le, gt_iff_lt, upd_eq, upd_upd] at *) <;> (try simp (disch := omega) only [bmI] at *)) <;> (first | omega | ((try simp only [Int.bmod] at *) <;> omega) | (simp_all <;> fail)))))
  generalize hgx : (if 29 < p_size_ then 29 else p_size_) = mx at hmx
  unfold F_X4_append
  obtain ⟨n, hn⟩ : ∃ n9, K = n9 + 8 := ⟨K - 8, by omega⟩
  have hn2 : 999999000 ≤ n := by omega
  suffices hs : Tot (L_X4_append K  (n + 8) 0 l1_ LL_ sv_ p_size_ pg_) (fun r => (r.1 ∈ LL_ ∧ PIv LL_ r.2.1) ∧ PSz r.2.2 ∧ (r.2.1 r.1 1).toInt = 0) from by rw [← hn] at hs; exact hs
  rw [L_X4_append_e0]; unfold B_X4_append_0; try simp only [subOne]
  repeat' (first | with_reducible refine Tot.ret ?_ | with_reducible refine Tot.ix ?_ ?_ | with_reducible refine Tot.yesB (by decide) ?_ | with_reducible refine Tot.noB (by decide) ?_ | with_reducible refine Tot.pg hG ?_ (fun _ _ _ => ?_) | with_reducible refine Tot.yes ?_ ?_ | with_reducible refine Tot.br (fun _ => ?_) (fun _ => ?_) | with_reducible refine Tot.bd (T_X5_reset K hK _ _ _ _ ?_) (fun _ _ => ?_) | (rw [L_X4_append_e0]; unfold B_X4_append_0; try simp only [subOne]))
  all_goals ((try dsimp only) <;> (first | exact ⟨by assumption, hI⟩ | exact hmx | (rw [hgx]; exact hmx) | (rename_i a1 e1 m1 o ho a2 e2 m2; have ea : a2 = a1 := Option.some.inj (e2.symm.trans e1); subst ea; refine ⟨⟨m2, ho.1⟩, ?_, ho.2⟩; unfold PSz; rw [hgx]; (first | exact True.intro | omega | (((try simp only [ne_eq, true_and, and_true, true_or, or_true, false_or, or_false, not_true_eq_false, not_false_eq_true, false_and, and_false, Int32.lt_iff_toInt_lt, Int32.le_iff_toInt_le, ← Int32.toInt_inj, Int32.toInt_add, Int32.toInt_sub, Int32.toInt_mul, Int32.reduceToInt, ge_iff_le, gt_iff_lt, upd_eq, upd_upd] at *) <;> (try simp (disch := omega) only [bmI] at *)) <;> (first | omega | ((try simp only [Int.bmod] at *) <;> omega) | (simp_all <;> fail))))) | assumption | (first | exact True.intro | omega | (((try simp only [ne_eq, true_and, and_true, true_or, or_true, false_or, or_false, not_true_eq_false, not_false_eq_true, false_and, and_false, Int32.lt_iff_toInt_lt, Int32.le_iff_toInt_le, ← Int32.toInt_inj, Int32.toInt_add, Int32.toInt_sub, Int32.toInt_mul, Int32.reduceToInt, ge_iff_le, gt_iff_lt, upd_eq, upd_upd] at *) <;> (try simp (disch := omega) only [bmI] at *)) <;> (first | omega | ((try simp only [Int.bmod] at *) <;> omega) | (simp_all <;> fail))))))
set_option maxHeartbeats 400000 in
set_option maxRecDepth 100000 in
theorem T_X2_kept (K : Nat) (hK : 1000000000 ≤ K) (m_cameOut_ : Int32) (hpre : True) : Tot (F_X2_kept K m_cameOut_) (fun r => r.toInt ≤ 20 ∧ r.toInt ≤ m_cameOut_.toInt ∧ (0 ≤ m_cameOut_.toInt → 0 ≤ r.toInt)) := by
  unfold F_X2_kept
  obtain ⟨n, hn⟩ : ∃ n9, K = n9 + 8 := ⟨K - 8, by omega⟩
  have hn2 : 999999000 ≤ n := by omega
  suffices hs : Tot (L_X2_kept K  (n + 8) 0 m_cameOut_) (fun r => r.toInt ≤ 20 ∧ r.toInt ≤ m_cameOut_.toInt ∧ (0 ≤ m_cameOut_.toInt → 0 ≤ r.toInt)) from by rw [← hn] at hs; exact hs
  rw [L_X2_kept_e0]; unfold B_X2_kept_0; try simp only [subOne]
  repeat' (first | with_reducible refine Tot.ret ?_ | with_reducible refine Tot.ix ?_ ?_ | with_reducible refine Tot.yesB (by decide) ?_ | with_reducible refine Tot.noB (by decide) ?_ | with_reducible refine Tot.yes ?_ ?_ | with_reducible refine Tot.br (fun _ => ?_) (fun _ => ?_) | (rw [L_X2_kept_e0]; unfold B_X2_kept_0; try simp only [subOne]))
  all_goals (split <;> (first | exact True.intro | omega | (((try simp only [ne_eq, true_and, and_true, true_or, or_true, false_or, or_false, not_true_eq_false, not_false_eq_true, false_and, and_false, Int32.lt_iff_toInt_lt, Int32.le_iff_toInt_le, ← Int32.toInt_inj, Int32.toInt_add, Int32.toInt_sub, Int32.toInt_mul, Int32.reduceToInt, ge_iff_le, gt_iff_lt, upd_eq, upd_upd] at *) <;> (try simp (disch := omega) only [bmI] at *)) <;> (first | omega | ((try simp only [Int.bmod] at *) <;> omega) | (simp_all <;> fail)))))
set_option maxHeartbeats 400000 in
set_option maxRecDepth 100000 in
theorem T_X2_assign (K : Nat) (hK : 1000000000 ≤ K) (l1_ : Int32) (l2_ : Int32) (m_numbers_ : Int32) (hpre : True) : Tot (F_X2_assign K l1_ l2_ m_numbers_) (fun r => True) := by
  unfold F_X2_assign
  obtain ⟨n, hn⟩ : ∃ n9, K = n9 + 8 := ⟨K - 8, by omega⟩
  have hn2 : 999999000 ≤ n := by omega
  suffices hs : Tot (L_X2_assign K  (n + 8) 0 l1_ l2_ m_numbers_) (fun r => True) from by rw [← hn] at hs; exact hs
  rw [L_X2_assign_e0]; unfold B_X2_assign_0; try simp only [subOne]
  repeat' (first | with_reducible refine Tot.ret ?_ | with_reducible refine Tot.ix ?_ ?_ | with_reducible refine Tot.yesB (by decide) ?_ | with_reducible refine Tot.noB (by decide) ?_ | with_reducible refine Tot.yes ?_ ?_ | with_reducible refine Tot.br (fun _ => ?_) (fun _ => ?_) | (rw [L_X2_assign_e0]; unfold B_X2_assign_0; try simp only [subOne]))
  all_goals (first | exact True.intro | omega | (((try simp only [ne_eq, true_and, and_true, true_or, or_true, false_or, or_false, not_true_eq_false, not_false_eq_true, false_and, and_false, Int32.lt_iff_toInt_lt, Int32.le_iff_toInt_le, ← Int32.toInt_inj, Int32.toInt_add, Int32.toInt_sub, Int32.toInt_mul, Int32.reduceToInt, ge_iff_le, gt_iff_lt, upd_eq, upd_upd] at *) <;> (try simp (disch := omega) only [bmI] at *)) <;> (first | omega | ((try simp only [Int.bmod] at *) <;> omega) | (simp_all <;> fail))))
set_option maxHeartbeats 400000 in
set_option maxRecDepth 100000 in
theorem T_X2_putOut (K : Nat) (hK : 1000000000 ≤ K) (l1_ : Int32) (l2_ : Int32) (m_cameOut_ : Int32) (mfn_ : Nat → Int32) (mfl_ : Nat → Int32) (hpre : 0 ≤ m_cameOut_.toInt ∧ m_cameOut_.toInt ≤ 400) : Tot (F_X2_putOut K l1_ l2_ m_cameOut_ mfn_ mfl_) (fun r => r.1.toInt = m_cameOut_.toInt + 1) := by
  unfold F_X2_putOut
  obtain ⟨n, hn⟩ : ∃ n9, K = n9 + 8 := ⟨K - 8, by omega⟩
  have hn2 : 999999000 ≤ n := by omega
  suffices hs : Tot (L_X2_putOut K  (n + 8) 0 l1_ l2_ m_cameOut_ mfn_ mfl_) (fun r => r.1.toInt = m_cameOut_.toInt + 1) from by rw [← hn] at hs; exact hs
  rw [L_X2_putOut_e0]; unfold B_X2_putOut_0; try simp only [subOne]
  repeat' (first | with_reducible refine Tot.ret ?_ | with_reducible refine Tot.ix ?_ ?_ | with_reducible refine Tot.yesB (by decide) ?_ | with_reducible refine Tot.noB (by decide) ?_ | with_reducible refine Tot.yes ?_ ?_ | with_reducible refine Tot.br (fun _ => ?_) (fun _ => ?_) | (rw [L_X2_putOut_e0]; unfold B_X2_putOut_0; try simp only [subOne]) | (rw [L_X2_putOut_e1]; unfold B_X2_putOut_1; try simp only [subOne]))
  all_goals (first | exact True.intro | omega | (((try simp only [ne_eq, true_and, and_true, true_or, or_true, false_or, or_false, not_true_eq_false, not_false_eq_true, false_and, and_false, Int32.lt_iff_toInt_lt, Int32.le_iff_toInt_le, ← Int32.toInt_inj, Int32.toInt_add, Int32.toInt_sub, Int32.toInt_mul, Int32.reduceToInt, ge_iff_le, gt_iff_lt, upd_eq, upd_upd] at *) <;> (try simp (disch := omega) only [bmI] at *)) <;> (first | omega | ((try simp only [Int.bmod] at *) <;> omega) | (simp_all <;> fail))))
set_option maxHeartbeats 4000000 in
set_option maxRecDepth 100000 in
theorem T_X2_valueOf (K : Nat) (hK : 1000000000 ≤ K) (a2_ : Nat) (LL_ : List Nat) (sv_ : Nat → Nat → Int32) (m_numbers_ : Int32) (pk_ : Nat → Int32) (hpre : a2_ ∈ LL_ ∧ PIv LL_ sv_) : Tot (F_X2_valueOf K a2_ LL_ sv_ m_numbers_ pk_) (fun r => True) := by
  obtain ⟨hm, hI0⟩ := hpre
  have hP := hI0 a2_ hm
  have key : ∀ N : Nat, (∀ (a2 : Nat) (j3 : Int64) (l5 : Int32) (l6 : Int32) (l7 : Int32) (l8 : Int32) (l9 : Int32) (s0 : Int32) (u0 : Int64), (a2 = a2_ ∧ 0 ≤ l5.toInt ∧ l5.toInt ≤ 2147483647) → (300 - l5.toInt).toNat < N → ∀ n : Nat, 8 * ((300 - l5.toInt).toNat + 1) ≤ n → Tot (L_X2_valueOf K  n 1 a2 j3 l5 l6 l7 l8 l9 s0 u0 LL_ sv_ m_numbers_ pk_) (fun r => True)) := by
    intro N
    induction N with
    | zero => exact fun _ _ _ _ _ _ _ _ _ _ hm => absurd hm (Nat.not_lt_zero _)
    | succ N ih =>
      have ih1 := ih; clear ih
      · intro a2 j3 l5 l6 l7 l8 l9 s0 u0 hI hm n hn
        obtain ⟨n, rfl⟩ : ∃ n9, n = n9 + 8 := ⟨n - 8, by omega⟩
        obtain ⟨rfl, h0, h1⟩ := hI
        rw [L_X2_valueOf_e1]; unfold B_X2_valueOf_1; try simp only [subOne]
        repeat' (first | with_reducible refine Tot.ret ?_ | with_reducible refine Tot.ix ?_ ?_ | with_reducible refine Tot.yesB (by decide) ?_ | with_reducible refine Tot.noB (by decide) ?_ | with_reducible refine Tot.yes ?_ ?_ | with_reducible refine Tot.br (fun _ => ?_) (fun _ => ?_) | with_reducible refine ih1 _ _ _ _ _ _ _ _ _ ?_ ?_ _ ?_ | (rw [L_X2_valueOf_e0]; unfold B_X2_valueOf_0; try simp only [subOne]) | (rw [L_X2_valueOf_e2]; unfold B_X2_valueOf_2; try simp only [subOne]) | (rw [L_X2_valueOf_e3]; unfold B_X2_valueOf_3; try simp only [subOne]) | (rw [L_X2_valueOf_e4]; unfold B_X2_valueOf_4; try simp only [subOne]) | (rw [L_X2_valueOf_e5]; unfold B_X2_valueOf_5; try simp only [subOne]) | (rw [L_X2_valueOf_e6]; unfold B_X2_valueOf_6; try simp only [subOne]) | (rw [L_X2_valueOf_e7]; unfold B_X2_valueOf_7; try simp only [subOne]))
        all_goals clear ih1
        all_goals ((try dsimp only) <;> (first | exact ⟨rfl, by (first | exact True.intro | omega | (((try simp only [ne_eq, true_and, and_true, true_or, or_true, false_or, or_false, not_true_eq_false, not_false_eq_true, false_and, and_false, Int32.lt_iff_toInt_lt, Int32.le_iff_toInt_le, ← Int32.toInt_inj, Int32.toInt_add, Int32.toInt_sub, Int32.toInt_mul, Int32.reduceToInt, ge_iff_le, gt_iff_lt, upd_eq, upd_upd] at *) <;> (try simp (disch := omega) only [bmI] at *)) <;> (first | omega | ((try simp only [Int.bmod] at *) <;> omega) | (simp_all <;> fail)))), by (first | exact True.intro | omega | (((try simp only [ne_eq, true_and, and_true, true_or, or_true, false_or, or_false, not_true_eq_false, not_false_eq_true, false_and, and_false, Int32.lt_iff_toInt_lt, Int32.le_iff_toInt_le, ← Int32.toInt_inj, Int32.toInt_add, Int32.toInt_sub, Int32.toInt_mul, Int32.reduceToInt, ge_iff_le, gt_iff_lt, upd_eq, upd_upd] at *) <;> (try simp (disch := omega) only [bmI] at *)) <;> (first | omega | ((try simp only [Int.bmod] at *) <;> omega) | (simp_all <;> fail))))⟩ | assumption | (first | exact True.intro | omega | (((try simp only [ne_eq, true_and, and_true, true_or, or_true, false_or, or_false, not_true_eq_false, not_false_eq_true, false_and, and_false, Int32.lt_iff_toInt_lt, Int32.le_iff_toInt_le, ← Int32.toInt_inj, Int32.toInt_add, Int32.toInt_sub, Int32.toInt_mul, Int32.reduceToInt, ge_iff_le, gt_iff_lt, upd_eq, upd_upd] at *) <;> (try simp (disch := omega) only [bmI] at *)) <;> (first | omega | ((try simp only [Int.bmod] at *) <;> omega) | (simp_all <;> fail))))))
  have hk1 : ∀ (a2 : Nat) (j3 : Int64) (l5 : Int32) (l6 : Int32) (l7 : Int32) (l8 : Int32) (l9 : Int32) (s0 : Int32) (u0 : Int64), (a2 = a2_ ∧ 0 ≤ l5.toInt ∧ l5.toInt ≤ 2147483647) → ∀ n : Nat, 8 * ((300 - l5.toInt).toNat + 1) ≤ n → Tot (L_X2_valueOf K  n 1 a2 j3 l5 l6 l7 l8 l9 s0 u0 LL_ sv_ m_numbers_ pk_) (fun r => True) := fun a2 j3 l5 l6 l7 l8 l9 s0 u0 hI n hn => (key ((300 - l5.toInt).toNat + 1)) a2 j3 l5 l6 l7 l8 l9 s0 u0 hI (Nat.lt_succ_self _) n hn
  clear key
  unfold F_X2_valueOf
  obtain ⟨n, hn⟩ : ∃ n9, K = n9 + 8 := ⟨K - 8, by omega⟩
  have hn2 : 999999000 ≤ n := by omega
  suffices hs : Tot (L_X2_valueOf K  (n + 8) 0 a2_ 0 0 0 0 0 0 0 0 LL_ sv_ m_numbers_ pk_) (fun r => True) from by rw [← hn] at hs; exact hs
  rw [L_X2_valueOf_e0]; unfold B_X2_valueOf_0; try simp only [subOne]
  repeat' (first | with_reducible refine Tot.ret ?_ | with_reducible refine Tot.ix ?_ ?_ | with_reducible refine Tot.yesB (by decide) ?_ | with_reducible refine Tot.noB (by decide) ?_ | with_reducible refine Tot.yes ?_ ?_ | with_reducible refine Tot.br (fun _ => ?_) (fun _ => ?_) | with_reducible refine hk1 _ _ _ _ _ _ _ _ _ ?_ _ ?_ | (rw [L_X2_valueOf_e0]; unfold B_X2_valueOf_0; try simp only [subOne]) | (rw [L_X2_valueOf_e2]; unfold B_X2_valueOf_2; try simp only [subOne]) | (rw [L_X2_valueOf_e3]; unfold B_X2_valueOf_3; try simp only [subOne]) | (rw [L_X2_valueOf_e4]; unfold B_X2_valueOf_4; try simp only [subOne]) | (rw [L_X2_valueOf_e5]; unfold B_X2_valueOf_5; try simp only [subOne]) | (rw [L_X2_valueOf_e6]; unfold B_X2_valueOf_6; try simp only [subOne]) | (rw [L_X2_valueOf_e7]; unfold B_X2_valueOf_7; try simp only [subOne]))
  all_goals clear hk1
  all_goals ((try dsimp only) <;> (first | exact ⟨rfl, by omega, by have := i32r (sv_ a2_ 4); omega⟩ | (have := i32r (sv_ a2_ 4); omega) | assumption | (first | exact True.intro | omega | (((try simp only [ne_eq, true_and, and_true, true_or, or_true, false_or, or_false, not_true_eq_false, not_false_eq_true, false_and, and_false, Int32.lt_iff_toInt_lt, Int32.le_iff_toInt_le, ← Int32.toInt_inj, Int32.toInt_add, Int32.toInt_sub, Int32.toInt_mul, Int32.reduceToInt, ge_iff_le, gt_iff_lt, upd_eq, upd_upd] at *) <;> (try simp (disch := omega) only [bmI] at *)) <;> (first | omega | ((try simp only [Int.bmod] at *) <;> omega) | (simp_all <;> fail))))))
set_option maxHeartbeats 400000 in
set_option maxRecDepth 100000 in
theorem T_X1_begin (K : Nat) (hK : 1000000000 ≤ K) (l1_ : Int32) (wt_slotMask_ : Int32) (wt_many_ : Int32) (wt_greatest_ : Int32) (wtgo_ : Nat → Int32) (hpre : (1 ≤ l1_.toInt ∧ l1_.toInt ≤ 4096) ∧ ∀ i : Nat, i < 8192 → 0 ≤ (wtgo_ i).toInt ∧ (wtgo_ i).toInt ≤ 4096) : Tot (F_X1_begin K l1_ wt_slotMask_ wt_many_ wt_greatest_ wtgo_) (fun r => TBv r.1 r.2.1 r.2.2.2) := by
  obtain ⟨hA, hg⟩ := hpre
  have hl2 : 1 ≤ (if 8192 < (2 * l1_) then 8192 else (2 * l1_)).toInt ∧ (if 8192 < (2 * l1_) then 8192 else (2 * l1_)).toInt ≤ 8192 := by (split <;> (first | exact True.intro | omega | (((try simp only [ne_eq, true_and, and_true, true_or, or_true, false_or, or_false, not_true_eq_false, not_false_eq_true, false_and, and_false, Int32.lt_iff_toInt_lt, Int32.le_iff_toInt_le, ← Int32.toInt_inj, Int32.toInt_add, Int32.toInt_sub, Int32.toInt_mul, Int32.reduceToInt, ge_iff_le, gt_iff_lt, upd_eq, upd_upd] at *) <;> (try simp (disch := omega) only [bmI] at *)) <;> (first | omega | ((try simp only [Int.bmod] at *) <;> omega) | (simp_all <;> fail)))))
  have key : ∀ N : Nat, (∀ (l1 : Int32) (l2 : Int32) (l3 : Int32) (wt_slotMask : Int32) (wt_many : Int32) (wt_greatest : Int32) (wtgo : Nat → Int32), ((1 ≤ l2.toInt ∧ l2.toInt ≤ 8192 ∧ 0 ≤ l3.toInt ∧ l3.toInt ≤ 8192) ∧ ∀ i : Nat, i < 8192 → 0 ≤ (wtgo i).toInt ∧ (wtgo i).toInt ≤ 4096) → (8192 - l3.toInt).toNat < N → ∀ n : Nat, 8 * ((8192 - l3.toInt).toNat + 1) ≤ n → Tot (L_X1_begin K  n 1 l1 l2 l3 wt_slotMask wt_many wt_greatest wtgo) (fun r => TBv r.1 r.2.1 r.2.2.2)) := by
    intro N
    induction N with
    | zero => exact fun _ _ _ _ _ _ _ _ hm => absurd hm (Nat.not_lt_zero _)
    | succ N ih =>
      have ih1 := ih; clear ih
      · intro l1 l2 l3 wt_slotMask wt_many wt_greatest wtgo hI hm n hn
        obtain ⟨n, rfl⟩ : ∃ n9, n = n9 + 8 := ⟨n - 8, by omega⟩
        obtain ⟨hB, hgo⟩ := hI
        rw [L_X1_begin_e1]; unfold B_X1_begin_1; try simp only [subOne]
        repeat' (first | with_reducible refine Tot.ret ?_ | with_reducible refine Tot.ix ?_ ?_ | with_reducible refine Tot.yesB (by decide) ?_ | with_reducible refine Tot.noB (by decide) ?_ | with_reducible refine Tot.yes ?_ ?_ | with_reducible refine Tot.br (fun _ => ?_) (fun _ => ?_) | with_reducible refine ih1 _ _ _ _ _ _ _ ?_ ?_ _ ?_ | (rw [L_X1_begin_e0]; unfold B_X1_begin_0; try simp only [subOne]))
        all_goals clear ih1
        all_goals ((try dsimp only) <;> (first | exact TBv.mk (by (first | exact True.intro | omega | (((try simp only [ne_eq, true_and, and_true, true_or, or_true, false_or, or_false, not_true_eq_false, not_false_eq_true, false_and, and_false, Int32.lt_iff_toInt_lt, Int32.le_iff_toInt_le, ← Int32.toInt_inj, Int32.toInt_add, Int32.toInt_sub, Int32.toInt_mul, Int32.reduceToInt, ge_iff_le, gt_iff_lt, upd_eq, upd_upd] at *) <;> (try simp (disch := omega) only [bmI] at *)) <;> (first | omega | ((try simp only [Int.bmod] at *) <;> omega) | (simp_all <;> fail))))) (by decide) hgo | exact ⟨by (first | exact True.intro | omega | (((try simp only [ne_eq, true_and, and_true, true_or, or_true, false_or, or_false, not_true_eq_false, not_false_eq_true, false_and, and_false, Int32.lt_iff_toInt_lt, Int32.le_iff_toInt_le, ← Int32.toInt_inj, Int32.toInt_add, Int32.toInt_sub, Int32.toInt_mul, Int32.reduceToInt, ge_iff_le, gt_iff_lt, upd_eq, upd_upd] at *) <;> (try simp (disch := omega) only [bmI] at *)) <;> (first | omega | ((try simp only [Int.bmod] at *) <;> omega) | (simp_all <;> fail)))), goU hgo (by decide) (by decide)⟩ | assumption | (first | exact True.intro | omega | (((try simp only [ne_eq, true_and, and_true, true_or, or_true, false_or, or_false, not_true_eq_false, not_false_eq_true, false_and, and_false, Int32.lt_iff_toInt_lt, Int32.le_iff_toInt_le, ← Int32.toInt_inj, Int32.toInt_add, Int32.toInt_sub, Int32.toInt_mul, Int32.reduceToInt, ge_iff_le, gt_iff_lt, upd_eq, upd_upd] at *) <;> (try simp (disch := omega) only [bmI] at *)) <;> (first | omega | ((try simp only [Int.bmod] at *) <;> omega) | (simp_all <;> fail))))))
  have hk1 : ∀ (l1 : Int32) (l2 : Int32) (l3 : Int32) (wt_slotMask : Int32) (wt_many : Int32) (wt_greatest : Int32) (wtgo : Nat → Int32), ((1 ≤ l2.toInt ∧ l2.toInt ≤ 8192 ∧ 0 ≤ l3.toInt ∧ l3.toInt ≤ 8192) ∧ ∀ i : Nat, i < 8192 → 0 ≤ (wtgo i).toInt ∧ (wtgo i).toInt ≤ 4096) → ∀ n : Nat, 8 * ((8192 - l3.toInt).toNat + 1) ≤ n → Tot (L_X1_begin K  n 1 l1 l2 l3 wt_slotMask wt_many wt_greatest wtgo) (fun r => TBv r.1 r.2.1 r.2.2.2) := fun l1 l2 l3 wt_slotMask wt_many wt_greatest wtgo hI n hn => (key ((8192 - l3.toInt).toNat + 1)) l1 l2 l3 wt_slotMask wt_many wt_greatest wtgo hI (Nat.lt_succ_self _) n hn
  clear key
  unfold F_X1_begin
  obtain ⟨n, hn⟩ : ∃ n9, K = n9 + 8 := ⟨K - 8, by omega⟩
  have hn2 : 999999000 ≤ n := by omega
  suffices hs : Tot (L_X1_begin K  (n + 8) 0 l1_ 0 0 wt_slotMask_ wt_many_ wt_greatest_ wtgo_) (fun r => TBv r.1 r.2.1 r.2.2.2) from by rw [← hn] at hs; exact hs
  rw [L_X1_begin_e0]; unfold B_X1_begin_0; try simp only [subOne]
  repeat' (first | with_reducible refine Tot.ret ?_ | with_reducible refine Tot.ix ?_ ?_ | with_reducible refine Tot.yesB (by decide) ?_ | with_reducible refine Tot.noB (by decide) ?_ | with_reducible refine Tot.yes ?_ ?_ | with_reducible refine Tot.br (fun _ => ?_) (fun _ => ?_) | with_reducible refine hk1 _ _ _ _ _ _ _ ?_ _ ?_ | (rw [L_X1_begin_e0]; unfold B_X1_begin_0; try simp only [subOne]))
  all_goals clear hk1
  all_goals ((try dsimp only) <;> (first | exact ⟨⟨hl2.1, hl2.2, by decide, by decide⟩, hg⟩ | assumption | (first | exact True.intro | omega | (((try simp only [ne_eq, true_and, and_true, true_or, or_true, false_or, or_false, not_true_eq_false, not_false_eq_true, false_and, and_false, Int32.lt_iff_toInt_lt, Int32.le_iff_toInt_le, ← Int32.toInt_inj, Int32.toInt_add, Int32.toInt_sub, Int32.toInt_mul, Int32.reduceToInt, ge_iff_le, gt_iff_lt, upd_eq, upd_upd] at *) <;> (try simp (disch := omega) only [bmI] at *)) <;> (first | omega | ((try simp only [Int.bmod] at *) <;> omega) | (simp_all <;> fail))))))
set_option maxHeartbeats 400000 in
set_option maxRecDepth 100000 in
theorem T_X1_open (K : Nat) (hK : 1000000000 ≤ K) (l1_ : Int32) (j2_ : Int64) (j4_ : Int64) (wt_many_ : Int32) (wtgf_ : Nat → Int64) (wtgs_ : Nat → Int64) (wtgz_ : Nat → Int32) (wtgo_ : Nat → Int32) (hpre : (0 ≤ l1_.toInt ∧ l1_.toInt < 8192 ∧ 0 ≤ wt_many_.toInt) ∧ ∀ i : Nat, i < 8192 → 0 ≤ (wtgo_ i).toInt ∧ (wtgo_ i).toInt ≤ 4096) : Tot (F_X1_open K l1_ j2_ j4_ wt_many_ wtgf_ wtgs_ wtgz_ wtgo_) (fun r => (0 ≤ r.1.toInt ∧ r.1.toInt < 4096 ∧ 0 ≤ r.2.1.toInt ∧ r.2.1.toInt ≤ 4096) ∧ ∀ i : Nat, i < 8192 → 0 ≤ (r.2.2.2.2.2 i).toInt ∧ (r.2.2.2.2.2 i).toInt ≤ 4096) := by
  obtain ⟨hA, hg⟩ := hpre
  have hmx : 0 ≤ (if 4095 < wt_many_ then 4095 else wt_many_).toInt ∧ (if 4095 < wt_many_ then 4095 else wt_many_).toInt < 4096 := by (split <;> (first | exact True.intro | omega | (((try simp only [ne_eq, true_and, and_true, true_or, or_true, false_or, or_false, not_true_eq_false, not_false_eq_true, false_and, and_false, Int32.lt_iff_toInt_lt, Int32.le_iff_toInt_le, ← Int32.toInt_inj, Int32.toInt_add, Int32.toInt_sub, Int32.toInt_mul, Int32.reduceToInt, ge_iff_le, gt_iff_lt, upd_eq, upd_upd] at *) <;> (try simp (disch := omega) only [bmI] at *)) <;> (first | omega | ((try simp only [Int.bmod] at *) <;> omega) | (simp_all <;> fail)))))
  generalize hgx : (if 4095 < wt_many_ then 4095 else wt_many_) = mx at hmx
  unfold F_X1_open
  obtain ⟨n, hn⟩ : ∃ n9, K = n9 + 8 := ⟨K - 8, by omega⟩
  have hn2 : 999999000 ≤ n := by omega
  suffices hs : Tot (L_X1_open K  (n + 8) 0 l1_ j2_ j4_ wt_many_ wtgf_ wtgs_ wtgz_ wtgo_) (fun r => (0 ≤ r.1.toInt ∧ r.1.toInt < 4096 ∧ 0 ≤ r.2.1.toInt ∧ r.2.1.toInt ≤ 4096) ∧ ∀ i : Nat, i < 8192 → 0 ≤ (r.2.2.2.2.2 i).toInt ∧ (r.2.2.2.2.2 i).toInt ≤ 4096) from by rw [← hn] at hs; exact hs
  rw [L_X1_open_e0]; unfold B_X1_open_0; try simp only [subOne]
  repeat' (first | with_reducible refine Tot.ret ?_ | with_reducible refine Tot.ix ?_ ?_ | with_reducible refine Tot.yesB (by decide) ?_ | with_reducible refine Tot.noB (by decide) ?_ | with_reducible refine Tot.yes ?_ ?_ | with_reducible refine Tot.br (fun _ => ?_) (fun _ => ?_) | (rw [L_X1_open_e0]; unfold B_X1_open_0; try simp only [subOne]))
  all_goals ((try dsimp only) <;> (first | exact hmx | exact ⟨by (first | exact True.intro | omega | (((try simp only [ne_eq, true_and, and_true, true_or, or_true, false_or, or_false, not_true_eq_false, not_false_eq_true, false_and, and_false, Int32.lt_iff_toInt_lt, Int32.le_iff_toInt_le, ← Int32.toInt_inj, Int32.toInt_add, Int32.toInt_sub, Int32.toInt_mul, Int32.reduceToInt, ge_iff_le, gt_iff_lt, upd_eq, upd_upd] at *) <;> (try simp (disch := omega) only [bmI] at *)) <;> (first | omega | ((try simp only [Int.bmod] at *) <;> omega) | (simp_all <;> fail)))), goU hg (by (first | exact True.intro | omega | (((try simp only [ne_eq, true_and, and_true, true_or, or_true, false_or, or_false, not_true_eq_false, not_false_eq_true, false_and, and_false, Int32.lt_iff_toInt_lt, Int32.le_iff_toInt_le, ← Int32.toInt_inj, Int32.toInt_add, Int32.toInt_sub, Int32.toInt_mul, Int32.reduceToInt, ge_iff_le, gt_iff_lt, upd_eq, upd_upd] at *) <;> (try simp (disch := omega) only [bmI] at *)) <;> (first | omega | ((try simp only [Int.bmod] at *) <;> omega) | (simp_all <;> fail))))) (by (first | exact True.intro | omega | (((try simp only [ne_eq, true_and, and_true, true_or, or_true, false_or, or_false, not_true_eq_false, not_false_eq_true, false_and, and_false, Int32.lt_iff_toInt_lt, Int32.le_iff_toInt_le, ← Int32.toInt_inj, Int32.toInt_add, Int32.toInt_sub, Int32.toInt_mul, Int32.reduceToInt, ge_iff_le, gt_iff_lt, upd_eq, upd_upd] at *) <;> (try simp (disch := omega) only [bmI] at *)) <;> (first | omega | ((try simp only [Int.bmod] at *) <;> omega) | (simp_all <;> fail)))))⟩ | assumption | (first | exact True.intro | omega | (((try simp only [ne_eq, true_and, and_true, true_or, or_true, false_or, or_false, not_true_eq_false, not_false_eq_true, false_and, and_false, Int32.lt_iff_toInt_lt, Int32.le_iff_toInt_le, ← Int32.toInt_inj, Int32.toInt_add, Int32.toInt_sub, Int32.toInt_mul, Int32.reduceToInt, ge_iff_le, gt_iff_lt, upd_eq, upd_upd] at *) <;> (try simp (disch := omega) only [bmI] at *)) <;> (first | omega | ((try simp only [Int.bmod] at *) <;> omega) | (simp_all <;> fail))))))
set_option maxHeartbeats 400000 in
set_option maxRecDepth 100000 in
theorem T_X1_grow (K : Nat) (hK : 1000000000 ≤ K) (l1_ : Int32) (wt_greatest_ : Int32) (wtgz_ : Nat → Int32) (hpre : 0 ≤ l1_.toInt ∧ l1_.toInt < 4096) : Tot (F_X1_grow K l1_ wt_greatest_ wtgz_) (fun r => True) := by
  unfold F_X1_grow
  obtain ⟨n, hn⟩ : ∃ n9, K = n9 + 8 := ⟨K - 8, by omega⟩
  have hn2 : 999999000 ≤ n := by omega
  suffices hs : Tot (L_X1_grow K  (n + 8) 0 l1_ wt_greatest_ wtgz_) (fun r => True) from by rw [← hn] at hs; exact hs
  rw [L_X1_grow_e0]; unfold B_X1_grow_0; try simp only [subOne]
  repeat' (first | with_reducible refine Tot.ret ?_ | with_reducible refine Tot.ix ?_ ?_ | with_reducible refine Tot.yesB (by decide) ?_ | with_reducible refine Tot.noB (by decide) ?_ | with_reducible refine Tot.yes ?_ ?_ | with_reducible refine Tot.br (fun _ => ?_) (fun _ => ?_) | (rw [L_X1_grow_e0]; unfold B_X1_grow_0; try simp only [subOne]))
  all_goals (first | exact True.intro | omega | (((try simp only [ne_eq, true_and, and_true, true_or, or_true, false_or, or_false, not_true_eq_false, not_false_eq_true, false_and, and_false, Int32.lt_iff_toInt_lt, Int32.le_iff_toInt_le, ← Int32.toInt_inj, Int32.toInt_add, Int32.toInt_sub, Int32.toInt_mul, Int32.reduceToInt, ge_iff_le, gt_iff_lt, upd_eq, upd_upd] at *) <;> (try simp (disch := omega) only [bmI] at *)) <;> (first | omega | ((try simp only [Int.bmod] at *) <;> omega) | (simp_all <;> fail))))
set_option maxHeartbeats 4000000 in
set_option maxRecDepth 100000 in
theorem T_X1_put (K : Nat) (hK : 1000000000 ≤ K) (j1_ : Int64) (j3_ : Int64) (wt_slotMask_ : Int32) (wt_many_ : Int32) (wt_greatest_ : Int32) (wtgf_ : Nat → Int64) (wtgs_ : Nat → Int64) (wtgz_ : Nat → Int32) (wtgo_ : Nat → Int32) (hpre : TBv wt_slotMask_ wt_many_ wtgo_) : Tot (F_X1_put K j1_ j3_ wt_slotMask_ wt_many_ wt_greatest_ wtgf_ wtgs_ wtgz_ wtgo_) (fun r => TBv wt_slotMask_ r.1 r.2.2.2.2.2) := by
  have hT := hpre
  have hs := hpre.1
  have key : ∀ N : Nat, (∀ (j1 : Int64) (j3 : Int64) (j5 : Int64) (l7 : Int32) (l8 : Int32) (l9 : Int32) (wt_many : Int32) (wt_greatest : Int32) (wtgf : Nat → Int64) (wtgs : Nat → Int64) (wtgz : Nat → Int32) (wtgo : Nat → Int32), ((0 ≤ l7.toInt ∧ l7.toInt ≤ wt_slotMask_.toInt ∧ 0 ≤ l8.toInt ∧ l8.toInt ≤ wt_slotMask_.toInt + 1) ∧ TBv wt_slotMask_ wt_many wtgo) → (wt_slotMask_.toInt + 1 - l8.toInt).toNat < N → ∀ n : Nat, 8 * ((wt_slotMask_.toInt + 1 - l8.toInt).toNat + 1) ≤ n → Tot (L_X1_put K  n 1 j1 j3 j5 l7 l8 l9 wt_slotMask_ wt_many wt_greatest wtgf wtgs wtgz wtgo) (fun r => TBv wt_slotMask_ r.1 r.2.2.2.2.2)) := by
    intro N
    induction N with
    | zero => exact fun _ _ _ _ _ _ _ _ _ _ _ _ _ hm => absurd hm (Nat.not_lt_zero _)
    | succ N ih =>
      have ih1 := ih; clear ih
      · intro j1 j3 j5 l7 l8 l9 wt_many wt_greatest wtgf wtgs wtgz wtgo hI hm n hn
        obtain ⟨n, rfl⟩ : ∃ n9, n = n9 + 8 := ⟨n - 8, by omega⟩
        obtain ⟨hB, hT⟩ := hI
        have hat := hT.at (i := l7) (by omega) (by omega)
        have hmn := hT.2.1
        have hm7 := and32 (l7 + 1) wt_slotMask_ (by omega)
        rw [L_X1_put_e1]; unfold B_X1_put_1; try simp only [subOne]
        repeat' (first | with_reducible refine Tot.ret ?_ | with_reducible refine Tot.ix ?_ ?_ | with_reducible refine Tot.yesB (by decide) ?_ | with_reducible refine Tot.noB (by decide) ?_ | with_reducible refine Tot.yes ?_ ?_ | with_reducible refine Tot.br (fun _ => ?_) (fun _ => ?_) | with_reducible refine Tot.bd (T_X1_open K hK _ _ _ _ _ _ _ _ ?_) (fun _ hO => ?_) | with_reducible refine Tot.bd (T_X1_grow K hK _ _ _ ?_) (fun _ _ => ?_) | with_reducible refine ih1 _ _ _ _ _ _ _ _ _ _ _ _ ?_ ?_ _ ?_ | (rw [L_X1_put_e0]; unfold B_X1_put_0; try simp only [subOne]) | (rw [L_X1_put_e2]; unfold B_X1_put_2; try simp only [subOne]) | (rw [L_X1_put_e3]; unfold B_X1_put_3; try simp only [subOne]) | dsimp only)
        all_goals clear ih1
        all_goals ((try dsimp only) <;> (first | exact hT | exact ⟨by (first | exact True.intro | omega | (((try simp only [ne_eq, true_and, and_true, true_or, or_true, false_or, or_false, not_true_eq_false, not_false_eq_true, false_and, and_false, Int32.lt_iff_toInt_lt, Int32.le_iff_toInt_le, ← Int32.toInt_inj, Int32.toInt_add, Int32.toInt_sub, Int32.toInt_mul, Int32.reduceToInt, ge_iff_le, gt_iff_lt, upd_eq, upd_upd] at *) <;> (try simp (disch := omega) only [bmI] at *)) <;> (first | omega | ((try simp only [Int.bmod] at *) <;> omega) | (simp_all <;> fail)))), hT.2.2⟩ | exact TBv.mk hs ⟨by omega, by omega⟩ hO.2 | exact ⟨by (first | exact True.intro | omega | (((try simp only [ne_eq, true_and, and_true, true_or, or_true, false_or, or_false, not_true_eq_false, not_false_eq_true, false_and, and_false, Int32.lt_iff_toInt_lt, Int32.le_iff_toInt_le, ← Int32.toInt_inj, Int32.toInt_add, Int32.toInt_sub, Int32.toInt_mul, Int32.reduceToInt, ge_iff_le, gt_iff_lt, upd_eq, upd_upd] at *) <;> (try simp (disch := omega) only [bmI] at *)) <;> (first | omega | ((try simp only [Int.bmod] at *) <;> omega) | (simp_all <;> fail)))), hT⟩ | exact ⟨by (first | exact True.intro | omega | (((try simp only [ne_eq, true_and, and_true, true_or, or_true, false_or, or_false, not_true_eq_false, not_false_eq_true, false_and, and_false, Int32.lt_iff_toInt_lt, Int32.le_iff_toInt_le, ← Int32.toInt_inj, Int32.toInt_add, Int32.toInt_sub, Int32.toInt_mul, Int32.reduceToInt, ge_iff_le, gt_iff_lt, upd_eq, upd_upd] at *) <;> (try simp (disch := omega) only [bmI] at *)) <;> (first | omega | ((try simp only [Int.bmod] at *) <;> omega) | (simp_all <;> fail)))), TBv.mk hs ⟨by omega, by omega⟩ hO.2⟩ | assumption | (first | exact True.intro | omega | (((try simp only [ne_eq, true_and, and_true, true_or, or_true, false_or, or_false, not_true_eq_false, not_false_eq_true, false_and, and_false, Int32.lt_iff_toInt_lt, Int32.le_iff_toInt_le, ← Int32.toInt_inj, Int32.toInt_add, Int32.toInt_sub, Int32.toInt_mul, Int32.reduceToInt, ge_iff_le, gt_iff_lt, upd_eq, upd_upd] at *) <;> (try simp (disch := omega) only [bmI] at *)) <;> (first | omega | ((try simp only [Int.bmod] at *) <;> omega) | (simp_all <;> fail))))))
  have hk1 : ∀ (j1 : Int64) (j3 : Int64) (j5 : Int64) (l7 : Int32) (l8 : Int32) (l9 : Int32) (wt_many : Int32) (wt_greatest : Int32) (wtgf : Nat → Int64) (wtgs : Nat → Int64) (wtgz : Nat → Int32) (wtgo : Nat → Int32), ((0 ≤ l7.toInt ∧ l7.toInt ≤ wt_slotMask_.toInt ∧ 0 ≤ l8.toInt ∧ l8.toInt ≤ wt_slotMask_.toInt + 1) ∧ TBv wt_slotMask_ wt_many wtgo) → ∀ n : Nat, 8 * ((wt_slotMask_.toInt + 1 - l8.toInt).toNat + 1) ≤ n → Tot (L_X1_put K  n 1 j1 j3 j5 l7 l8 l9 wt_slotMask_ wt_many wt_greatest wtgf wtgs wtgz wtgo) (fun r => TBv wt_slotMask_ r.1 r.2.2.2.2.2) := fun j1 j3 j5 l7 l8 l9 wt_many wt_greatest wtgf wtgs wtgz wtgo hI n hn => (key ((wt_slotMask_.toInt + 1 - l8.toInt).toNat + 1)) j1 j3 j5 l7 l8 l9 wt_many wt_greatest wtgf wtgs wtgz wtgo hI (Nat.lt_succ_self _) n hn
  clear key
  unfold F_X1_put
  obtain ⟨n, hn⟩ : ∃ n9, K = n9 + 8 := ⟨K - 8, by omega⟩
  have hn2 : 999999000 ≤ n := by omega
  suffices hs : Tot (L_X1_put K  (n + 8) 0 j1_ j3_ 0 0 0 0 wt_slotMask_ wt_many_ wt_greatest_ wtgf_ wtgs_ wtgz_ wtgo_) (fun r => TBv wt_slotMask_ r.1 r.2.2.2.2.2) from by rw [← hn] at hs; exact hs
  rw [L_X1_put_e0]; unfold B_X1_put_0; try simp only [subOne]
  repeat' (first | with_reducible refine Tot.ret ?_ | with_reducible refine Tot.ix ?_ ?_ | with_reducible refine Tot.yesB (by decide) ?_ | with_reducible refine Tot.noB (by decide) ?_ | with_reducible refine Tot.yes ?_ ?_ | with_reducible refine Tot.br (fun _ => ?_) (fun _ => ?_) | with_reducible refine Tot.bd (T_X1_open K hK _ _ _ _ _ _ _ _ ?_) (fun _ hO => ?_) | with_reducible refine Tot.bd (T_X1_grow K hK _ _ _ ?_) (fun _ _ => ?_) | with_reducible refine hk1 _ _ _ _ _ _ _ _ _ _ _ _ ?_ _ ?_ | (rw [L_X1_put_e0]; unfold B_X1_put_0; try simp only [subOne]) | (rw [L_X1_put_e2]; unfold B_X1_put_2; try simp only [subOne]) | (rw [L_X1_put_e3]; unfold B_X1_put_3; try simp only [subOne]) | dsimp only)
  all_goals clear hk1
  all_goals ((try dsimp only) <;> (first | exact ⟨⟨(and32 _ _ hs.1).1, (and32 _ _ hs.1).2, by decide, by (first | exact True.intro | omega | (((try simp only [ne_eq, true_and, and_true, true_or, or_true, false_or, or_false, not_true_eq_false, not_false_eq_true, false_and, and_false, Int32.lt_iff_toInt_lt, Int32.le_iff_toInt_le, ← Int32.toInt_inj, Int32.toInt_add, Int32.toInt_sub, Int32.toInt_mul, Int32.reduceToInt, ge_iff_le, gt_iff_lt, upd_eq, upd_upd] at *) <;> (try simp (disch := omega) only [bmI] at *)) <;> (first | omega | ((try simp only [Int.bmod] at *) <;> omega) | (simp_all <;> fail))))⟩, hT⟩ | assumption | (first | exact True.intro | omega | (((try simp only [ne_eq, true_and, and_true, true_or, or_true, false_or, or_false, not_true_eq_false, not_false_eq_true, false_and, and_false, Int32.lt_iff_toInt_lt, Int32.le_iff_toInt_le, ← Int32.toInt_inj, Int32.toInt_add, Int32.toInt_sub, Int32.toInt_mul, Int32.reduceToInt, ge_iff_le, gt_iff_lt, upd_eq, upd_upd] at *) <;> (try simp (disch := omega) only [bmI] at *)) <;> (first | omega | ((try simp only [Int.bmod] at *) <;> omega) | (simp_all <;> fail))))))
