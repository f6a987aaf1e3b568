/-! sets of cells as rows of six signs; numbers told in some cells' places -/
def cnB : List Bool → Nat
  | [] => 0
  | b :: bs => (if b = true then 1 else 0) + cnB bs
def mkB : List Bool → Nat
  | [] => 0
  | b :: bs => (if b = true then 3 else 0) + 4 * mkB bs
def spB : List Bool → Nat → Nat
  | [], _ => 0
  | b :: bs, k => if b = true then k % 4 + 4 * spB bs (k / 4) else 4 * spB bs k
def gaB : List Bool → Nat → Nat
  | [], _ => 0
  | b :: bs, x => if b = true then x % 4 + 4 * gaB bs (x / 4) else gaB bs (x / 4)
def dgN (x c : Nat) : Nat := x / 4 ^ c % 4
theorem dgN_0 (x : Nat) : dgN x 0 = x % 4 := by unfold dgN; rw [Nat.pow_zero, Nat.div_one]
theorem dgN_s (x c : Nat) : dgN x (c + 1) = dgN (x / 4) c := by
  unfold dgN
  rw [Nat.pow_succ, Nat.mul_comm, ← Nat.div_div_eq_div_mul]
theorem dgN_lt (x c : Nat) : dgN x c < 4 := Nat.mod_lt _ (by omega)
theorem spB_lt : ∀ (bs : List Bool) (k : Nat), spB bs k < 4 ^ bs.length := by
  intro bs
  induction bs with
  | nil => intro k; exact Nat.one_pos
  | cons b bs ih =>
    intro k
    rw [List.length_cons, Nat.pow_succ]
    unfold spB
    split
    · have := ih (k / 4); omega
    · have := ih k; omega
theorem mkB_lt : ∀ (bs : List Bool), mkB bs < 4 ^ bs.length := by
  intro bs
  induction bs with
  | nil => exact Nat.one_pos
  | cons b bs ih =>
    rw [List.length_cons, Nat.pow_succ]
    unfold mkB
    split <;> omega
theorem gaB_lt : ∀ (bs : List Bool) (x : Nat), gaB bs x < 4 ^ cnB bs := by
  intro bs
  induction bs with
  | nil => intro x; exact Nat.one_pos
  | cons b bs ih =>
    intro x
    have := ih (x / 4)
    unfold gaB cnB
    by_cases hb : b = true
    · rw [if_pos hb, if_pos hb, Nat.add_comm 1, Nat.pow_succ]; omega
    · rw [if_neg hb, if_neg hb, Nat.zero_add]; exact this
theorem ga_sp : ∀ (bs : List Bool) (k : Nat), k < 4 ^ cnB bs → gaB bs (spB bs k) = k := by
  intro bs
  induction bs with
  | nil => intro k h; unfold cnB at h; rw [Nat.pow_zero] at h; unfold gaB; omega
  | cons b bs ih =>
    intro k h
    unfold cnB at h
    unfold gaB spB
    by_cases hb : b = true
    · rw [if_pos hb, Nat.add_comm 1, Nat.pow_succ] at h
      rw [if_pos hb, if_pos hb]
      have e1 : (k % 4 + 4 * spB bs (k / 4)) / 4 = spB bs (k / 4) := by omega
      have e2 : (k % 4 + 4 * spB bs (k / 4)) % 4 = k % 4 := by omega
      rw [e1, e2, ih (k / 4) (by omega)]
      omega
    · rw [if_neg hb, Nat.zero_add] at h
      rw [if_neg hb, if_neg hb]
      have e1 : 4 * spB bs k / 4 = spB bs k := by omega
      rw [e1, ih k h]
theorem dg_sp : ∀ (bs : List Bool) (k c : Nat), bs[c]? ≠ some true → dgN (spB bs k) c = 0 := by
  intro bs
  induction bs with
  | nil => intro k c _; unfold spB dgN; rw [Nat.zero_div]
  | cons b bs ih =>
    intro k c hc
    cases c with
    | zero =>
      rw [List.getElem?_cons_zero] at hc
      rw [dgN_0]
      unfold spB
      rw [if_neg (fun h => hc (by rw [h]))]
      omega
    | succ c =>
      rw [List.getElem?_cons_succ] at hc
      rw [dgN_s]
      unfold spB
      split
      · have e1 : (k % 4 + 4 * spB bs (k / 4)) / 4 = spB bs (k / 4) := by omega
        rw [e1]; exact ih _ _ hc
      · have e1 : 4 * spB bs k / 4 = spB bs k := by omega
        rw [e1]; exact ih _ _ hc
/-- the next greater numbers of these cells -/
theorem lo4 (a b d e : Nat) (hd : d < 4) (he : e < 4) : (4 * a + d) ||| (4 * b + e) = 4 * (a ||| b) + (d ||| e) ∧ (4 * a + d) &&& (4 * b + e) = 4 * (a &&& b) + (d &&& e) ∧ (d ||| e) < 4 ∧ (d &&& e) < 4 := by
  have h1 : (d ||| e) < 2 ^ 2 := Nat.or_lt_two_pow (by omega) (by omega)
  have h2 : (d &&& e) < 2 ^ 2 := Nat.and_lt_two_pow d (by omega)
  refine ⟨?_, ?_, by omega, by omega⟩
  · apply Nat.eq_of_testBit_eq
    intro i
    rw [Nat.testBit_or]
    have key : ∀ (x y : Nat), y < 4 → (4 * x + y).testBit i = if i < 2 then y.testBit i else x.testBit (i - 2) := by
      intro x y hy
      have := Nat.testBit_two_pow_mul_add x (i := 2) (b := y) (by omega) i
      have e4 : 2 ^ 2 * x + y = 4 * x + y := by omega
      rw [e4] at this
      exact this
    rw [key _ _ hd, key _ _ he, key _ _ (by omega), Nat.testBit_or, Nat.testBit_or]
    split <;> rfl
  · apply Nat.eq_of_testBit_eq
    intro i
    rw [Nat.testBit_and]
    have key : ∀ (x y : Nat), y < 4 → (4 * x + y).testBit i = if i < 2 then y.testBit i else x.testBit (i - 2) := by
      intro x y hy
      have := Nat.testBit_two_pow_mul_add x (i := 2) (b := y) (by omega) i
      have e4 : 2 ^ 2 * x + y = 4 * x + y := by omega
      rw [e4] at this
      exact this
    rw [key _ _ hd, key _ _ he, key _ _ (by omega), Nat.testBit_and, Nat.testBit_and]
    split <;> rfl
def coB : List Bool → Nat
  | [] => 0
  | b :: bs => (if b = true then 0 else 3) + 4 * coB bs
theorem sp_mk : ∀ (bs : List Bool) (k : Nat), (spB bs k ||| coB bs) &&& mkB bs = spB bs k := by
  intro bs
  induction bs with
  | nil => intro k; exact Nat.and_zero _
  | cons b bs ih =>
    intro k
    unfold spB coB mkB
    have h4 : k % 4 < 4 := Nat.mod_lt _ (by omega)
    by_cases hb : b = true
    · rw [if_pos hb, if_pos hb, if_pos hb]
      have e1 := (lo4 (spB bs (k / 4)) (coB bs) (k % 4) 0 h4 (by omega)).1
      have e2 := (lo4 (spB bs (k / 4) ||| coB bs) (mkB bs) (k % 4) 3 h4 (by omega)).2.1
      rw [Nat.add_comm (k % 4), Nat.add_comm 0, e1, Nat.or_zero, Nat.add_comm 3, e2, ih (k / 4)]
      have e3 : k % 4 &&& 3 = k % 4 := by
        have := Nat.and_two_pow_sub_one_eq_mod (k % 4) 2
        have e : 2 ^ 2 - 1 = 3 := rfl
        rw [e] at this
        rw [this]; omega
      rw [e3]
    · rw [if_neg hb, if_neg hb, if_neg hb]
      have e1 := (lo4 (spB bs k) (coB bs) 0 3 (by omega) (by omega)).1
      have e2 := (lo4 (spB bs k ||| coB bs) (mkB bs) 3 0 (by omega) (by omega)).2.1
      rw [Nat.add_zero] at e1
      rw [Nat.add_comm 3, e1, Nat.zero_or, Nat.zero_add, ← Nat.add_zero (4 * mkB bs), e2, ih k]
      rfl
theorem sp_nx : ∀ (bs : List Bool) (k : Nat), k + 1 < 4 ^ cnB bs → ((spB bs k ||| coB bs) + 1) &&& mkB bs = spB bs (k + 1) := by
  intro bs
  induction bs with
  | nil => intro k h; unfold cnB at h; rw [Nat.pow_zero] at h; omega
  | cons b bs ih =>
    intro k h
    unfold cnB at h
    unfold spB coB mkB
    have h4 : k % 4 < 4 := Nat.mod_lt _ (by omega)
    by_cases hb : b = true
    · rw [if_pos hb, Nat.add_comm 1, Nat.pow_succ] at h
      rw [if_pos hb, if_pos hb, if_pos hb, if_pos hb]
      have e1 := (lo4 (spB bs (k / 4)) (coB bs) (k % 4) 0 h4 (by omega)).1
      rw [Nat.add_comm (k % 4), Nat.add_comm 0, e1, Nat.or_zero, Nat.add_comm 3]
      by_cases h3 : k % 4 = 3
      · have e2 : 4 * (spB bs (k / 4) ||| coB bs) + k % 4 + 1 = 4 * ((spB bs (k / 4) ||| coB bs) + 1) + 0 := by omega
        have e3 := (lo4 ((spB bs (k / 4) ||| coB bs) + 1) (mkB bs) 0 3 (by omega) (by omega)).2.1
        have e4 : (k + 1) / 4 = k / 4 + 1 := by omega
        have e5 : (k + 1) % 4 = 0 := by omega
        rw [e2, e3, ih (k / 4) (by omega), e4, e5, Nat.zero_and, Nat.zero_add, Nat.add_zero]
      · have e3 := (lo4 (spB bs (k / 4) ||| coB bs) (mkB bs) (k % 4 + 1) 3 (by omega) (by omega)).2.1
        have e4 : (k + 1) / 4 = k / 4 := by omega
        have e5 : (k + 1) % 4 = k % 4 + 1 := by omega
        have e6 : (k % 4 + 1) &&& 3 = k % 4 + 1 := by
          have := Nat.and_two_pow_sub_one_eq_mod (k % 4 + 1) 2
          have e : 2 ^ 2 - 1 = 3 := rfl
          rw [e] at this
          rw [this]; omega
        rw [Nat.add_assoc, e3, sp_mk, e4, e5, e6, Nat.add_comm]
    · rw [if_neg hb, Nat.zero_add] at h
      rw [if_neg hb, if_neg hb, if_neg hb, if_neg hb]
      have e1 := (lo4 (spB bs k) (coB bs) 0 3 (by omega) (by omega)).1
      rw [Nat.add_zero] at e1
      have e2 : 4 * (spB bs k ||| coB bs) + (0 ||| 3) + 1 = 4 * ((spB bs k ||| coB bs) + 1) + 0 := by
        have : (0 ||| 3 : Nat) = 3 := rfl
        omega
      have e3 := (lo4 ((spB bs k ||| coB bs) + 1) (mkB bs) 0 0 (by omega) (by omega)).2.1
      rw [Nat.add_comm 3, e1, e2, Nat.zero_add, ← Nat.add_zero (4 * mkB bs), e3, ih k h]
      rfl
