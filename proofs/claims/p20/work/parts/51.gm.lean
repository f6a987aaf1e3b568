/-! p3: tokens of a text: the class's cut -/
theorem i32n (x : Int32) (h : 0 ≤ x.toInt) : (x.toBitVec.toNat : Int) = x.toInt := by
  have e : x.toInt = x.toBitVec.toInt := rfl
  rw [e] at h ⊢
  rw [BitVec.toInt_eq_toNat_cond] at h ⊢
  have hl := x.toBitVec.isLt
  split at h <;> rename_i hc
  · rw [if_pos hc]
  · exfalso; omega
theorem n32i (x : Int32) (h : x.toBitVec.toNat < 2147483648) : x.toInt = (x.toBitVec.toNat : Int) := by
  have e : x.toInt = x.toBitVec.toInt := rfl
  rw [e, BitVec.toInt_eq_toNat_cond, if_pos (by omega)]
theorem wsh {x b : Int32} (hx0 : 0 ≤ x.toInt) (hx : x.toInt < 8388608) (hb0 : 0 ≤ b.toInt) (hb : b.toInt < 256) : ((x <<< ((8 : Int32) &&& 31)) ||| b).toInt = 256 * x.toInt + b.toInt := by
  have ex := i32n x hx0
  have eb := i32n b hb0
  have h1 := pk_shl x ((8 : Int32) &&& 31) 8 (by decide)
  have h2 : ((x <<< ((8 : Int32) &&& 31)) ||| b).toBitVec.toNat = (x <<< ((8 : Int32) &&& 31)).toBitVec.toNat ||| b.toBitVec.toNat := BitVec.toNat_or _ _
  have h3 : x.toBitVec.toNat * 2 ^ 8 % 2 ^ 32 = 2 ^ 8 * x.toBitVec.toNat := by omega
  rw [h1, h3, ← Nat.two_pow_add_eq_or_of_lt (by omega)] at h2
  rw [n32i _ (by rw [h2]; omega), h2]
  omega
def isLw (b : Int32) : Prop := 97 ≤ b.toInt ∧ b.toInt ≤ 122
def isUp (b : Int32) : Prop := 65 ≤ b.toInt ∧ b.toInt ≤ 90
def isLt (b : Int32) : Prop := isLw b ∨ isUp b
def isFg (b : Int32) : Prop := 48 ≤ b.toInt ∧ b.toInt ≤ 57
def WRun (P : Int32 → Prop) (L : Nat) (tx : Nat → Int32) (s q : Nat) : Prop := s < q ∧ q ≤ L ∧ (∀ i : Nat, s ≤ i → i < q → P (tx i)) ∧ (q < L → ¬ P (tx q))
def hv (tx : Nat → Int32) (s : Nat) : Nat → Int
  | 0 => 0
  | n + 1 => 256 * hv tx s n + (tx (s + n)).toInt
def kOf (n : Nat) (w : Int) : Int32 :=
  if n = 1 ∧ 97 ≤ w ∧ w < 103 then 2 else if n ≤ 4 then (if w = 26982 then 5 else if w = 7304564 then 4 else if w = 1701606245 then 6 else if w = 1819242352 then 7 else 1) else 1
def TokC (L : Nat) (tx : Nat → Int32) (s : Nat) (k v : Int32) (q : Nat) : Prop :=
  (WRun isLt L tx s q ∧ k = kOf (q - s) (hv tx s (q - s)) ∧ ((k = 2 ∧ v.toInt = (tx s).toInt - 97 ∧ 97 ≤ (tx s).toInt ∧ (tx s).toInt < 103) ∨ (k ≠ 2 ∧ v = 0))) ∨
  (WRun isFg L tx s q ∧ ((q = s + 1 ∧ k = 3) ∨ (q ≠ s + 1 ∧ k = 1)) ∧ v.toInt = (tx s).toInt - 48) ∨
  (s < L ∧ q = s + 1 ∧ ¬ isLt (tx s) ∧ ¬ isFg (tx s) ∧ tx s ≠ 32 ∧ ((sgq (tx s) ∧ k = tx s) ∨ (¬ sgq (tx s) ∧ k = 1)) ∧ v = 0)
theorem kOf_ne (n : Nat) (w : Int) : kOf n w ≠ 0 := by
  unfold kOf
  split
  · decide
  · split
    · split
      · decide
      · split
        · decide
        · split
          · decide
          · split <;> decide
    · decide
theorem TokC.ok {L : Nat} {tx : Nat → Int32} {s : Nat} {k v : Int32} {q : Nat} (h : TokC L tx s k v q) : k ≠ 0 ∧ s < q ∧ q ≤ L ∧ (0 ≤ v.toInt ∧ v.toInt ≤ 9 ∧ (k = 2 → v.toInt ≤ 5)) ∧ tx s ≠ 32 := by
  rcases h with ⟨⟨h1, h2, h3, h4⟩, h5, h6⟩ | ⟨⟨h1, h2, h3, h4⟩, h5, h6⟩ | ⟨h1, h2, h3, h4, h5, h6, h7⟩
  · have hb := h3 s (Nat.le_refl _) h1
    refine ⟨by rw [h5]; exact kOf_ne _ _, h1, h2, ?_, ?_⟩
    · rcases h6 with ⟨_, h6, h7, h8⟩ | ⟨h6, h7⟩
      · exact ⟨by omega, by omega, fun _ => by omega⟩
      · rw [h7]; exact ⟨by decide, by decide, fun h => absurd h h6⟩
    · intro h; rw [h] at hb; rcases hb with ⟨a, b⟩ | ⟨a, b⟩ <;> revert a <;> decide
  · have hb := h3 s (Nat.le_refl _) h1
    obtain ⟨b1, b2⟩ := hb
    refine ⟨?_, h1, h2, ⟨by omega, by omega, fun h => ?_⟩, fun h => ?_⟩
    · rcases h5 with ⟨_, h5⟩ | ⟨_, h5⟩ <;> rw [h5] <;> decide
    · exfalso; rcases h5 with ⟨_, h5⟩ | ⟨_, h5⟩ <;> rw [h5] at h <;> revert h <;> decide
    · rw [h] at b1; revert b1; decide
  · refine ⟨?_, by omega, by omega, ?_, h5⟩
    · rcases h6 with ⟨h6, h8⟩ | ⟨_, h8⟩
      · rw [h8]; intro h; rw [h] at h6; revert h6; unfold sgq; decide
      · rw [h8]; decide
    · rw [h7]; refine ⟨by decide, by decide, fun h => ?_⟩
      exact Int.le_of_lt (by decide)
theorem E_X6_at (K : Nat) (hK : 1000000000 ≤ K) (l1 len : Int32) (tx : Nat → Int32) (p L : Nat) (hp : l1.toInt = (p : Int)) (hL : len.toInt = (L : Int)) :
    Par (F_X6_at K l1 len tx) (fun r => (p < L ∧ r = tx p) ∨ (L ≤ p ∧ r = -1)) := by
  unfold F_X6_at
  have h1 : L ≤ p → ∀ n, Par (L_X6_at K n 1 l1 len tx) (fun r => (p < L ∧ r = tx p) ∨ (L ≤ p ∧ r = -1)) := by
    intro h n
    cases n with
    | zero => exact Par.no
    | succ n => rw [L_X6_at_e1]; unfold B_X6_at_1; exact Par.ret (Or.inr ⟨h, rfl⟩)
  obtain ⟨n, hn⟩ : ∃ n9, K = n9 + 1 := ⟨K - 1, by omega⟩
  generalize hz : L_X6_at K K 0 l1 len tx = z
  have hz2 : z = L_X6_at K (n + 1) 0 l1 len tx := by rw [← hn, hz]
  rw [hz2, L_X6_at_e0]; unfold B_X6_at_0
  refine Par.not (by rw [Int32.lt_iff_toInt_lt]; simp only [Int32.reduceToInt]; omega) ?_
  refine Par.br (fun h => h1 (by rw [Int32.le_iff_toInt_le] at h; omega) n) (fun h => ?_)
  rw [Int32.le_iff_toInt_le] at h
  refine Par.br (fun _ => Par.ret (Or.inl ⟨by omega, ?_⟩)) (fun _ => Par.no)
  rw [cl1 l1 p hp]
theorem E_X7_add (K : Nat) (hK : 1000000000 ≤ K) (a b c mn : Int32) (fk fv fp : Nat → Int32) (m : Nat) (hm : mn.toInt = (m : Int)) (h3 : m < 301) :
    Par (F_X7_add K a b c mn fk fv fp) (fun r => r.1.toInt = ((m + 1 : Nat) : Int) ∧ r.2.1 = upd fk m a ∧ r.2.2.1 = upd fv m b ∧ r.2.2.2 = upd fp m c) := by
  unfold F_X7_add
  obtain ⟨n, rfl⟩ : ∃ n9, K = n9 + 1 := ⟨K - 1, by omega⟩
  rw [L_X7_add_e0]; unfold B_X7_add_0
  refine Par.yes (by rw [Int32.lt_iff_toInt_lt]; simp only [Int32.reduceToInt]; omega) ?_
  refine Par.br (fun _ => Par.br (fun _ => Par.br (fun _ => Par.ret ⟨ad1 mn m hm (by omega), ?_, ?_, ?_⟩) (fun _ => Par.no)) (fun _ => Par.no)) (fun _ => Par.no) <;> rw [cl1 mn m hm]
theorem E_X7_isLetter (K : Nat) (hK : 1000000000 ≤ K) (b : Int32) : Par (F_X7_isLetter K b) (fun r => (r = 1 ∧ isLt b) ∨ (r = 0 ∧ ¬ isLt b)) := by
  unfold F_X7_isLetter
  have h2 : isLt b → ∀ n, Par (L_X7_isLetter K n 2 b) (fun r => (r = 1 ∧ isLt b) ∨ (r = 0 ∧ ¬ isLt b)) := by
    intro h n
    cases n with
    | zero => exact Par.no
    | succ n => rw [L_X7_isLetter_e2]; unfold B_X7_isLetter_2; exact Par.ret (Or.inl ⟨rfl, h⟩)
  have h3 : ¬ isLt b → ∀ n, Par (L_X7_isLetter K n 3 b) (fun r => (r = 1 ∧ isLt b) ∨ (r = 0 ∧ ¬ isLt b)) := by
    intro h n
    cases n with
    | zero => exact Par.no
    | succ n => rw [L_X7_isLetter_e3]; unfold B_X7_isLetter_3; exact Par.ret (Or.inr ⟨rfl, h⟩)
  have h1 : ¬ isLw b → ∀ n, Par (L_X7_isLetter K n 1 b) (fun r => (r = 1 ∧ isLt b) ∨ (r = 0 ∧ ¬ isLt b)) := by
    intro h n
    cases n with
    | zero => exact Par.no
    | succ n =>
      rw [L_X7_isLetter_e1]; unfold B_X7_isLetter_1
      refine Par.br (fun a => h3 ?_ n) (fun a => Par.br (fun c => h3 ?_ n) (fun c => h2 ?_ n))
      · rw [Int32.lt_iff_toInt_lt] at a
        simp only [Int32.reduceToInt] at a
        rintro (d | d)
        · exact h d
        · exact absurd d.1 (by omega)
      · rw [Int32.lt_iff_toInt_lt] at c
        simp only [Int32.reduceToInt] at c
        rintro (d | d)
        · exact h d
        · exact absurd d.2 (by omega)
      · rw [Int32.lt_iff_toInt_lt] at a c
        simp only [Int32.reduceToInt] at a c
        exact Or.inr ⟨by omega, by omega⟩
  obtain ⟨n, hn⟩ : ∃ n9, K = n9 + 1 := ⟨K - 1, by omega⟩
  generalize hz : L_X7_isLetter K K 0 b = z
  have hz2 : z = L_X7_isLetter K (n + 1) 0 b := by rw [← hn, hz]
  rw [hz2, L_X7_isLetter_e0]; unfold B_X7_isLetter_0
  refine Par.br (fun a => h1 ?_ n) (fun a => Par.br (fun c => h2 ?_ n) (fun c => h1 ?_ n))
  · rw [Int32.lt_iff_toInt_lt] at a
    simp only [Int32.reduceToInt] at a
    intro d; exact absurd d.1 (by omega)
  · rw [Int32.lt_iff_toInt_lt] at a
    rw [Int32.le_iff_toInt_le] at c
    simp only [Int32.reduceToInt] at a c
    exact Or.inl ⟨by omega, by omega⟩
  · rw [Int32.le_iff_toInt_le] at c
    simp only [Int32.reduceToInt] at c
    intro d; exact absurd d.2 (by omega)
theorem E_X7_isFigure (K : Nat) (hK : 1000000000 ≤ K) (b : Int32) : Par (F_X7_isFigure K b) (fun r => (r = 1 ∧ isFg b) ∨ (r = 0 ∧ ¬ isFg b)) := by
  unfold F_X7_isFigure
  have h1 : ¬ isFg b → ∀ n, Par (L_X7_isFigure K n 1 b) (fun r => (r = 1 ∧ isFg b) ∨ (r = 0 ∧ ¬ isFg b)) := by
    intro h n
    cases n with
    | zero => exact Par.no
    | succ n => rw [L_X7_isFigure_e1]; unfold B_X7_isFigure_1; exact Par.ret (Or.inr ⟨rfl, h⟩)
  obtain ⟨n, hn⟩ : ∃ n9, K = n9 + 1 := ⟨K - 1, by omega⟩
  generalize hz : L_X7_isFigure K K 0 b = z
  have hz2 : z = L_X7_isFigure K (n + 1) 0 b := by rw [← hn, hz]
  rw [hz2, L_X7_isFigure_e0]; unfold B_X7_isFigure_0
  refine Par.br (fun a => h1 ?_ n) (fun a => Par.br (fun c => h1 ?_ n) (fun c => Par.ret (Or.inl ⟨rfl, ?_, ?_⟩)))
  all_goals (try rw [Int32.lt_iff_toInt_lt] at a)
  all_goals (try rw [Int32.lt_iff_toInt_lt] at c)
  all_goals simp only [Int32.reduceToInt] at *
  · intro d; exact absurd d.1 (by omega)
  · intro d; exact absurd d.2 (by omega)
  · omega
  · omega
theorem E_X7_wordKind (K : Nat) (hK : 1000000000 ≤ K) (b : Int32) (n9 : Nat) (h4 : n9 ≤ 4) (hno : ¬ (n9 = 1 ∧ 97 ≤ b.toInt ∧ b.toInt < 103)) : Par (F_X7_wordKind K b) (fun r => r = kOf n9 b.toInt) := by
  unfold F_X7_wordKind
  obtain ⟨n, rfl⟩ : ∃ n9, K = n9 + 1 := ⟨K - 1, by omega⟩
  rw [L_X7_wordKind_e0]; unfold B_X7_wordKind_0
  unfold kOf
  rw [if_neg hno, if_pos h4]
  refine Par.br (fun a => Par.ret ?_) (fun a => Par.br (fun c => Par.ret ?_) (fun c => Par.br (fun d => Par.ret ?_) (fun d => Par.br (fun e => Par.ret ?_) (fun e => Par.ret ?_))))
  · rw [a]; rfl
  · rw [c]; rfl
  · rw [d]; rfl
  · rw [e]; rfl
  · have f : ∀ z : Int32, b ≠ z → b.toInt ≠ z.toInt := fun z h q => h (Int32.toInt_inj.mp q)
    have a2 := f _ a
    have c2 := f _ c
    have d2 := f _ d
    have e2 := f _ e
    simp only [Int32.reduceToInt] at a2 c2 d2 e2
    rw [if_neg a2, if_neg c2, if_neg d2, if_neg e2]
