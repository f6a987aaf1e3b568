/-! the functions have answers: rows, the reader of tokens -/
/-! total functions: an answer there is, and what is known of it -/
def Tot {α : Type} (o : Option α) (Q : α → Prop) : Prop := ∃ a, o = some a ∧ Q a
theorem Tot.ret {α : Type} {Q : α → Prop} {a : α} (h : Q a) : Tot (some a) Q := ⟨a, rfl, h⟩
theorem Tot.br {α : Type} {Q : α → Prop} {c : Prop} [Decidable c] {x y : Option α} (h1 : c → Tot x Q) (h2 : ¬ c → Tot y Q) : Tot (if c then x else y) Q := by
  by_cases h : c
  · rw [if_pos h]; exact h1 h
  · rw [if_neg h]; exact h2 h
theorem okIx_iff (i : Int32) (n : Nat) : okIx i n = true ↔ 0 ≤ i.toInt ∧ i.toInt < n := by
  simp only [okIx, Bool.and_eq_true, decide_eq_true_eq]
theorem Tot.ix {α : Type} {Q : α → Prop} {i : Int32} {n : Nat} {x : Option α} (h : 0 ≤ i.toInt ∧ i.toInt < n) (k : Tot x Q) : Tot (if okIx i n = true then x else none) Q := by
  rw [if_pos ((okIx_iff i n).mpr h)]; exact k
theorem Tot.yes {α : Type} {Q : α → Prop} {c : Prop} [Decidable c] {x : Option α} (h : c) (k : Tot x Q) : Tot (if c then x else none) Q := by
  rw [if_pos h]; exact k
theorem Tot.bd {α β : Type} {P : α → Prop} {Q : β → Prop} {x : Option α} {f : α → Option β} (h : Tot x P) (k : ∀ a, P a → Tot (f a) Q) : Tot (x.bind f) Q := by
  obtain ⟨a, rfl, ha⟩ := h; exact k a ha
theorem Tot.mono {α : Type} {P Q : α → Prop} {x : Option α} (h : Tot x P) (k : ∀ a, P a → Q a) : Tot x Q := by
  obtain ⟨a, e, ha⟩ := h; exact ⟨a, e, k a ha⟩
theorem clampI {i : Int32} (h : 0 ≤ i.toInt) : ((i.toNatClampNeg : Nat) : Int) = i.toInt := by
  show ((i.toInt.toNat : Nat) : Int) = i.toInt
  omega
theorem i32r (i : Int32) : -2147483648 ≤ i.toInt ∧ i.toInt ≤ 2147483647 := by
  have h1 := Int32.le_toInt i
  have h2 := Int32.toInt_lt i
  omega
theorem Tot.yesB {α : Type} {Q : α → Prop} {c : Prop} [Decidable c] {x y : Option α} (h : c) (k : Tot x Q) : Tot (if c then x else y) Q := by
  rw [if_pos h]; exact k
theorem Tot.noB {α : Type} {Q : α → Prop} {c : Prop} [Decidable c] {x y : Option α} (h : ¬ c) (k : Tot y Q) : Tot (if c then x else y) Q := by
  rw [if_neg h]; exact k
theorem clampS {k : Int32} (h0 : 0 ≤ k.toInt) (h1 : k.toInt < 2147483647) : (k + 1).toNatClampNeg = k.toNatClampNeg + 1 := by
  have e : (k + 1).toInt = k.toInt + 1 := by
    simp only [Int32.toInt_add, Int32.reduceToInt, Int.bmod]; omega
  have h2 : 0 ≤ (k + 1).toInt := by omega
  have a := clampI h0
  have b := clampI h2
  omega
theorem clampP {k : Int32} (h0 : 1 ≤ k.toInt) : (k - 1).toNatClampNeg + 1 = k.toNatClampNeg := by
  have hr := i32r k
  have e : (k - 1).toInt = k.toInt - 1 := by
    simp only [Int32.toInt_sub, Int32.reduceToInt, Int.bmod]; omega
  have h2 : 0 ≤ (k - 1).toInt := by omega
  have a := clampI (i := k) (by omega)
  have b := clampI h2
  omega
theorem or01 {x y : Int32} (hx : x = 0 ∨ x = 1) (hy : y = 0 ∨ y = 1) : x ||| y = 0 ∨ x ||| y = 1 := by
  rcases hx with rfl | rfl <;> rcases hy with rfl | rfl <;> decide
/-! open brackets among the signs -/
def hopP (sg : Nat → Int32) (x k : Int32) : Prop := (x = 0 ∧ ∀ j < k.toNatClampNeg, sg j ≠ 40) ∨ (x = 1 ∧ ∃ j < k.toNatClampNeg, sg j = 40)
theorem hopP.z {sg : Nat → Int32} : hopP sg 0 0 := Or.inl ⟨rfl, fun j h => absurd h (Nat.not_lt_zero _)⟩
theorem hopP.yes {sg : Nat → Int32} {x k : Int32} (h : hopP sg x k) (h0 : 0 ≤ k.toInt) (h1 : k.toInt < 80) (e : sg k.toNatClampNeg = 40) : hopP sg (x ||| 1) (k + 1) := by
  have hk := clampS h0 (by omega)
  refine Or.inr ⟨?_, k.toNatClampNeg, by omega, e⟩
  rcases h with ⟨rfl, -⟩ | ⟨rfl, -⟩ <;> decide
theorem hopP.no {sg : Nat → Int32} {x k : Int32} (h : hopP sg x k) (h0 : 0 ≤ k.toInt) (h1 : k.toInt < 80) (e : ¬ sg k.toNatClampNeg = 40) : hopP sg (x ||| 0) (k + 1) := by
  have hk := clampS h0 (by omega)
  rcases h with ⟨rfl, h⟩ | ⟨rfl, j, hj, hs⟩
  · refine Or.inl ⟨by decide, fun j hj => ?_⟩
    rcases Nat.lt_or_ge j k.toNatClampNeg with q | q
    · exact h j q
    · have : j = k.toNatClampNeg := by omega
      rw [this]; exact e
  · exact Or.inr ⟨by decide, j, by omega, hs⟩
theorem hopP.b {sg : Nat → Int32} {x k : Int32} (h : hopP sg x k) : x = 0 ∨ x = 1 := by
  rcases h with ⟨h, -⟩ | ⟨h, -⟩
  · exact Or.inl h
  · exact Or.inr h
theorem hopP.up {sg : Nat → Int32} {x k m : Int32} (h : hopP sg x k) (e : k.toInt = m.toInt) : hopP sg x m := by
  have : k = m := Int32.toInt_inj.mp e
  rw [← this]; exact h
theorem Tot.bdE {α β : Type} {Q : β → Prop} {x : Option α} {a : α} {f : α → Option β} (h : x = some a) (k : Tot (f a) Q) : Tot (x.bind f) Q := by
  rw [h]; exact k
theorem subOne (x : Int32) : x + (-1) = x - 1 := (Int32.sub_eq_add_neg x 1).symm
/-! postfix code: one code's step of the depth; a row of codes -/
def stepc (c : Int32) (d0 d : Nat) : Prop := ((0 ≤ c.toInt ∧ c.toInt < 4 ∨ 10 ≤ c.toInt ∧ c.toInt < 16) ∧ d0 < 24 ∧ d = d0 + 1) ∨ (c.toInt = 33 ∧ 1 ≤ d0 ∧ d = d0) ∨ (16 ≤ c.toInt ∧ c.toInt ≠ 33 ∧ 2 ≤ d0 ∧ d + 1 = d0)
def okc (f : Nat → Int32) (a : Nat) : Nat → Nat → Prop
  | 0, d => d = 0
  | n + 1, d => ∃ d0, okc f a n d0 ∧ stepc (f (a + n)) d0 d
theorem okc.congr {f g : Nat → Int32} {a b : Nat} : ∀ {n d : Nat}, (∀ k < n, f (a + k) = g (b + k)) → okc f a n d → okc g b n d
  | 0, _, _, h => h
  | n + 1, _, e, ⟨d0, h1, h2⟩ => ⟨d0, okc.congr (fun k hk => e k (by omega)) h1, by rw [← e n (by omega)]; exact h2⟩
theorem okc.put {f : Nat → Int32} {a n d0 d : Nat} {v : Int32} (h : okc f a n d0) (hs : stepc v d0 d) : okc (upd f (a + n) v) a (n + 1) d := by
  refine ⟨d0, h.congr (fun k hk => ?_), ?_⟩
  · simp only [upd]; rw [if_neg (by omega)]
  · simp only [upd]; rw [if_pos trivial]; exact hs
/-- pending signs of two operands -/
def cntB (f : Nat → Int32) : Nat → Nat
  | 0 => 0
  | n + 1 => cntB f n + (if (f n).toInt = 33 ∨ (f n).toInt = 40 then 0 else 1)
theorem cntB_le (f : Nat → Int32) : ∀ n, cntB f n ≤ n
  | 0 => Nat.le_refl 0
  | n + 1 => by
    have := cntB_le f n
    simp only [cntB]; split <;> omega
theorem cntB_upd (f : Nat → Int32) (v : Int32) (m : Nat) : ∀ n, n ≤ m → cntB (upd f m v) n = cntB f n
  | 0, _ => rfl
  | n + 1, h => by
    simp only [cntB]; rw [cntB_upd f v m n (by omega)]
    have : upd f m v n = f n := by simp only [upd]; rw [if_neg (by omega)]
    rw [this]
def SInv (S0 sm hi op lv wa : Int32) (asm0 asm asgn : Nat → Int32) : Prop :=
  ∃ d : Nat, okc asm (300 + S0.toNatClampNeg) (sm.toNatClampNeg - S0.toNatClampNeg) d ∧ (d : Int) = cntB asgn hi.toNatClampNeg + (if wa.toInt = 0 then 1 else 0) ∧ (d : Int) ≤ lv.toInt ∧ (∀ k < hi.toNatClampNeg, 16 ≤ (asgn k).toInt) ∧ hi.toInt - cntB asgn hi.toNatClampNeg ≤ op.toInt ∧ ∀ k < 300 + S0.toNatClampNeg, asm k = asm0 k
section SI
variable {S0 sm hi op lv wa v : Int32} {asm0 asm asgn : Nat → Int32}
theorem SInv.start (h : 0 ≤ S0.toInt) : SInv S0 S0 0 0 0 1 asm asm asgn := by
  refine ⟨0, ?_, ?_, by decide, fun k hk => absurd hk (Nat.not_lt_zero _), ?_, fun k _ => rfl⟩
  · rw [Nat.sub_self]; rfl
  · show ((0 : Nat) : Int) = ((0 : Nat) : Int) + _
    rw [if_neg (by decide)]; rfl
  · show (0 : Int) - ((0 : Nat) : Int) ≤ 0
    decide
theorem SInv.hiB (h : SInv S0 sm hi op lv wa asm0 asm asgn) (h1 : lv.toInt ≤ 24) (h2 : op.toInt ≤ 8) : hi.toInt ≤ 32 := by
  obtain ⟨d, -, e, hd, -, ho, -⟩ := h
  split at e <;> omega
theorem SInv.opn (h : SInv S0 sm hi op lv wa asm0 asm asgn) (h0 : 0 ≤ hi.toInt) (h1 : hi.toInt < 80) (ho8 : op.toInt < 8) (hv : v.toInt = 33 ∨ v.toInt = 40) : SInv S0 sm (hi + 1) (op + 1) lv wa asm0 asm (upd asgn hi.toNatClampNeg v) := by
  obtain ⟨d, h2, e, hd, hs, ho, hm⟩ := h
  have hk := clampS h0 (by omega)
  have hb := cntB_le asgn hi.toNatClampNeg
  have hci := clampI h0
  have ec : cntB (upd asgn hi.toNatClampNeg v) (hi + 1).toNatClampNeg = cntB asgn hi.toNatClampNeg := by
    rw [hk]; simp only [cntB]; rw [cntB_upd _ _ _ _ (Nat.le_refl _)]
    have : upd asgn hi.toNatClampNeg v hi.toNatClampNeg = v := by simp [upd]
    rw [this, if_pos hv]; rfl
  refine ⟨d, h2, by rw [ec]; exact e, hd, fun k hk2 => ?_, ?_, hm⟩
  · simp only [upd]; split
    · omega
    · exact hs k (by omega)
  · rw [ec]
    have e1 : (hi + 1).toInt = hi.toInt + 1 := by simp only [Int32.toInt_add, Int32.reduceToInt, Int.bmod]; omega
    have e2 : (op + 1).toInt = op.toInt + 1 := by simp only [Int32.toInt_add, Int32.reduceToInt, Int.bmod]; omega
    omega
theorem SInv.leaf (h : SInv S0 sm hi op lv wa asm0 asm asgn) (hw : wa.toInt = 1) (h0 : 0 ≤ S0.toInt) (h1 : S0.toInt ≤ sm.toInt) (h2 : sm.toInt < 300) (hl : lv.toInt < 24) (hv : 0 ≤ v.toInt ∧ v.toInt < 4 ∨ 10 ≤ v.toInt ∧ v.toInt < 16) : SInv S0 (sm + 1) hi op (lv + 1) 0 asm0 (upd asm (300 + sm).toNatClampNeg v) asgn := by
  obtain ⟨d, h3, e, hd, hs, ho, hm⟩ := h
  rw [if_neg (by omega)] at e
  have hk := clampS (k := sm) (by omega) (by omega)
  have c1 := clampI h0
  have c2 := clampI (i := sm) (by omega)
  have e3 : (300 + sm).toInt = 300 + sm.toInt := by simp only [Int32.toInt_add, Int32.reduceToInt, Int.bmod]; omega
  have c3 := clampI (i := 300 + sm) (by omega)
  have e4 : (300 + sm).toNatClampNeg = (300 + S0.toNatClampNeg) + (sm.toNatClampNeg - S0.toNatClampNeg) := by omega
  have e5 : (lv + 1).toInt = lv.toInt + 1 := by
    simp only [Int32.toInt_add, Int32.reduceToInt, Int.bmod]; omega
  refine ⟨d + 1, ?_, ?_, by omega, hs, ho, fun k hk2 => ?_⟩
  · rw [e4, hk, show sm.toNatClampNeg + 1 - S0.toNatClampNeg = (sm.toNatClampNeg - S0.toNatClampNeg) + 1 by omega]
    exact h3.put (Or.inl ⟨hv, by omega, rfl⟩)
  · rw [if_pos (by decide)]; omega
  · simp only [upd]; rw [if_neg (by omega)]; exact hm k hk2
theorem SInv.oper (h : SInv S0 sm hi op lv wa asm0 asm asgn) (hw : wa.toInt = 0) (h0 : 0 ≤ hi.toInt) (h1 : hi.toInt < 80) (hv : 16 ≤ v.toInt ∧ v.toInt ≠ 33 ∧ v.toInt ≠ 40) : SInv S0 sm (hi + 1) op lv 1 asm0 asm (upd asgn hi.toNatClampNeg v) := by
  obtain ⟨d, h2, e, hd, hs, ho, hm⟩ := h
  rw [if_pos hw] at e
  have hk := clampS h0 (by omega)
  have hb := cntB_le asgn hi.toNatClampNeg
  have hci := clampI h0
  have ec : cntB (upd asgn hi.toNatClampNeg v) (hi + 1).toNatClampNeg = cntB asgn hi.toNatClampNeg + 1 := by
    rw [hk]; simp only [cntB]; rw [cntB_upd _ _ _ _ (Nat.le_refl _)]
    have : upd asgn hi.toNatClampNeg v hi.toNatClampNeg = v := by simp [upd]
    rw [this, if_neg (by omega)]
  have e1 : (hi + 1).toInt = hi.toInt + 1 := by simp only [Int32.toInt_add, Int32.reduceToInt, Int.bmod]; omega
  refine ⟨d, h2, ?_, hd, fun k hk2 => ?_, ?_, hm⟩
  · rw [ec, if_neg (by decide)]; omega
  · simp only [upd]; split
    · omega
    · exact hs k (by omega)
  · rw [ec]; omega
theorem cnt_top (h1 : 1 ≤ hi.toInt) : cntB asgn hi.toNatClampNeg = cntB asgn (hi - 1).toNatClampNeg + (if (asgn (hi - 1).toNatClampNeg).toInt = 33 ∨ (asgn (hi - 1).toNatClampNeg).toInt = 40 then 0 else 1) := by
  have hk := clampP h1
  rw [← hk]; rfl
theorem SInv.pop (h : SInv S0 sm hi op lv wa asm0 asm asgn) (hw : wa.toInt = 0) (h0 : 0 ≤ S0.toInt) (h1 : S0.toInt ≤ sm.toInt) (h2 : sm.toInt < 300) (hh : 1 ≤ hi.toInt) (hh2 : hi.toInt ≤ 80) (ht : (asgn (hi - 1).toNatClampNeg).toInt ≠ 40) : SInv S0 (sm + 1) (hi - 1) op lv wa asm0 (upd asm (300 + sm).toNatClampNeg (asgn (hi - 1).toNatClampNeg)) asgn := by
  obtain ⟨d, h3, e, hd, hs, ho, hm⟩ := h
  rw [if_pos hw] at e
  have hk := clampS (k := sm) (by omega) (by omega)
  have hp := clampP hh
  have c0 := clampI (i := hi) (by omega)
  have c1 := clampI h0
  have c2 := clampI (i := sm) (by omega)
  have e3 : (300 + sm).toInt = 300 + sm.toInt := by simp only [Int32.toInt_add, Int32.reduceToInt, Int.bmod]; omega
  have c3 := clampI (i := 300 + sm) (by omega)
  have e4 : (300 + sm).toNatClampNeg = (300 + S0.toNatClampNeg) + (sm.toNatClampNeg - S0.toNatClampNeg) := by omega
  have e5 : (hi - 1).toInt = hi.toInt - 1 := by simp only [Int32.toInt_sub, Int32.reduceToInt, Int.bmod]; omega
  have ec := cnt_top (asgn := asgn) hh
  have h16 := hs (hi - 1).toNatClampNeg (by omega)
  have eb : sm.toNatClampNeg + 1 - S0.toNatClampNeg = (sm.toNatClampNeg - S0.toNatClampNeg) + 1 := by omega
  have hrest : ∀ k < 300 + S0.toNatClampNeg, upd asm (300 + sm).toNatClampNeg (asgn (hi - 1).toNatClampNeg) k = asm0 k := fun k hk2 => by
    simp only [upd]; rw [if_neg (by omega)]; exact hm k hk2
  by_cases h33 : (asgn (hi - 1).toNatClampNeg).toInt = 33
  · rw [if_pos (Or.inl h33)] at ec
    refine ⟨d, ?_, ?_, hd, fun k hk2 => hs k (by omega), by omega, hrest⟩
    · rw [e4, hk, eb]; exact h3.put (Or.inr (Or.inl ⟨h33, by omega, rfl⟩))
    · rw [if_pos hw]; omega
  · rw [if_neg (by omega)] at ec
    refine ⟨d - 1, ?_, ?_, by omega, fun k hk2 => hs k (by omega), by omega, hrest⟩
    · rw [e4, hk, eb]; exact h3.put (Or.inr (Or.inr ⟨h16, h33, by omega, by omega⟩))
    · rw [if_pos hw]; omega
theorem SInv.less (h : SInv S0 sm hi op lv wa asm0 asm asgn) (hh : 1 ≤ hi.toInt) (hh2 : hi.toInt ≤ 80) (ht : (asgn (hi - 1).toNatClampNeg).toInt = 33 ∨ (asgn (hi - 1).toNatClampNeg).toInt = 40) (h8 : op.toInt ≤ 8) : SInv S0 sm (hi - 1) (op - 1) lv wa asm0 asm asgn := by
  obtain ⟨d, h3, e, hd, hs, ho, hm⟩ := h
  have hp := clampP hh
  have c0 := clampI (i := hi) (by omega)
  have e5 : (hi - 1).toInt = hi.toInt - 1 := by simp only [Int32.toInt_sub, Int32.reduceToInt, Int.bmod]; omega
  have ec := cnt_top (asgn := asgn) hh
  rw [if_pos ht] at ec
  have hb := cntB_le asgn (hi - 1).toNatClampNeg
  have c5 := clampI (i := hi - 1) (by omega)
  have e6 : (op - 1).toInt = op.toInt - 1 := by simp only [Int32.toInt_sub, Int32.reduceToInt, Int.bmod]; omega
  exact ⟨d, h3, by rw [e, ec]; rfl, hd, fun k hk2 => hs k (by omega), by omega, hm⟩
theorem SInv.op1 (h : SInv S0 sm hi op lv wa asm0 asm asgn) (hh : 1 ≤ hi.toInt) (ht : (asgn (hi - 1).toNatClampNeg).toInt = 33 ∨ (asgn (hi - 1).toNatClampNeg).toInt = 40) : 1 ≤ op.toInt := by
  obtain ⟨d, h3, e, hd, hs, ho, hm⟩ := h
  have hp := clampP hh
  have c0 := clampI (i := hi) (by omega)
  have ec := cnt_top (asgn := asgn) hh
  rw [if_pos ht] at ec
  have hb := cntB_le asgn (hi - 1).toNatClampNeg
  omega
/-- '!' goes over: popped, put, one opened less -/
theorem SInv.popN (h : SInv S0 sm hi op lv wa asm0 asm asgn) (hw : wa.toInt = 0) (h0 : 0 ≤ S0.toInt) (h1 : S0.toInt ≤ sm.toInt) (h2 : sm.toInt < 300) (hh : 1 ≤ hi.toInt) (hh2 : hi.toInt ≤ 80) (ht3 : (asgn (hi - 1).toNatClampNeg).toInt = 33) (h8 : op.toInt ≤ 8) : SInv S0 (sm + 1) (hi - 1) (op - 1) lv wa asm0 (upd asm (300 + sm).toNatClampNeg 33) asgn := by
  have ht : asgn (hi - 1).toNatClampNeg = 33 := Int32.toInt_inj.mp (by rw [ht3]; rfl)
  have a := h.pop hw h0 h1 h2 hh hh2 (by omega)
  rw [ht] at a
  obtain ⟨d, h3, e, hd, hs, ho, hm⟩ := h.less hh hh2 (Or.inl ht3) h8
  obtain ⟨d', h3', e', hd', hs', ho', hm'⟩ := a
  exact ⟨d', h3', e', hd', hs', ho, hm'⟩
end SI
theorem hopP.one {sg : Nat → Int32} {x k : Int32} (h : hopP sg x k) (e' : ¬ x.toInt = 0) : hopP sg 1 k := by
  have e : ¬ x = 0 := fun z => e' (by rw [z]; rfl)
  rcases h with ⟨rfl, -⟩ | ⟨rfl, h⟩
  · exact absurd rfl e
  · exact Or.inr ⟨rfl, h⟩
theorem hopP.zero {sg : Nat → Int32} {x k : Int32} (h : hopP sg x k) (e : x.toInt = 0) : hopP sg 0 k := by
  have e : x = 0 := Int32.toInt_inj.mp (by rw [e]; rfl)
  rw [← e]; exact h
theorem hopP.pos {sg : Nat → Int32} {k : Int32} (h : hopP sg 1 k) : 1 ≤ k.toInt := by
  rcases h with ⟨h, -⟩ | ⟨-, j, hj, -⟩
  · exact absurd h (by decide)
  · have : (k.toNatClampNeg : Nat) = k.toInt.toNat := rfl
    omega
theorem hopP.dn {sg : Nat → Int32} {k : Int32} (h : hopP sg 1 k) (e' : ¬ (sg (k - 1).toNatClampNeg).toInt = 40) : hopP sg 1 (k - 1) := by
  have e : ¬ sg (k - 1).toNatClampNeg = 40 := fun z => e' (by rw [z]; rfl)
  have hp := clampP h.pos
  rcases h with ⟨h, -⟩ | ⟨-, j, hj, hs⟩
  · exact absurd h (by decide)
  · refine Or.inr ⟨rfl, j, ?_, hs⟩
    rcases Nat.lt_or_ge j (k - 1).toNatClampNeg with q | q
    · exact q
    · exact absurd (by rw [← hs, show j = (k - 1).toNatClampNeg by omega]) e
theorem hopP.dn0 {sg : Nat → Int32} {k : Int32} (h : hopP sg 0 k) (h1 : 1 ≤ k.toInt) : hopP sg 0 (k - 1) ∧ (sg (k - 1).toNatClampNeg).toInt ≠ 40 := by
  have hp := clampP h1
  rcases h with ⟨-, h⟩ | ⟨h, -⟩
  · exact ⟨Or.inl ⟨rfl, fun j hj => h j (by omega)⟩, fun e => h (k - 1).toNatClampNeg (by omega) (Int32.toInt_inj.mp e)⟩
  · exact absurd h (by decide)
theorem SInv.op0 {S0 sm hi op lv wa : Int32} {asm0 asm asgn : Nat → Int32} (h : SInv S0 sm hi op lv wa asm0 asm asgn) (hh : 0 ≤ hi.toInt) : 0 ≤ op.toInt := by
  obtain ⟨d, -, e, hd, -, ho, -⟩ := h
  have := cntB_le asgn hi.toNatClampNeg
  have c := clampI hh
  omega
theorem SInv.fin {S0 sm hi op lv wa : Int32} {asm0 asm asgn : Nat → Int32} (h : SInv S0 sm hi op lv wa asm0 asm asgn) (hh : hi.toInt = 0) (hw : wa.toInt = 0) : okc asm (300 + S0.toNatClampNeg) (sm.toNatClampNeg - S0.toNatClampNeg) 1 := by
  obtain ⟨d, h1, e, -, -, -, -⟩ := h
  have c := clampI (i := hi) (by omega)
  have : hi.toNatClampNeg = 0 := by omega
  rw [this, if_pos hw] at e
  have e2 : d = 1 := by
    have : cntB asgn 0 = 0 := rfl
    omega
  rw [← e2]; exact h1
theorem SInv.frame {S0 sm hi op lv wa : Int32} {asm0 asm asgn : Nat → Int32} (h : SInv S0 sm hi op lv wa asm0 asm asgn) : ∀ k < 300 + S0.toNatClampNeg, asm k = asm0 k := by
  obtain ⟨d, h1, e, -, -, -, h⟩ := h
  exact h
theorem upd_eq (f : Nat → Int32) (k : Nat) (v : Int32) : upd f k v k = v := by simp [upd]
theorem upd_ne (f : Nat → Int32) {k j : Nat} (v : Int32) (h : j ≠ k) : upd f k v j = f j := by simp [upd, h]
theorem bmI {x : Int} (h1 : -2147483648 ≤ x) (h2 : x < 2147483648) : x.bmod (2 ^ 32) = x := by simp only [Int.bmod]; omega
theorem upd_upd (f : Nat → Int32) (k : Nat) (v w : Int32) : upd (upd f k w) k v = upd f k v := by
  funext j; simp only [upd]; split <;> rfl
set_option maxHeartbeats 400000 in
set_option maxRecDepth 100000 in
theorem T_m_in (K : Nat) (hK : 1000000000 ≤ K) (l0_ : Int32) (l1_ : Int32) (l2_ : Int32) (hpre : True) : Tot (F_m_in K l0_ l1_ l2_) (fun r => (r = 1 ∧ l1_.toInt ≤ l0_.toInt ∧ l0_.toInt ≤ l2_.toInt) ∨ (r = 0 ∧ (l0_.toInt < l1_.toInt ∨ l2_.toInt < l0_.toInt))) := by
  unfold F_m_in
  obtain ⟨n, hn⟩ : ∃ n9, K = n9 + 8 := ⟨K - 8, by omega⟩
  have hn2 : 999999000 ≤ n := by omega
  suffices hs : Tot (L_m_in K (n + 8) 0 l0_ l1_ l2_) (fun r => (r = 1 ∧ l1_.toInt ≤ l0_.toInt ∧ l0_.toInt ≤ l2_.toInt) ∨ (r = 0 ∧ (l0_.toInt < l1_.toInt ∨ l2_.toInt < l0_.toInt))) from by rw [← hn] at hs; exact hs
  rw [L_m_in_e0]; unfold B_m_in_0
  repeat' (first | with_reducible refine Tot.ret ?_ | with_reducible refine Tot.ix ?_ ?_ | with_reducible refine Tot.yesB (by decide) ?_ | with_reducible refine Tot.noB (by decide) ?_ | with_reducible refine Tot.yes ?_ ?_ | with_reducible refine Tot.br (fun _ => ?_) (fun _ => ?_) | (rw [L_m_in_e0]; unfold B_m_in_0; try simp only [subOne]) | (rw [L_m_in_e1]; unfold B_m_in_1; try simp only [subOne]))
  all_goals (first | exact True.intro | omega | (((try simp only [ne_eq, true_and, and_true, true_or, or_true, false_or, or_false, not_true_eq_false, not_false_eq_true, false_and, and_false, Int32.lt_iff_toInt_lt, Int32.le_iff_toInt_le, ← Int32.toInt_inj, Int32.toInt_add, Int32.toInt_sub, Int32.toInt_mul, Int32.reduceToInt, ge_iff_le, gt_iff_lt, upd_eq, upd_upd] at *) <;> (try simp (disch := omega) only [bmI] at *)) <;> (first | omega | ((try simp only [Int.bmod] at *) <;> omega) | simp_all)))
set_option maxHeartbeats 400000 in
set_option maxRecDepth 100000 in
theorem T_m_isWithin (K : Nat) (hK : 1000000000 ≤ K) (l0_ : Int32) (l1_ : Int32) (hpre : True) : Tot (F_m_isWithin K l0_ l1_) (fun r => (r = 0 ∨ r = 1)) := by
  unfold F_m_isWithin
  obtain ⟨n, hn⟩ : ∃ n9, K = n9 + 8 := ⟨K - 8, by omega⟩
  have hn2 : 999999000 ≤ n := by omega
  suffices hs : Tot (L_m_isWithin K (n + 8) 0 l0_ l1_) (fun r => (r = 0 ∨ r = 1)) from by rw [← hn] at hs; exact hs
  rw [L_m_isWithin_e0]; unfold B_m_isWithin_0
  repeat' (first | with_reducible refine Tot.ret ?_ | with_reducible refine Tot.ix ?_ ?_ | with_reducible refine Tot.yesB (by decide) ?_ | with_reducible refine Tot.noB (by decide) ?_ | with_reducible refine Tot.yes ?_ ?_ | with_reducible refine Tot.br (fun _ => ?_) (fun _ => ?_) | (rw [L_m_isWithin_e0]; unfold B_m_isWithin_0; try simp only [subOne]))
  all_goals (first | exact True.intro | omega | (((try simp only [ne_eq, true_and, and_true, true_or, or_true, false_or, or_false, not_true_eq_false, not_false_eq_true, false_and, and_false, Int32.lt_iff_toInt_lt, Int32.le_iff_toInt_le, ← Int32.toInt_inj, Int32.toInt_add, Int32.toInt_sub, Int32.toInt_mul, Int32.reduceToInt, ge_iff_le, gt_iff_lt, upd_eq, upd_upd] at *) <;> (try simp (disch := omega) only [bmI] at *)) <;> (first | omega | ((try simp only [Int.bmod] at *) <;> omega) | simp_all)))
set_option maxHeartbeats 400000 in
set_option maxRecDepth 100000 in
theorem T_m_type (K : Nat) (hK : 1000000000 ≤ K) (j1_ : Int64) (l3_ : Int32) (ithrown_ : Int32) (ityped_ : Int32) (atxt_ : Nat → Int32) (hpre : 0 ≤ ityped_.toInt ∧ ityped_.toInt ≤ 300) : Tot (F_m_type K j1_ l3_ ithrown_ ityped_ atxt_) (fun r => 0 ≤ r.2.2.1.toInt ∧ r.2.2.1.toInt ≤ 300) := by
  have key : ∀ N : Nat, (∀ (j1 : Int64) (l3 : Int32) (l4 : Int32) (ithrown : Int32) (ityped : Int32) (atxt : Nat → Int32), (0 ≤ ityped.toInt ∧ -1 ≤ l4.toInt ∧ l4.toInt ≤ 7 ∧ ityped.toInt + l4.toInt < 300) → (l4.toInt + 1).toNat < N → ∀ n : Nat, 8 * ((l4.toInt + 1).toNat + 1) ≤ n → Tot (L_m_type K n 1 j1 l3 l4 ithrown ityped atxt) (fun r => 0 ≤ r.2.2.1.toInt ∧ r.2.2.1.toInt ≤ 300)) := by
    intro N
    induction N with
    | zero => exact fun _ _ _ _ _ _ _ hm => absurd hm (Nat.not_lt_zero _)
    | succ N ih =>
      have ih1 := ih; clear ih
      · intro j1 l3 l4 ithrown ityped atxt hI hm n hn
        obtain ⟨n, rfl⟩ : ∃ n9, n = n9 + 8 := ⟨n - 8, by omega⟩
        rw [L_m_type_e1]; unfold B_m_type_1; try simp only [subOne]
        repeat' (first | with_reducible refine Tot.ret ?_ | with_reducible refine Tot.ix ?_ ?_ | with_reducible refine Tot.yesB (by decide) ?_ | with_reducible refine Tot.noB (by decide) ?_ | with_reducible refine Tot.yes ?_ ?_ | with_reducible refine Tot.br (fun _ => ?_) (fun _ => ?_) | with_reducible refine Tot.bd (T_m_in K hK _ _ _ ?_) (fun _ _ => ?_) | with_reducible refine ih1 _ _ _ _ _ _ ?_ ?_ _ ?_ | (rw [L_m_type_e0]; unfold B_m_type_0; try simp only [subOne]))
        all_goals clear ih1
        all_goals (first | exact True.intro | omega | (((try simp only [ne_eq, true_and, and_true, true_or, or_true, false_or, or_false, not_true_eq_false, not_false_eq_true, false_and, and_false, Int32.lt_iff_toInt_lt, Int32.le_iff_toInt_le, ← Int32.toInt_inj, Int32.toInt_add, Int32.toInt_sub, Int32.toInt_mul, Int32.reduceToInt, ge_iff_le, gt_iff_lt, upd_eq, upd_upd] at *) <;> (try simp (disch := omega) only [bmI] at *)) <;> (first | omega | ((try simp only [Int.bmod] at *) <;> omega) | simp_all)))
  have hk1 : ∀ (j1 : Int64) (l3 : Int32) (l4 : Int32) (ithrown : Int32) (ityped : Int32) (atxt : Nat → Int32), (0 ≤ ityped.toInt ∧ -1 ≤ l4.toInt ∧ l4.toInt ≤ 7 ∧ ityped.toInt + l4.toInt < 300) → ∀ n : Nat, 8 * ((l4.toInt + 1).toNat + 1) ≤ n → Tot (L_m_type K n 1 j1 l3 l4 ithrown ityped atxt) (fun r => 0 ≤ r.2.2.1.toInt ∧ r.2.2.1.toInt ≤ 300) := fun j1 l3 l4 ithrown ityped atxt hI n hn => (key ((l4.toInt + 1).toNat + 1)) j1 l3 l4 ithrown ityped atxt hI (Nat.lt_succ_self _) n hn
  clear key
  unfold F_m_type
  obtain ⟨n, hn⟩ : ∃ n9, K = n9 + 8 := ⟨K - 8, by omega⟩
  have hn2 : 999999000 ≤ n := by omega
  suffices hs : Tot (L_m_type K (n + 8) 0 j1_ l3_ 0 ithrown_ ityped_ atxt_) (fun r => 0 ≤ r.2.2.1.toInt ∧ r.2.2.1.toInt ≤ 300) from by rw [← hn] at hs; exact hs
  rw [L_m_type_e0]; unfold B_m_type_0
  repeat' (first | with_reducible refine Tot.ret ?_ | with_reducible refine Tot.ix ?_ ?_ | with_reducible refine Tot.yesB (by decide) ?_ | with_reducible refine Tot.noB (by decide) ?_ | with_reducible refine Tot.yes ?_ ?_ | with_reducible refine Tot.br (fun _ => ?_) (fun _ => ?_) | with_reducible refine Tot.bd (T_m_in K hK _ _ _ ?_) (fun _ _ => ?_) | with_reducible refine hk1 _ _ _ _ _ _ ?_ _ ?_ | (rw [L_m_type_e0]; unfold B_m_type_0; try simp only [subOne]))
  all_goals clear hk1
  all_goals (first | exact True.intro | omega | (((try simp only [ne_eq, true_and, and_true, true_or, or_true, false_or, or_false, not_true_eq_false, not_false_eq_true, false_and, and_false, Int32.lt_iff_toInt_lt, Int32.le_iff_toInt_le, ← Int32.toInt_inj, Int32.toInt_add, Int32.toInt_sub, Int32.toInt_mul, Int32.reduceToInt, ge_iff_le, gt_iff_lt, upd_eq, upd_upd] at *) <;> (try simp (disch := omega) only [bmI] at *)) <;> (first | omega | ((try simp only [Int.bmod] at *) <;> omega) | simp_all)))
set_option maxHeartbeats 400000 in
set_option maxRecDepth 100000 in
theorem T_m_clear (K : Nat) (hK : 1000000000 ≤ K) (ithrown_ : Int32) (ityped_ : Int32) (hpre : True) : Tot (F_m_clear K ithrown_ ityped_) (fun r => r.2.2.toInt = 0) := by
  unfold F_m_clear
  obtain ⟨n, hn⟩ : ∃ n9, K = n9 + 8 := ⟨K - 8, by omega⟩
  have hn2 : 999999000 ≤ n := by omega
  suffices hs : Tot (L_m_clear K (n + 8) 0 ithrown_ ityped_) (fun r => r.2.2.toInt = 0) from by rw [← hn] at hs; exact hs
  rw [L_m_clear_e0]; unfold B_m_clear_0
  repeat' (first | with_reducible refine Tot.ret ?_ | with_reducible refine Tot.ix ?_ ?_ | with_reducible refine Tot.yesB (by decide) ?_ | with_reducible refine Tot.noB (by decide) ?_ | with_reducible refine Tot.yes ?_ ?_ | with_reducible refine Tot.br (fun _ => ?_) (fun _ => ?_) | (rw [L_m_clear_e0]; unfold B_m_clear_0; try simp only [subOne]))
  all_goals (first | exact True.intro | omega | (((try simp only [ne_eq, true_and, and_true, true_or, or_true, false_or, or_false, not_true_eq_false, not_false_eq_true, false_and, and_false, Int32.lt_iff_toInt_lt, Int32.le_iff_toInt_le, ← Int32.toInt_inj, Int32.toInt_add, Int32.toInt_sub, Int32.toInt_mul, Int32.reduceToInt, ge_iff_le, gt_iff_lt, upd_eq, upd_upd] at *) <;> (try simp (disch := omega) only [bmI] at *)) <;> (first | omega | ((try simp only [Int.bmod] at *) <;> omega) | simp_all)))
set_option maxHeartbeats 400000 in
set_option maxRecDepth 100000 in
theorem T_m_byteAt (K : Nat) (hK : 1000000000 ≤ K) (l1_ : Int32) (ityped_ : Int32) (atxt_ : Nat → Int32) (hpre : 0 ≤ l1_.toInt ∧ ityped_.toInt ≤ 300) : Tot (F_m_byteAt K l1_ ityped_ atxt_) (fun r => (l1_.toInt < ityped_.toInt ∧ r = atxt_ l1_.toNatClampNeg) ∨ (ityped_.toInt ≤ l1_.toInt ∧ r = -1)) := by
  unfold F_m_byteAt
  obtain ⟨n, hn⟩ : ∃ n9, K = n9 + 8 := ⟨K - 8, by omega⟩
  have hn2 : 999999000 ≤ n := by omega
  suffices hs : Tot (L_m_byteAt K (n + 8) 0 l1_ ityped_ atxt_) (fun r => (l1_.toInt < ityped_.toInt ∧ r = atxt_ l1_.toNatClampNeg) ∨ (ityped_.toInt ≤ l1_.toInt ∧ r = -1)) from by rw [← hn] at hs; exact hs
  rw [L_m_byteAt_e0]; unfold B_m_byteAt_0
  repeat' (first | with_reducible refine Tot.ret ?_ | with_reducible refine Tot.ix ?_ ?_ | with_reducible refine Tot.yesB (by decide) ?_ | with_reducible refine Tot.noB (by decide) ?_ | with_reducible refine Tot.yes ?_ ?_ | with_reducible refine Tot.br (fun _ => ?_) (fun _ => ?_) | (rw [L_m_byteAt_e0]; unfold B_m_byteAt_0; try simp only [subOne]))
  all_goals (first | exact True.intro | omega | (((try simp only [ne_eq, true_and, and_true, true_or, or_true, false_or, or_false, not_true_eq_false, not_false_eq_true, false_and, and_false, Int32.lt_iff_toInt_lt, Int32.le_iff_toInt_le, ← Int32.toInt_inj, Int32.toInt_add, Int32.toInt_sub, Int32.toInt_mul, Int32.reduceToInt, ge_iff_le, gt_iff_lt, upd_eq, upd_upd] at *) <;> (try simp (disch := omega) only [bmI] at *)) <;> (first | omega | ((try simp only [Int.bmod] at *) <;> omega) | simp_all)))
set_option maxHeartbeats 400000 in
set_option maxRecDepth 100000 in
theorem T_m_add (K : Nat) (hK : 1000000000 ≤ K) (j0_ : Int64) (l2_ : Int32) (hpre : True) : Tot (F_m_add K j0_ l2_) (fun r => True) := by
  unfold F_m_add
  obtain ⟨n, hn⟩ : ∃ n9, K = n9 + 8 := ⟨K - 8, by omega⟩
  have hn2 : 999999000 ≤ n := by omega
  suffices hs : Tot (L_m_add K (n + 8) 0 j0_ l2_) (fun r => True) from by rw [← hn] at hs; exact hs
  rw [L_m_add_e0]; unfold B_m_add_0
  repeat' (first | with_reducible refine Tot.ret ?_ | with_reducible refine Tot.ix ?_ ?_ | with_reducible refine Tot.yesB (by decide) ?_ | with_reducible refine Tot.noB (by decide) ?_ | with_reducible refine Tot.yes ?_ ?_ | with_reducible refine Tot.br (fun _ => ?_) (fun _ => ?_) | (rw [L_m_add_e0]; unfold B_m_add_0; try simp only [subOne]))
  all_goals (first | exact True.intro | omega | (((try simp only [ne_eq, true_and, and_true, true_or, or_true, false_or, or_false, not_true_eq_false, not_false_eq_true, false_and, and_false, Int32.lt_iff_toInt_lt, Int32.le_iff_toInt_le, ← Int32.toInt_inj, Int32.toInt_add, Int32.toInt_sub, Int32.toInt_mul, Int32.reduceToInt, ge_iff_le, gt_iff_lt, upd_eq, upd_upd] at *) <;> (try simp (disch := omega) only [bmI] at *)) <;> (first | omega | ((try simp only [Int.bmod] at *) <;> omega) | simp_all)))
set_option maxHeartbeats 400000 in
set_option maxRecDepth 100000 in
theorem T_m_word (K : Nat) (hK : 1000000000 ≤ K) (l0_ : Int32) (l1_ : Int32) (l2_ : Int32) (l3_ : Int32) (hpre : True) : Tot (F_m_word K l0_ l1_ l2_ l3_) (fun r => True) := by
  unfold F_m_word
  obtain ⟨n, hn⟩ : ∃ n9, K = n9 + 8 := ⟨K - 8, by omega⟩
  have hn2 : 999999000 ≤ n := by omega
  suffices hs : Tot (L_m_word K (n + 8) 0 l0_ l1_ l2_ l3_) (fun r => True) from by rw [← hn] at hs; exact hs
  rw [L_m_word_e0]; unfold B_m_word_0
  repeat' (first | with_reducible refine Tot.ret ?_ | with_reducible refine Tot.ix ?_ ?_ | with_reducible refine Tot.yesB (by decide) ?_ | with_reducible refine Tot.noB (by decide) ?_ | with_reducible refine Tot.yes ?_ ?_ | with_reducible refine Tot.br (fun _ => ?_) (fun _ => ?_) | with_reducible refine Tot.bd (T_m_add K hK _ _ ?_) (fun _ _ => ?_) | (rw [L_m_word_e0]; unfold B_m_word_0; try simp only [subOne]))
  all_goals (first | exact True.intro | omega | (((try simp only [ne_eq, true_and, and_true, true_or, or_true, false_or, or_false, not_true_eq_false, not_false_eq_true, false_and, and_false, Int32.lt_iff_toInt_lt, Int32.le_iff_toInt_le, ← Int32.toInt_inj, Int32.toInt_add, Int32.toInt_sub, Int32.toInt_mul, Int32.reduceToInt, ge_iff_le, gt_iff_lt, upd_eq, upd_upd] at *) <;> (try simp (disch := omega) only [bmI] at *)) <;> (first | omega | ((try simp only [Int.bmod] at *) <;> omega) | simp_all)))
set_option maxHeartbeats 4000000 in
set_option maxRecDepth 100000 in
theorem T_m_advances (K : Nat) (hK : 1000000000 ≤ K) (ityped_ : Int32) (inext_ : Int32) (itoken_ : Int32) (iplace_ : Int32) (ivalue_ : Int32) (atxt_ : Nat → Int32) (hpre : 0 ≤ inext_.toInt ∧ inext_.toInt ≤ ityped_.toInt ∧ ityped_.toInt ≤ 300) : Tot (F_m_advances K ityped_ inext_ itoken_ iplace_ ivalue_ atxt_) (fun r => inext_.toInt ≤ r.2.2.1.toInt ∧ r.2.2.1.toInt ≤ r.1.toInt ∧ r.1.toInt ≤ ityped_.toInt ∧ 0 ≤ r.2.1.toInt ∧ r.2.1.toInt ≤ 8 ∧ (r.2.1.toInt = 0 ∨ r.2.2.1.toInt < r.1.toInt) ∧ (r.2.1.toInt ≠ 5 ∨ (0 ≤ r.2.2.2.toInt ∧ r.2.2.2.toInt ≤ 5)) ∧ (r.2.1.toInt ≠ 6 ∨ (0 ≤ r.2.2.2.toInt ∧ r.2.2.2.toInt ≤ 9))) := by
  have key : ∀ N : Nat, (∀ (l1 : Int32) (l2 : Int32) (j2 : Int64) (l4 : Int32) (s0 : Int32) (u0 : Int64) (inext : Int32) (itoken : Int32) (iplace : Int32) (ivalue : Int32), (inext_.toInt ≤ inext.toInt ∧ inext.toInt ≤ ityped_.toInt) → (301 - inext.toInt).toNat < N → ∀ n : Nat, 8 * ((301 - inext.toInt).toNat + 1) ≤ n → Tot (L_m_advances K n 0 l1 l2 j2 l4 s0 u0 ityped_ inext itoken iplace ivalue atxt_) (fun r => inext_.toInt ≤ r.2.2.1.toInt ∧ r.2.2.1.toInt ≤ r.1.toInt ∧ r.1.toInt ≤ ityped_.toInt ∧ 0 ≤ r.2.1.toInt ∧ r.2.1.toInt ≤ 8 ∧ (r.2.1.toInt = 0 ∨ r.2.2.1.toInt < r.1.toInt) ∧ (r.2.1.toInt ≠ 5 ∨ (0 ≤ r.2.2.2.toInt ∧ r.2.2.2.toInt ≤ 5)) ∧ (r.2.1.toInt ≠ 6 ∨ (0 ≤ r.2.2.2.toInt ∧ r.2.2.2.toInt ≤ 9)))) ∧ (∀ (l1 : Int32) (l2 : Int32) (j2 : Int64) (l4 : Int32) (s0 : Int32) (u0 : Int64) (inext : Int32) (itoken : Int32) (iplace : Int32) (ivalue : Int32), (inext_.toInt ≤ iplace.toInt ∧ iplace.toInt ≤ inext.toInt ∧ inext.toInt ≤ ityped_.toInt ∧ 97 ≤ l1.toInt ∧ l1.toInt ≤ 122 ∧ l4.toInt = inext.toInt - iplace.toInt ∧ (iplace.toInt < inext.toInt ∨ (inext.toInt < ityped_.toInt ∧ l1 = atxt_ inext.toNatClampNeg))) → (300 - inext.toInt).toNat < N → ∀ n : Nat, 8 * ((300 - inext.toInt).toNat + 1) ≤ n → Tot (L_m_advances K n 1 l1 l2 j2 l4 s0 u0 ityped_ inext itoken iplace ivalue atxt_) (fun r => inext_.toInt ≤ r.2.2.1.toInt ∧ r.2.2.1.toInt ≤ r.1.toInt ∧ r.1.toInt ≤ ityped_.toInt ∧ 0 ≤ r.2.1.toInt ∧ r.2.1.toInt ≤ 8 ∧ (r.2.1.toInt = 0 ∨ r.2.2.1.toInt < r.1.toInt) ∧ (r.2.1.toInt ≠ 5 ∨ (0 ≤ r.2.2.2.toInt ∧ r.2.2.2.toInt ≤ 5)) ∧ (r.2.1.toInt ≠ 6 ∨ (0 ≤ r.2.2.2.toInt ∧ r.2.2.2.toInt ≤ 9)))) ∧ (∀ (l1 : Int32) (l2 : Int32) (j2 : Int64) (l4 : Int32) (s0 : Int32) (u0 : Int64) (inext : Int32) (itoken : Int32) (iplace : Int32) (ivalue : Int32), (inext_.toInt ≤ iplace.toInt ∧ iplace.toInt ≤ inext.toInt ∧ inext.toInt ≤ ityped_.toInt ∧ 48 ≤ l1.toInt ∧ l1.toInt ≤ 57 ∧ l2.toInt = inext.toInt - iplace.toInt ∧ (iplace.toInt < inext.toInt ∨ (inext.toInt < ityped_.toInt ∧ l1 = atxt_ inext.toNatClampNeg))) → (300 - inext.toInt).toNat < N → ∀ n : Nat, 8 * ((300 - inext.toInt).toNat + 1) ≤ n → Tot (L_m_advances K n 5 l1 l2 j2 l4 s0 u0 ityped_ inext itoken iplace ivalue atxt_) (fun r => inext_.toInt ≤ r.2.2.1.toInt ∧ r.2.2.1.toInt ≤ r.1.toInt ∧ r.1.toInt ≤ ityped_.toInt ∧ 0 ≤ r.2.1.toInt ∧ r.2.1.toInt ≤ 8 ∧ (r.2.1.toInt = 0 ∨ r.2.2.1.toInt < r.1.toInt) ∧ (r.2.1.toInt ≠ 5 ∨ (0 ≤ r.2.2.2.toInt ∧ r.2.2.2.toInt ≤ 5)) ∧ (r.2.1.toInt ≠ 6 ∨ (0 ≤ r.2.2.2.toInt ∧ r.2.2.2.toInt ≤ 9)))) := by
    intro N
    induction N with
    | zero => exact ⟨fun _ _ _ _ _ _ _ _ _ _ _ hm => absurd hm (Nat.not_lt_zero _), fun _ _ _ _ _ _ _ _ _ _ _ hm => absurd hm (Nat.not_lt_zero _), fun _ _ _ _ _ _ _ _ _ _ _ hm => absurd hm (Nat.not_lt_zero _)⟩
    | succ N ih =>
      obtain ⟨ih0, ih1, ih5⟩ := ih
      refine ⟨?_, ?_, ?_⟩
      · intro l1 l2 j2 l4 s0 u0 inext itoken iplace ivalue hI hm n hn
        obtain ⟨n, rfl⟩ : ∃ n9, n = n9 + 8 := ⟨n - 8, by omega⟩
        rw [L_m_advances_e0]; unfold B_m_advances_0; try simp only [subOne]
        repeat' (first | with_reducible refine Tot.ret ?_ | with_reducible refine Tot.ix ?_ ?_ | with_reducible refine Tot.yesB (by decide) ?_ | with_reducible refine Tot.noB (by decide) ?_ | with_reducible refine Tot.yes ?_ ?_ | with_reducible refine Tot.br (fun _ => ?_) (fun _ => ?_) | with_reducible refine Tot.bd (T_m_byteAt K hK _ _ _ ?_) (fun _ _ => ?_) | with_reducible refine Tot.bd (T_m_in K hK _ _ _ ?_) (fun _ _ => ?_) | with_reducible refine Tot.bd (T_m_word K hK _ _ _ _ ?_) (fun _ _ => ?_) | with_reducible refine Tot.bd (T_m_add K hK _ _ ?_) (fun _ _ => ?_) | with_reducible refine ih0 _ _ _ _ _ _ _ _ _ _ ?_ ?_ _ ?_ | with_reducible refine ih1 _ _ _ _ _ _ _ _ _ _ ?_ ?_ _ ?_ | with_reducible refine ih5 _ _ _ _ _ _ _ _ _ _ ?_ ?_ _ ?_ | (rw [L_m_advances_e2]; unfold B_m_advances_2; try simp only [subOne]) | (rw [L_m_advances_e3]; unfold B_m_advances_3; try simp only [subOne]) | (rw [L_m_advances_e4]; unfold B_m_advances_4; try simp only [subOne]) | (rw [L_m_advances_e6]; unfold B_m_advances_6; try simp only [subOne]) | (rw [L_m_advances_e7]; unfold B_m_advances_7; try simp only [subOne]) | (rw [L_m_advances_e8]; unfold B_m_advances_8; try simp only [subOne]) | (rw [L_m_advances_e9]; unfold B_m_advances_9; try simp only [subOne]))
        all_goals clear ih0 ih1 ih5
        all_goals (first | exact True.intro | omega | (((try simp only [ne_eq, true_and, and_true, true_or, or_true, false_or, or_false, not_true_eq_false, not_false_eq_true, false_and, and_false, Int32.lt_iff_toInt_lt, Int32.le_iff_toInt_le, ← Int32.toInt_inj, Int32.toInt_add, Int32.toInt_sub, Int32.toInt_mul, Int32.reduceToInt, ge_iff_le, gt_iff_lt, upd_eq, upd_upd] at *) <;> (try simp (disch := omega) only [bmI] at *)) <;> (first | omega | ((try simp only [Int.bmod] at *) <;> omega) | simp_all)))
      · intro l1 l2 j2 l4 s0 u0 inext itoken iplace ivalue hI hm n hn
        obtain ⟨n, rfl⟩ : ∃ n9, n = n9 + 8 := ⟨n - 8, by omega⟩
        rw [L_m_advances_e1]; unfold B_m_advances_1; try simp only [subOne]
        repeat' (first | with_reducible refine Tot.ret ?_ | with_reducible refine Tot.ix ?_ ?_ | with_reducible refine Tot.yesB (by decide) ?_ | with_reducible refine Tot.noB (by decide) ?_ | with_reducible refine Tot.yes ?_ ?_ | with_reducible refine Tot.br (fun _ => ?_) (fun _ => ?_) | with_reducible refine Tot.bd (T_m_byteAt K hK _ _ _ ?_) (fun _ _ => ?_) | with_reducible refine Tot.bd (T_m_in K hK _ _ _ ?_) (fun _ _ => ?_) | with_reducible refine Tot.bd (T_m_word K hK _ _ _ _ ?_) (fun _ _ => ?_) | with_reducible refine Tot.bd (T_m_add K hK _ _ ?_) (fun _ _ => ?_) | with_reducible refine ih0 _ _ _ _ _ _ _ _ _ _ ?_ ?_ _ ?_ | with_reducible refine ih1 _ _ _ _ _ _ _ _ _ _ ?_ ?_ _ ?_ | with_reducible refine ih5 _ _ _ _ _ _ _ _ _ _ ?_ ?_ _ ?_ | (rw [L_m_advances_e2]; unfold B_m_advances_2; try simp only [subOne]) | (rw [L_m_advances_e3]; unfold B_m_advances_3; try simp only [subOne]) | (rw [L_m_advances_e4]; unfold B_m_advances_4; try simp only [subOne]) | (rw [L_m_advances_e6]; unfold B_m_advances_6; try simp only [subOne]) | (rw [L_m_advances_e7]; unfold B_m_advances_7; try simp only [subOne]) | (rw [L_m_advances_e8]; unfold B_m_advances_8; try simp only [subOne]) | (rw [L_m_advances_e9]; unfold B_m_advances_9; try simp only [subOne]))
        all_goals clear ih0 ih1 ih5
        all_goals (first | exact True.intro | omega | (((try simp only [ne_eq, true_and, and_true, true_or, or_true, false_or, or_false, not_true_eq_false, not_false_eq_true, false_and, and_false, Int32.lt_iff_toInt_lt, Int32.le_iff_toInt_le, ← Int32.toInt_inj, Int32.toInt_add, Int32.toInt_sub, Int32.toInt_mul, Int32.reduceToInt, ge_iff_le, gt_iff_lt, upd_eq, upd_upd] at *) <;> (try simp (disch := omega) only [bmI] at *)) <;> (first | omega | ((try simp only [Int.bmod] at *) <;> omega) | simp_all)))
      · intro l1 l2 j2 l4 s0 u0 inext itoken iplace ivalue hI hm n hn
        obtain ⟨n, rfl⟩ : ∃ n9, n = n9 + 8 := ⟨n - 8, by omega⟩
        rw [L_m_advances_e5]; unfold B_m_advances_5; try simp only [subOne]
        repeat' (first | with_reducible refine Tot.ret ?_ | with_reducible refine Tot.ix ?_ ?_ | with_reducible refine Tot.yesB (by decide) ?_ | with_reducible refine Tot.noB (by decide) ?_ | with_reducible refine Tot.yes ?_ ?_ | with_reducible refine Tot.br (fun _ => ?_) (fun _ => ?_) | with_reducible refine Tot.bd (T_m_byteAt K hK _ _ _ ?_) (fun _ _ => ?_) | with_reducible refine Tot.bd (T_m_in K hK _ _ _ ?_) (fun _ _ => ?_) | with_reducible refine Tot.bd (T_m_word K hK _ _ _ _ ?_) (fun _ _ => ?_) | with_reducible refine Tot.bd (T_m_add K hK _ _ ?_) (fun _ _ => ?_) | with_reducible refine ih0 _ _ _ _ _ _ _ _ _ _ ?_ ?_ _ ?_ | with_reducible refine ih1 _ _ _ _ _ _ _ _ _ _ ?_ ?_ _ ?_ | with_reducible refine ih5 _ _ _ _ _ _ _ _ _ _ ?_ ?_ _ ?_ | (rw [L_m_advances_e2]; unfold B_m_advances_2; try simp only [subOne]) | (rw [L_m_advances_e3]; unfold B_m_advances_3; try simp only [subOne]) | (rw [L_m_advances_e4]; unfold B_m_advances_4; try simp only [subOne]) | (rw [L_m_advances_e6]; unfold B_m_advances_6; try simp only [subOne]) | (rw [L_m_advances_e7]; unfold B_m_advances_7; try simp only [subOne]) | (rw [L_m_advances_e8]; unfold B_m_advances_8; try simp only [subOne]) | (rw [L_m_advances_e9]; unfold B_m_advances_9; try simp only [subOne]))
        all_goals clear ih0 ih1 ih5
        all_goals (first | exact True.intro | omega | (((try simp only [ne_eq, true_and, and_true, true_or, or_true, false_or, or_false, not_true_eq_false, not_false_eq_true, false_and, and_false, Int32.lt_iff_toInt_lt, Int32.le_iff_toInt_le, ← Int32.toInt_inj, Int32.toInt_add, Int32.toInt_sub, Int32.toInt_mul, Int32.reduceToInt, ge_iff_le, gt_iff_lt, upd_eq, upd_upd] at *) <;> (try simp (disch := omega) only [bmI] at *)) <;> (first | omega | ((try simp only [Int.bmod] at *) <;> omega) | simp_all)))
  have hk0 : ∀ (l1 : Int32) (l2 : Int32) (j2 : Int64) (l4 : Int32) (s0 : Int32) (u0 : Int64) (inext : Int32) (itoken : Int32) (iplace : Int32) (ivalue : Int32), (inext_.toInt ≤ inext.toInt ∧ inext.toInt ≤ ityped_.toInt) → ∀ n : Nat, 8 * ((301 - inext.toInt).toNat + 1) ≤ n → Tot (L_m_advances K n 0 l1 l2 j2 l4 s0 u0 ityped_ inext itoken iplace ivalue atxt_) (fun r => inext_.toInt ≤ r.2.2.1.toInt ∧ r.2.2.1.toInt ≤ r.1.toInt ∧ r.1.toInt ≤ ityped_.toInt ∧ 0 ≤ r.2.1.toInt ∧ r.2.1.toInt ≤ 8 ∧ (r.2.1.toInt = 0 ∨ r.2.2.1.toInt < r.1.toInt) ∧ (r.2.1.toInt ≠ 5 ∨ (0 ≤ r.2.2.2.toInt ∧ r.2.2.2.toInt ≤ 5)) ∧ (r.2.1.toInt ≠ 6 ∨ (0 ≤ r.2.2.2.toInt ∧ r.2.2.2.toInt ≤ 9))) := fun l1 l2 j2 l4 s0 u0 inext itoken iplace ivalue hI n hn => (key ((301 - inext.toInt).toNat + 1)).1 l1 l2 j2 l4 s0 u0 inext itoken iplace ivalue hI (Nat.lt_succ_self _) n hn
  have hk1 : ∀ (l1 : Int32) (l2 : Int32) (j2 : Int64) (l4 : Int32) (s0 : Int32) (u0 : Int64) (inext : Int32) (itoken : Int32) (iplace : Int32) (ivalue : Int32), (inext_.toInt ≤ iplace.toInt ∧ iplace.toInt ≤ inext.toInt ∧ inext.toInt ≤ ityped_.toInt ∧ 97 ≤ l1.toInt ∧ l1.toInt ≤ 122 ∧ l4.toInt = inext.toInt - iplace.toInt ∧ (iplace.toInt < inext.toInt ∨ (inext.toInt < ityped_.toInt ∧ l1 = atxt_ inext.toNatClampNeg))) → ∀ n : Nat, 8 * ((300 - inext.toInt).toNat + 1) ≤ n → Tot (L_m_advances K n 1 l1 l2 j2 l4 s0 u0 ityped_ inext itoken iplace ivalue atxt_) (fun r => inext_.toInt ≤ r.2.2.1.toInt ∧ r.2.2.1.toInt ≤ r.1.toInt ∧ r.1.toInt ≤ ityped_.toInt ∧ 0 ≤ r.2.1.toInt ∧ r.2.1.toInt ≤ 8 ∧ (r.2.1.toInt = 0 ∨ r.2.2.1.toInt < r.1.toInt) ∧ (r.2.1.toInt ≠ 5 ∨ (0 ≤ r.2.2.2.toInt ∧ r.2.2.2.toInt ≤ 5)) ∧ (r.2.1.toInt ≠ 6 ∨ (0 ≤ r.2.2.2.toInt ∧ r.2.2.2.toInt ≤ 9))) := fun l1 l2 j2 l4 s0 u0 inext itoken iplace ivalue hI n hn => (key ((300 - inext.toInt).toNat + 1)).2.1 l1 l2 j2 l4 s0 u0 inext itoken iplace ivalue hI (Nat.lt_succ_self _) n hn
  have hk5 : ∀ (l1 : Int32) (l2 : Int32) (j2 : Int64) (l4 : Int32) (s0 : Int32) (u0 : Int64) (inext : Int32) (itoken : Int32) (iplace : Int32) (ivalue : Int32), (inext_.toInt ≤ iplace.toInt ∧ iplace.toInt ≤ inext.toInt ∧ inext.toInt ≤ ityped_.toInt ∧ 48 ≤ l1.toInt ∧ l1.toInt ≤ 57 ∧ l2.toInt = inext.toInt - iplace.toInt ∧ (iplace.toInt < inext.toInt ∨ (inext.toInt < ityped_.toInt ∧ l1 = atxt_ inext.toNatClampNeg))) → ∀ n : Nat, 8 * ((300 - inext.toInt).toNat + 1) ≤ n → Tot (L_m_advances K n 5 l1 l2 j2 l4 s0 u0 ityped_ inext itoken iplace ivalue atxt_) (fun r => inext_.toInt ≤ r.2.2.1.toInt ∧ r.2.2.1.toInt ≤ r.1.toInt ∧ r.1.toInt ≤ ityped_.toInt ∧ 0 ≤ r.2.1.toInt ∧ r.2.1.toInt ≤ 8 ∧ (r.2.1.toInt = 0 ∨ r.2.2.1.toInt < r.1.toInt) ∧ (r.2.1.toInt ≠ 5 ∨ (0 ≤ r.2.2.2.toInt ∧ r.2.2.2.toInt ≤ 5)) ∧ (r.2.1.toInt ≠ 6 ∨ (0 ≤ r.2.2.2.toInt ∧ r.2.2.2.toInt ≤ 9))) := fun l1 l2 j2 l4 s0 u0 inext itoken iplace ivalue hI n hn => (key ((300 - inext.toInt).toNat + 1)).2.2 l1 l2 j2 l4 s0 u0 inext itoken iplace ivalue hI (Nat.lt_succ_self _) n hn
  clear key
  unfold F_m_advances
  refine hk0 _ _ _ _ _ _ _ _ _ _ ?_ _ ?_
  all_goals clear hk0 hk1 hk5
  all_goals (first | exact True.intro | omega | (((try simp only [ne_eq, true_and, and_true, true_or, or_true, false_or, or_false, not_true_eq_false, not_false_eq_true, false_and, and_false, Int32.lt_iff_toInt_lt, Int32.le_iff_toInt_le, ← Int32.toInt_inj, Int32.toInt_add, Int32.toInt_sub, Int32.toInt_mul, Int32.reduceToInt, ge_iff_le, gt_iff_lt, upd_eq, upd_upd] at *) <;> (try simp (disch := omega) only [bmI] at *)) <;> (first | omega | ((try simp only [Int.bmod] at *) <;> omega) | simp_all)))
set_option maxHeartbeats 400000 in
set_option maxRecDepth 100000 in
theorem T_m_isWell (K : Nat) (hK : 1000000000 ≤ K) (ifault_ : Int32) (hpre : True) : Tot (F_m_isWell K ifault_) (fun r => (r = 1 ∧ ifault_.toInt < 0) ∨ (r = 0 ∧ 0 ≤ ifault_.toInt)) := by
  unfold F_m_isWell
  obtain ⟨n, hn⟩ : ∃ n9, K = n9 + 8 := ⟨K - 8, by omega⟩
  have hn2 : 999999000 ≤ n := by omega
  suffices hs : Tot (L_m_isWell K (n + 8) 0 ifault_) (fun r => (r = 1 ∧ ifault_.toInt < 0) ∨ (r = 0 ∧ 0 ≤ ifault_.toInt)) from by rw [← hn] at hs; exact hs
  rw [L_m_isWell_e0]; unfold B_m_isWell_0
  repeat' (first | with_reducible refine Tot.ret ?_ | with_reducible refine Tot.ix ?_ ?_ | with_reducible refine Tot.yesB (by decide) ?_ | with_reducible refine Tot.noB (by decide) ?_ | with_reducible refine Tot.yes ?_ ?_ | with_reducible refine Tot.br (fun _ => ?_) (fun _ => ?_) | (rw [L_m_isWell_e0]; unfold B_m_isWell_0; try simp only [subOne]))
  all_goals (first | exact True.intro | omega | (((try simp only [ne_eq, true_and, and_true, true_or, or_true, false_or, or_false, not_true_eq_false, not_false_eq_true, false_and, and_false, Int32.lt_iff_toInt_lt, Int32.le_iff_toInt_le, ← Int32.toInt_inj, Int32.toInt_add, Int32.toInt_sub, Int32.toInt_mul, Int32.reduceToInt, ge_iff_le, gt_iff_lt, upd_eq, upd_upd] at *) <;> (try simp (disch := omega) only [bmI] at *)) <;> (first | omega | ((try simp only [Int.bmod] at *) <;> omega) | simp_all)))
set_option maxHeartbeats 400000 in
set_option maxRecDepth 100000 in
theorem T_m_fails (K : Nat) (hK : 1000000000 ≤ K) (iplace_ : Int32) (ifault_ : Int32) (hpre : 0 ≤ iplace_.toInt) : Tot (F_m_fails K iplace_ ifault_) (fun r => 0 ≤ r.toInt) := by
  unfold F_m_fails
  obtain ⟨n, hn⟩ : ∃ n9, K = n9 + 8 := ⟨K - 8, by omega⟩
  have hn2 : 999999000 ≤ n := by omega
  suffices hs : Tot (L_m_fails K (n + 8) 0 0 iplace_ ifault_) (fun r => 0 ≤ r.toInt) from by rw [← hn] at hs; exact hs
  rw [L_m_fails_e0]; unfold B_m_fails_0
  repeat' (first | with_reducible refine Tot.ret ?_ | with_reducible refine Tot.ix ?_ ?_ | with_reducible refine Tot.yesB (by decide) ?_ | with_reducible refine Tot.noB (by decide) ?_ | with_reducible refine Tot.yes ?_ ?_ | with_reducible refine Tot.br (fun _ => ?_) (fun _ => ?_) | (rw [L_m_fails_e0]; unfold B_m_fails_0; try simp only [subOne]) | (rw [L_m_fails_e1]; unfold B_m_fails_1; try simp only [subOne]))
  all_goals (first | exact True.intro | omega | (((try simp only [ne_eq, true_and, and_true, true_or, or_true, false_or, or_false, not_true_eq_false, not_false_eq_true, false_and, and_false, Int32.lt_iff_toInt_lt, Int32.le_iff_toInt_le, ← Int32.toInt_inj, Int32.toInt_add, Int32.toInt_sub, Int32.toInt_mul, Int32.reduceToInt, ge_iff_le, gt_iff_lt, upd_eq, upd_upd] at *) <;> (try simp (disch := omega) only [bmI] at *)) <;> (first | omega | ((try simp only [Int.bmod] at *) <;> omega) | simp_all)))
set_option maxHeartbeats 400000 in
set_option maxRecDepth 100000 in
theorem T_m_isSign (K : Nat) (hK : 1000000000 ≤ K) (l1_ : Int32) (itoken_ : Int32) (ivalue_ : Int32) (ifault_ : Int32) (hpre : True) : Tot (F_m_isSign K l1_ itoken_ ivalue_ ifault_) (fun r => (r = 1 ∧ ifault_.toInt < 0 ∧ itoken_ = 7 ∧ ivalue_ = l1_) ∨ (r = 0 ∧ (0 ≤ ifault_.toInt ∨ itoken_ ≠ 7 ∨ ivalue_ ≠ l1_))) := by
  unfold F_m_isSign
  obtain ⟨n, hn⟩ : ∃ n9, K = n9 + 8 := ⟨K - 8, by omega⟩
  have hn2 : 999999000 ≤ n := by omega
  suffices hs : Tot (L_m_isSign K (n + 8) 0 l1_ itoken_ ivalue_ ifault_) (fun r => (r = 1 ∧ ifault_.toInt < 0 ∧ itoken_ = 7 ∧ ivalue_ = l1_) ∨ (r = 0 ∧ (0 ≤ ifault_.toInt ∨ itoken_ ≠ 7 ∨ ivalue_ ≠ l1_))) from by rw [← hn] at hs; exact hs
  rw [L_m_isSign_e0]; unfold B_m_isSign_0
  repeat' (first | with_reducible refine Tot.ret ?_ | with_reducible refine Tot.ix ?_ ?_ | with_reducible refine Tot.yesB (by decide) ?_ | with_reducible refine Tot.noB (by decide) ?_ | with_reducible refine Tot.yes ?_ ?_ | with_reducible refine Tot.br (fun _ => ?_) (fun _ => ?_) | with_reducible refine Tot.bd (T_m_isWell K hK _ ?_) (fun _ _ => ?_) | (rw [L_m_isSign_e0]; unfold B_m_isSign_0; try simp only [subOne]) | (rw [L_m_isSign_e1]; unfold B_m_isSign_1; try simp only [subOne]))
  all_goals (first | exact True.intro | omega | (((try simp only [ne_eq, true_and, and_true, true_or, or_true, false_or, or_false, not_true_eq_false, not_false_eq_true, false_and, and_false, Int32.lt_iff_toInt_lt, Int32.le_iff_toInt_le, ← Int32.toInt_inj, Int32.toInt_add, Int32.toInt_sub, Int32.toInt_mul, Int32.reduceToInt, ge_iff_le, gt_iff_lt, upd_eq, upd_upd] at *) <;> (try simp (disch := omega) only [bmI] at *)) <;> (first | omega | ((try simp only [Int.bmod] at *) <;> omega) | simp_all)))
set_option maxHeartbeats 400000 in
set_option maxRecDepth 100000 in
theorem T_m_takesSign (K : Nat) (hK : 1000000000 ≤ K) (l1_ : Int32) (ityped_ : Int32) (inext_ : Int32) (itoken_ : Int32) (iplace_ : Int32) (ivalue_ : Int32) (ifault_ : Int32) (atxt_ : Nat → Int32) (hpre : (0 ≤ iplace_.toInt ∧ iplace_.toInt ≤ inext_.toInt ∧ inext_.toInt ≤ ityped_.toInt ∧ ityped_.toInt ≤ 300 ∧ 0 ≤ itoken_.toInt ∧ itoken_.toInt ≤ 8 ∧ (itoken_.toInt = 0 ∨ iplace_.toInt < inext_.toInt) ∧ (itoken_.toInt ≠ 5 ∨ (0 ≤ ivalue_.toInt ∧ ivalue_.toInt ≤ 5)) ∧ (itoken_.toInt ≠ 6 ∨ (0 ≤ ivalue_.toInt ∧ ivalue_.toInt ≤ 9)))) : Tot (F_m_takesSign K l1_ ityped_ inext_ itoken_ iplace_ ivalue_ ifault_ atxt_) (fun r => (0 ≤ r.2.2.1.toInt ∧ r.2.2.1.toInt ≤ r.1.toInt ∧ r.1.toInt ≤ ityped_.toInt ∧ ityped_.toInt ≤ 300 ∧ 0 ≤ r.2.1.toInt ∧ r.2.1.toInt ≤ 8 ∧ (r.2.1.toInt = 0 ∨ r.2.2.1.toInt < r.1.toInt) ∧ (r.2.1.toInt ≠ 5 ∨ (0 ≤ r.2.2.2.1.toInt ∧ r.2.2.2.1.toInt ≤ 5)) ∧ (r.2.1.toInt ≠ 6 ∨ (0 ≤ r.2.2.2.1.toInt ∧ r.2.2.2.1.toInt ≤ 9))) ∧ iplace_.toInt ≤ r.2.2.1.toInt ∧ (0 ≤ r.2.2.2.2.toInt ∨ (r.2.2.2.2 = ifault_ ∧ ifault_.toInt < 0 ∧ iplace_.toInt < r.2.2.1.toInt))) := by
  unfold F_m_takesSign
  obtain ⟨n, hn⟩ : ∃ n9, K = n9 + 8 := ⟨K - 8, by omega⟩
  have hn2 : 999999000 ≤ n := by omega
  suffices hs : Tot (L_m_takesSign K (n + 8) 0 l1_ ityped_ inext_ itoken_ iplace_ ivalue_ ifault_ atxt_) (fun r => (0 ≤ r.2.2.1.toInt ∧ r.2.2.1.toInt ≤ r.1.toInt ∧ r.1.toInt ≤ ityped_.toInt ∧ ityped_.toInt ≤ 300 ∧ 0 ≤ r.2.1.toInt ∧ r.2.1.toInt ≤ 8 ∧ (r.2.1.toInt = 0 ∨ r.2.2.1.toInt < r.1.toInt) ∧ (r.2.1.toInt ≠ 5 ∨ (0 ≤ r.2.2.2.1.toInt ∧ r.2.2.2.1.toInt ≤ 5)) ∧ (r.2.1.toInt ≠ 6 ∨ (0 ≤ r.2.2.2.1.toInt ∧ r.2.2.2.1.toInt ≤ 9))) ∧ iplace_.toInt ≤ r.2.2.1.toInt ∧ (0 ≤ r.2.2.2.2.toInt ∨ (r.2.2.2.2 = ifault_ ∧ ifault_.toInt < 0 ∧ iplace_.toInt < r.2.2.1.toInt))) from by rw [← hn] at hs; exact hs
  rw [L_m_takesSign_e0]; unfold B_m_takesSign_0
  repeat' (first | with_reducible refine Tot.ret ?_ | with_reducible refine Tot.ix ?_ ?_ | with_reducible refine Tot.yesB (by decide) ?_ | with_reducible refine Tot.noB (by decide) ?_ | with_reducible refine Tot.yes ?_ ?_ | with_reducible refine Tot.br (fun _ => ?_) (fun _ => ?_) | with_reducible refine Tot.bd (T_m_isSign K hK _ _ _ _ ?_) (fun _ _ => ?_) | with_reducible refine Tot.bd (T_m_fails K hK _ _ ?_) (fun _ _ => ?_) | with_reducible refine Tot.bd (T_m_advances K hK _ _ _ _ _ _ ?_) (fun _ _ => ?_) | (rw [L_m_takesSign_e0]; unfold B_m_takesSign_0; try simp only [subOne]))
  all_goals (first | exact True.intro | omega | (((try simp only [ne_eq, true_and, and_true, true_or, or_true, false_or, or_false, not_true_eq_false, not_false_eq_true, false_and, and_false, Int32.lt_iff_toInt_lt, Int32.le_iff_toInt_le, ← Int32.toInt_inj, Int32.toInt_add, Int32.toInt_sub, Int32.toInt_mul, Int32.reduceToInt, ge_iff_le, gt_iff_lt, upd_eq, upd_upd] at *) <;> (try simp (disch := omega) only [bmI] at *)) <;> (first | omega | ((try simp only [Int.bmod] at *) <;> omega) | simp_all)))
set_option maxHeartbeats 400000 in
set_option maxRecDepth 100000 in
theorem T_m_takesNumber (K : Nat) (hK : 1000000000 ≤ K) (l1_ : Int32) (ityped_ : Int32) (inext_ : Int32) (itoken_ : Int32) (iplace_ : Int32) (ivalue_ : Int32) (ifault_ : Int32) (atxt_ : Nat → Int32) (hpre : (0 ≤ iplace_.toInt ∧ iplace_.toInt ≤ inext_.toInt ∧ inext_.toInt ≤ ityped_.toInt ∧ ityped_.toInt ≤ 300 ∧ 0 ≤ itoken_.toInt ∧ itoken_.toInt ≤ 8 ∧ (itoken_.toInt = 0 ∨ iplace_.toInt < inext_.toInt) ∧ (itoken_.toInt ≠ 5 ∨ (0 ≤ ivalue_.toInt ∧ ivalue_.toInt ≤ 5)) ∧ (itoken_.toInt ≠ 6 ∨ (0 ≤ ivalue_.toInt ∧ ivalue_.toInt ≤ 9))) ∧ 0 ≤ l1_.toInt) : Tot (F_m_takesNumber K l1_ ityped_ inext_ itoken_ iplace_ ivalue_ ifault_ atxt_) (fun r => (0 ≤ r.2.2.2.1.toInt ∧ r.2.2.2.1.toInt ≤ r.2.1.toInt ∧ r.2.1.toInt ≤ ityped_.toInt ∧ ityped_.toInt ≤ 300 ∧ 0 ≤ r.2.2.1.toInt ∧ r.2.2.1.toInt ≤ 8 ∧ (r.2.2.1.toInt = 0 ∨ r.2.2.2.1.toInt < r.2.1.toInt) ∧ (r.2.2.1.toInt ≠ 5 ∨ (0 ≤ r.2.2.2.2.1.toInt ∧ r.2.2.2.2.1.toInt ≤ 5)) ∧ (r.2.2.1.toInt ≠ 6 ∨ (0 ≤ r.2.2.2.2.1.toInt ∧ r.2.2.2.2.1.toInt ≤ 9))) ∧ 0 ≤ r.1.toInt ∧ r.1.toInt ≤ l1_.toInt ∧ iplace_.toInt ≤ r.2.2.2.1.toInt ∧ (0 ≤ r.2.2.2.2.2.toInt ∨ (r.2.2.2.2.2 = ifault_ ∧ ifault_.toInt < 0 ∧ iplace_.toInt < r.2.2.2.1.toInt))) := by
  unfold F_m_takesNumber
  obtain ⟨n, hn⟩ : ∃ n9, K = n9 + 8 := ⟨K - 8, by omega⟩
  have hn2 : 999999000 ≤ n := by omega
  suffices hs : Tot (L_m_takesNumber K (n + 8) 0 l1_ ityped_ inext_ itoken_ iplace_ ivalue_ ifault_ atxt_) (fun r => (0 ≤ r.2.2.2.1.toInt ∧ r.2.2.2.1.toInt ≤ r.2.1.toInt ∧ r.2.1.toInt ≤ ityped_.toInt ∧ ityped_.toInt ≤ 300 ∧ 0 ≤ r.2.2.1.toInt ∧ r.2.2.1.toInt ≤ 8 ∧ (r.2.2.1.toInt = 0 ∨ r.2.2.2.1.toInt < r.2.1.toInt) ∧ (r.2.2.1.toInt ≠ 5 ∨ (0 ≤ r.2.2.2.2.1.toInt ∧ r.2.2.2.2.1.toInt ≤ 5)) ∧ (r.2.2.1.toInt ≠ 6 ∨ (0 ≤ r.2.2.2.2.1.toInt ∧ r.2.2.2.2.1.toInt ≤ 9))) ∧ 0 ≤ r.1.toInt ∧ r.1.toInt ≤ l1_.toInt ∧ iplace_.toInt ≤ r.2.2.2.1.toInt ∧ (0 ≤ r.2.2.2.2.2.toInt ∨ (r.2.2.2.2.2 = ifault_ ∧ ifault_.toInt < 0 ∧ iplace_.toInt < r.2.2.2.1.toInt))) from by rw [← hn] at hs; exact hs
  rw [L_m_takesNumber_e0]; unfold B_m_takesNumber_0
  repeat' (first | with_reducible refine Tot.ret ?_ | with_reducible refine Tot.ix ?_ ?_ | with_reducible refine Tot.yesB (by decide) ?_ | with_reducible refine Tot.noB (by decide) ?_ | with_reducible refine Tot.yes ?_ ?_ | with_reducible refine Tot.br (fun _ => ?_) (fun _ => ?_) | with_reducible refine Tot.bd (T_m_isWell K hK _ ?_) (fun _ _ => ?_) | with_reducible refine Tot.bd (T_m_advances K hK _ _ _ _ _ _ ?_) (fun _ _ => ?_) | with_reducible refine Tot.bd (T_m_fails K hK _ _ ?_) (fun _ _ => ?_) | (rw [L_m_takesNumber_e0]; unfold B_m_takesNumber_0; try simp only [subOne]) | (rw [L_m_takesNumber_e1]; unfold B_m_takesNumber_1; try simp only [subOne]))
  all_goals (first | exact True.intro | omega | (((try simp only [ne_eq, true_and, and_true, true_or, or_true, false_or, or_false, not_true_eq_false, not_false_eq_true, false_and, and_false, Int32.lt_iff_toInt_lt, Int32.le_iff_toInt_le, ← Int32.toInt_inj, Int32.toInt_add, Int32.toInt_sub, Int32.toInt_mul, Int32.reduceToInt, ge_iff_le, gt_iff_lt, upd_eq, upd_upd] at *) <;> (try simp (disch := omega) only [bmI] at *)) <;> (first | omega | ((try simp only [Int.bmod] at *) <;> omega) | simp_all)))
set_option maxHeartbeats 400000 in
set_option maxRecDepth 100000 in
theorem T_m_puts (K : Nat) (hK : 1000000000 ≤ K) (l1_ : Int32) (isumMany_ : Int32) (asm_ : Nat → Int32) (hpre : 0 ≤ isumMany_.toInt ∧ isumMany_.toInt < 300) : Tot (F_m_puts K l1_ isumMany_ asm_) (fun r => r.1 = isumMany_ + 1 ∧ r.2 = upd asm_ (300 + isumMany_).toNatClampNeg l1_) := by
  unfold F_m_puts
  obtain ⟨n, hn⟩ : ∃ n9, K = n9 + 8 := ⟨K - 8, by omega⟩
  have hn2 : 999999000 ≤ n := by omega
  suffices hs : Tot (L_m_puts K (n + 8) 0 l1_ isumMany_ asm_) (fun r => r.1 = isumMany_ + 1 ∧ r.2 = upd asm_ (300 + isumMany_).toNatClampNeg l1_) from by rw [← hn] at hs; exact hs
  rw [L_m_puts_e0]; unfold B_m_puts_0
  repeat' (first | with_reducible refine Tot.ret ?_ | with_reducible refine Tot.ix ?_ ?_ | with_reducible refine Tot.yesB (by decide) ?_ | with_reducible refine Tot.noB (by decide) ?_ | with_reducible refine Tot.yes ?_ ?_ | with_reducible refine Tot.br (fun _ => ?_) (fun _ => ?_) | (rw [L_m_puts_e0]; unfold B_m_puts_0; try simp only [subOne]))
  all_goals (first | exact ⟨rfl, rfl⟩ | (first | exact True.intro | omega | (((try simp only [ne_eq, true_and, and_true, true_or, or_true, false_or, or_false, not_true_eq_false, not_false_eq_true, false_and, and_false, Int32.lt_iff_toInt_lt, Int32.le_iff_toInt_le, ← Int32.toInt_inj, Int32.toInt_add, Int32.toInt_sub, Int32.toInt_mul, Int32.reduceToInt, ge_iff_le, gt_iff_lt, upd_eq, upd_upd] at *) <;> (try simp (disch := omega) only [bmI] at *)) <;> (first | omega | ((try simp only [Int.bmod] at *) <;> omega) | simp_all))))
set_option maxHeartbeats 400000 in
set_option maxRecDepth 100000 in
theorem T_m_close (K : Nat) (hK : 1000000000 ≤ K) (l0_ : Int32) (hpre : True) : Tot (F_m_close K l0_) (fun r => (r = 3 ∧ (l0_ = 42 ∨ l0_ = 38)) ∨ (r = 2 ∧ (l0_ = 43 ∨ l0_ = 45)) ∨ (r = 1 ∧ (l0_ = 60 ∨ l0_ = 61)) ∨ (r = 0 ∧ l0_ ≠ 42 ∧ l0_ ≠ 38 ∧ l0_ ≠ 43 ∧ l0_ ≠ 45 ∧ l0_ ≠ 60 ∧ l0_ ≠ 61)) := by
  unfold F_m_close
  obtain ⟨n, hn⟩ : ∃ n9, K = n9 + 8 := ⟨K - 8, by omega⟩
  have hn2 : 999999000 ≤ n := by omega
  suffices hs : Tot (L_m_close K (n + 8) 0 l0_) (fun r => (r = 3 ∧ (l0_ = 42 ∨ l0_ = 38)) ∨ (r = 2 ∧ (l0_ = 43 ∨ l0_ = 45)) ∨ (r = 1 ∧ (l0_ = 60 ∨ l0_ = 61)) ∨ (r = 0 ∧ l0_ ≠ 42 ∧ l0_ ≠ 38 ∧ l0_ ≠ 43 ∧ l0_ ≠ 45 ∧ l0_ ≠ 60 ∧ l0_ ≠ 61)) from by rw [← hn] at hs; exact hs
  rw [L_m_close_e0]; unfold B_m_close_0
  repeat' (first | with_reducible refine Tot.ret ?_ | with_reducible refine Tot.ix ?_ ?_ | with_reducible refine Tot.yesB (by decide) ?_ | with_reducible refine Tot.noB (by decide) ?_ | with_reducible refine Tot.yes ?_ ?_ | with_reducible refine Tot.br (fun _ => ?_) (fun _ => ?_) | (rw [L_m_close_e0]; unfold B_m_close_0; try simp only [subOne]) | (rw [L_m_close_e1]; unfold B_m_close_1; try simp only [subOne]) | (rw [L_m_close_e2]; unfold B_m_close_2; try simp only [subOne]) | (rw [L_m_close_e3]; unfold B_m_close_3; try simp only [subOne]))
  all_goals (first | exact True.intro | omega | (((try simp only [ne_eq, true_and, and_true, true_or, or_true, false_or, or_false, not_true_eq_false, not_false_eq_true, false_and, and_false, Int32.lt_iff_toInt_lt, Int32.le_iff_toInt_le, ← Int32.toInt_inj, Int32.toInt_add, Int32.toInt_sub, Int32.toInt_mul, Int32.reduceToInt, ge_iff_le, gt_iff_lt, upd_eq, upd_upd] at *) <;> (try simp (disch := omega) only [bmI] at *)) <;> (first | omega | ((try simp only [Int.bmod] at *) <;> omega) | simp_all)))
set_option maxHeartbeats 400000 in
set_option maxRecDepth 100000 in
theorem T_m_mayCompare (K : Nat) (hK : 1000000000 ≤ K) (l1_ : Int32) (asgn_ : Nat → Int32) (hpre : 0 ≤ l1_.toInt ∧ l1_.toInt ≤ 80) : Tot (F_m_mayCompare K l1_ asgn_) (fun r => r = 0 ∨ r = 1) := by
  have key : ∀ N : Nat, (∀ (l1 : Int32) (l2 : Int32), (-1 ≤ l2.toInt ∧ l2.toInt < 80) → (l2.toInt + 1).toNat < N → ∀ n : Nat, 8 * ((l2.toInt + 1).toNat + 1) ≤ n → Tot (L_m_mayCompare K n 1 l1 l2 asgn_) (fun r => r = 0 ∨ r = 1)) := by
    intro N
    induction N with
    | zero => exact fun _ _ _ hm => absurd hm (Nat.not_lt_zero _)
    | succ N ih =>
      have ih1 := ih; clear ih
      · intro l1 l2 hI hm n hn
        obtain ⟨n, rfl⟩ : ∃ n9, n = n9 + 8 := ⟨n - 8, by omega⟩
        rw [L_m_mayCompare_e1]; unfold B_m_mayCompare_1; try simp only [subOne]
        repeat' (first | with_reducible refine Tot.ret ?_ | with_reducible refine Tot.ix ?_ ?_ | with_reducible refine Tot.yesB (by decide) ?_ | with_reducible refine Tot.noB (by decide) ?_ | with_reducible refine Tot.yes ?_ ?_ | with_reducible refine Tot.br (fun _ => ?_) (fun _ => ?_) | with_reducible refine Tot.bd (T_m_close K hK _ ?_) (fun _ _ => ?_) | with_reducible refine ih1 _ _ ?_ ?_ _ ?_ | (rw [L_m_mayCompare_e0]; unfold B_m_mayCompare_0; try simp only [subOne]) | (rw [L_m_mayCompare_e2]; unfold B_m_mayCompare_2; try simp only [subOne]) | (rw [L_m_mayCompare_e3]; unfold B_m_mayCompare_3; try simp only [subOne]))
        all_goals clear ih1
        all_goals (first | exact True.intro | omega | (((try simp only [ne_eq, true_and, and_true, true_or, or_true, false_or, or_false, not_true_eq_false, not_false_eq_true, false_and, and_false, Int32.lt_iff_toInt_lt, Int32.le_iff_toInt_le, ← Int32.toInt_inj, Int32.toInt_add, Int32.toInt_sub, Int32.toInt_mul, Int32.reduceToInt, ge_iff_le, gt_iff_lt, upd_eq, upd_upd] at *) <;> (try simp (disch := omega) only [bmI] at *)) <;> (first | omega | ((try simp only [Int.bmod] at *) <;> omega) | simp_all)))
  have hk1 : ∀ (l1 : Int32) (l2 : Int32), (-1 ≤ l2.toInt ∧ l2.toInt < 80) → ∀ n : Nat, 8 * ((l2.toInt + 1).toNat + 1) ≤ n → Tot (L_m_mayCompare K n 1 l1 l2 asgn_) (fun r => r = 0 ∨ r = 1) := fun l1 l2 hI n hn => (key ((l2.toInt + 1).toNat + 1)) l1 l2 hI (Nat.lt_succ_self _) n hn
  clear key
  unfold F_m_mayCompare
  obtain ⟨n, hn⟩ : ∃ n9, K = n9 + 8 := ⟨K - 8, by omega⟩
  have hn2 : 999999000 ≤ n := by omega
  suffices hs : Tot (L_m_mayCompare K (n + 8) 0 l1_ 0 asgn_) (fun r => r = 0 ∨ r = 1) from by rw [← hn] at hs; exact hs
  rw [L_m_mayCompare_e0]; unfold B_m_mayCompare_0
  repeat' (first | with_reducible refine Tot.ret ?_ | with_reducible refine Tot.ix ?_ ?_ | with_reducible refine Tot.yesB (by decide) ?_ | with_reducible refine Tot.noB (by decide) ?_ | with_reducible refine Tot.yes ?_ ?_ | with_reducible refine Tot.br (fun _ => ?_) (fun _ => ?_) | with_reducible refine Tot.bd (T_m_close K hK _ ?_) (fun _ _ => ?_) | with_reducible refine hk1 _ _ ?_ _ ?_ | (rw [L_m_mayCompare_e0]; unfold B_m_mayCompare_0; try simp only [subOne]) | (rw [L_m_mayCompare_e2]; unfold B_m_mayCompare_2; try simp only [subOne]) | (rw [L_m_mayCompare_e3]; unfold B_m_mayCompare_3; try simp only [subOne]))
  all_goals clear hk1
  all_goals (first | exact True.intro | omega | (((try simp only [ne_eq, true_and, and_true, true_or, or_true, false_or, or_false, not_true_eq_false, not_false_eq_true, false_and, and_false, Int32.lt_iff_toInt_lt, Int32.le_iff_toInt_le, ← Int32.toInt_inj, Int32.toInt_add, Int32.toInt_sub, Int32.toInt_mul, Int32.reduceToInt, ge_iff_le, gt_iff_lt, upd_eq, upd_upd] at *) <;> (try simp (disch := omega) only [bmI] at *)) <;> (first | omega | ((try simp only [Int.bmod] at *) <;> omega) | simp_all)))
set_option maxHeartbeats 400000 in
set_option maxRecDepth 100000 in
theorem T_m_hasOpen (K : Nat) (hK : 1000000000 ≤ K) (l1_ : Int32) (asgn_ : Nat → Int32) (hpre : 0 ≤ l1_.toInt ∧ l1_.toInt ≤ 80) : Tot (F_m_hasOpen K l1_ asgn_) (fun r => hopP asgn_ r l1_) := by
  have key : ∀ N : Nat, (∀ (l1 : Int32) (l2 : Int32) (l3 : Int32) (s0 : Int32) (s1 : Int32), (l1 = l1_ ∧ (0 ≤ l3.toInt ∧ l3.toInt ≤ l1.toInt) ∧ hopP asgn_ l2 l3) → (80 - l3.toInt).toNat < N → ∀ n : Nat, 8 * ((80 - l3.toInt).toNat + 1) ≤ n → Tot (L_m_hasOpen K n 1 l1 l2 l3 s0 s1 asgn_) (fun r => hopP asgn_ r l1_)) := by
    intro N
    induction N with
    | zero => exact fun _ _ _ _ _ _ hm => absurd hm (Nat.not_lt_zero _)
    | succ N ih =>
      have ih1 := ih; clear ih
      · intro l1 l2 l3 s0 s1 hI hm n hn
        obtain ⟨n, rfl⟩ : ∃ n9, n = n9 + 8 := ⟨n - 8, by omega⟩
        rw [L_m_hasOpen_e1]; unfold B_m_hasOpen_1; try simp only [subOne]
        repeat' (first | with_reducible refine Tot.ret ?_ | with_reducible refine Tot.ix ?_ ?_ | with_reducible refine Tot.yesB (by decide) ?_ | with_reducible refine Tot.noB (by decide) ?_ | with_reducible refine Tot.yes ?_ ?_ | with_reducible refine Tot.br (fun _ => ?_) (fun _ => ?_) | with_reducible refine ih1 _ _ _ _ _ ?_ ?_ _ ?_ | (rw [L_m_hasOpen_e0]; unfold B_m_hasOpen_0; try simp only [subOne]) | (rw [L_m_hasOpen_e2]; unfold B_m_hasOpen_2; try simp only [subOne]))
        all_goals clear ih1
        all_goals (first | exact hopP.b (by first | assumption | exact hI.2.2) | exact hI.2.2.up (by (first | exact True.intro | omega | (((try simp only [ne_eq, true_and, and_true, true_or, or_true, false_or, or_false, not_true_eq_false, not_false_eq_true, false_and, and_false, Int32.lt_iff_toInt_lt, Int32.le_iff_toInt_le, ← Int32.toInt_inj, Int32.toInt_add, Int32.toInt_sub, Int32.toInt_mul, Int32.reduceToInt, ge_iff_le, gt_iff_lt, upd_eq, upd_upd] at *) <;> (try simp (disch := omega) only [bmI] at *)) <;> (first | omega | ((try simp only [Int.bmod] at *) <;> omega) | simp_all)))) | (refine ⟨by (first | exact True.intro | omega | (((try simp only [ne_eq, true_and, and_true, true_or, or_true, false_or, or_false, not_true_eq_false, not_false_eq_true, false_and, and_false, Int32.lt_iff_toInt_lt, Int32.le_iff_toInt_le, ← Int32.toInt_inj, Int32.toInt_add, Int32.toInt_sub, Int32.toInt_mul, Int32.reduceToInt, ge_iff_le, gt_iff_lt, upd_eq, upd_upd] at *) <;> (try simp (disch := omega) only [bmI] at *)) <;> (first | omega | ((try simp only [Int.bmod] at *) <;> omega) | simp_all))), by (first | exact True.intro | omega | (((try simp only [ne_eq, true_and, and_true, true_or, or_true, false_or, or_false, not_true_eq_false, not_false_eq_true, false_and, and_false, Int32.lt_iff_toInt_lt, Int32.le_iff_toInt_le, ← Int32.toInt_inj, Int32.toInt_add, Int32.toInt_sub, Int32.toInt_mul, Int32.reduceToInt, ge_iff_le, gt_iff_lt, upd_eq, upd_upd] at *) <;> (try simp (disch := omega) only [bmI] at *)) <;> (first | omega | ((try simp only [Int.bmod] at *) <;> omega) | simp_all))), ?_⟩; first | exact hI.2.2.yes (by (first | exact True.intro | omega | (((try simp only [ne_eq, true_and, and_true, true_or, or_true, false_or, or_false, not_true_eq_false, not_false_eq_true, false_and, and_false, Int32.lt_iff_toInt_lt, Int32.le_iff_toInt_le, ← Int32.toInt_inj, Int32.toInt_add, Int32.toInt_sub, Int32.toInt_mul, Int32.reduceToInt, ge_iff_le, gt_iff_lt, upd_eq, upd_upd] at *) <;> (try simp (disch := omega) only [bmI] at *)) <;> (first | omega | ((try simp only [Int.bmod] at *) <;> omega) | simp_all)))) (by (first | exact True.intro | omega | (((try simp only [ne_eq, true_and, and_true, true_or, or_true, false_or, or_false, not_true_eq_false, not_false_eq_true, false_and, and_false, Int32.lt_iff_toInt_lt, Int32.le_iff_toInt_le, ← Int32.toInt_inj, Int32.toInt_add, Int32.toInt_sub, Int32.toInt_mul, Int32.reduceToInt, ge_iff_le, gt_iff_lt, upd_eq, upd_upd] at *) <;> (try simp (disch := omega) only [bmI] at *)) <;> (first | omega | ((try simp only [Int.bmod] at *) <;> omega) | simp_all)))) (by assumption) | exact hI.2.2.no (by (first | exact True.intro | omega | (((try simp only [ne_eq, true_and, and_true, true_or, or_true, false_or, or_false, not_true_eq_false, not_false_eq_true, false_and, and_false, Int32.lt_iff_toInt_lt, Int32.le_iff_toInt_le, ← Int32.toInt_inj, Int32.toInt_add, Int32.toInt_sub, Int32.toInt_mul, Int32.reduceToInt, ge_iff_le, gt_iff_lt, upd_eq, upd_upd] at *) <;> (try simp (disch := omega) only [bmI] at *)) <;> (first | omega | ((try simp only [Int.bmod] at *) <;> omega) | simp_all)))) (by (first | exact True.intro | omega | (((try simp only [ne_eq, true_and, and_true, true_or, or_true, false_or, or_false, not_true_eq_false, not_false_eq_true, false_and, and_false, Int32.lt_iff_toInt_lt, Int32.le_iff_toInt_le, ← Int32.toInt_inj, Int32.toInt_add, Int32.toInt_sub, Int32.toInt_mul, Int32.reduceToInt, ge_iff_le, gt_iff_lt, upd_eq, upd_upd] at *) <;> (try simp (disch := omega) only [bmI] at *)) <;> (first | omega | ((try simp only [Int.bmod] at *) <;> omega) | simp_all)))) (by assumption)) | (first | exact True.intro | omega | (((try simp only [ne_eq, true_and, and_true, true_or, or_true, false_or, or_false, not_true_eq_false, not_false_eq_true, false_and, and_false, Int32.lt_iff_toInt_lt, Int32.le_iff_toInt_le, ← Int32.toInt_inj, Int32.toInt_add, Int32.toInt_sub, Int32.toInt_mul, Int32.reduceToInt, ge_iff_le, gt_iff_lt, upd_eq, upd_upd] at *) <;> (try simp (disch := omega) only [bmI] at *)) <;> (first | omega | ((try simp only [Int.bmod] at *) <;> omega) | simp_all))))
  have hk1 : ∀ (l1 : Int32) (l2 : Int32) (l3 : Int32) (s0 : Int32) (s1 : Int32), (l1 = l1_ ∧ (0 ≤ l3.toInt ∧ l3.toInt ≤ l1.toInt) ∧ hopP asgn_ l2 l3) → ∀ n : Nat, 8 * ((80 - l3.toInt).toNat + 1) ≤ n → Tot (L_m_hasOpen K n 1 l1 l2 l3 s0 s1 asgn_) (fun r => hopP asgn_ r l1_) := fun l1 l2 l3 s0 s1 hI n hn => (key ((80 - l3.toInt).toNat + 1)) l1 l2 l3 s0 s1 hI (Nat.lt_succ_self _) n hn
  clear key
  unfold F_m_hasOpen
  obtain ⟨n, hn⟩ : ∃ n9, K = n9 + 8 := ⟨K - 8, by omega⟩
  have hn2 : 999999000 ≤ n := by omega
  suffices hs : Tot (L_m_hasOpen K (n + 8) 0 l1_ 0 0 0 0 asgn_) (fun r => hopP asgn_ r l1_) from by rw [← hn] at hs; exact hs
  rw [L_m_hasOpen_e0]; unfold B_m_hasOpen_0
  repeat' (first | with_reducible refine Tot.ret ?_ | with_reducible refine Tot.ix ?_ ?_ | with_reducible refine Tot.yesB (by decide) ?_ | with_reducible refine Tot.noB (by decide) ?_ | with_reducible refine Tot.yes ?_ ?_ | with_reducible refine Tot.br (fun _ => ?_) (fun _ => ?_) | with_reducible refine hk1 _ _ _ _ _ ?_ _ ?_ | (rw [L_m_hasOpen_e0]; unfold B_m_hasOpen_0; try simp only [subOne]) | (rw [L_m_hasOpen_e2]; unfold B_m_hasOpen_2; try simp only [subOne]))
  all_goals clear hk1
  all_goals (first | exact ⟨rfl, by (first | exact True.intro | omega | (((try simp only [ne_eq, true_and, and_true, true_or, or_true, false_or, or_false, not_true_eq_false, not_false_eq_true, false_and, and_false, Int32.lt_iff_toInt_lt, Int32.le_iff_toInt_le, ← Int32.toInt_inj, Int32.toInt_add, Int32.toInt_sub, Int32.toInt_mul, Int32.reduceToInt, ge_iff_le, gt_iff_lt, upd_eq, upd_upd] at *) <;> (try simp (disch := omega) only [bmI] at *)) <;> (first | omega | ((try simp only [Int.bmod] at *) <;> omega) | simp_all))), hopP.z⟩ | (first | exact True.intro | omega | (((try simp only [ne_eq, true_and, and_true, true_or, or_true, false_or, or_false, not_true_eq_false, not_false_eq_true, false_and, and_false, Int32.lt_iff_toInt_lt, Int32.le_iff_toInt_le, ← Int32.toInt_inj, Int32.toInt_add, Int32.toInt_sub, Int32.toInt_mul, Int32.reduceToInt, ge_iff_le, gt_iff_lt, upd_eq, upd_upd] at *) <;> (try simp (disch := omega) only [bmI] at *)) <;> (first | omega | ((try simp only [Int.bmod] at *) <;> omega) | simp_all))))
