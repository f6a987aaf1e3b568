/-! what a sum is worth: its code on a stack of numbers -/
def op2 (x a b : Int32) : Int32 := if x = 43 then (a + b) &&& 3 else if x = 45 then (a - b) &&& 3 else if x = 42 then (a * b) &&& 3 else if x = 38 then a &&& b else if x = 60 then (if b ≤ a then 0 else 1) else (if a = b then 1 else 0)
def ev1 (g : Nat → Int32) (st : List Int32) (x : Int32) : List Int32 :=
  if 4 ≤ x then
    if 16 ≤ x then
      if x = 33 then
        match st with
        | a :: s => (if a = 0 then 1 else 0) :: s
        | [] => []
      else
        match st with
        | b :: a :: s => op2 x a b :: s
        | s => s
    else g (x - 10).toNatClampNeg :: st
  else x :: st
def evL (g : Nat → Int32) (e : List Int32) : List Int32 := e.foldl (ev1 g) []
def vlE (e : List Int32) (g : Nat → Int32) : Int32 := (evL g e).headD 0
def al3 (st : List Int32) : Prop := ∀ a : Int32, a ∈ st → v3 a
theorem evL_take (g : Nat → Int32) (e : List Int32) (t : Nat) (x : Int32) (h : e[t]? = some x) : evL g (e.take (t + 1)) = ev1 g (evL g (e.take t)) x := by
  unfold evL
  rw [List.take_succ, h, List.foldl_append]
  rfl
theorem v3_and3 (y : Int32) : v3 (y &&& 3) := by
  have h := and32 y 3 (by decide)
  have e : (3 : Int32).toInt = 3 := by decide
  unfold v3
  omega
theorem v3_and {a b : Int32} (ha : v3 a) (hb : v3 b) : v3 (a &&& b) := by
  rcases four_i a ha with rfl | rfl | rfl | rfl <;> rcases four_i b hb with rfl | rfl | rfl | rfl <;> (unfold v3; decide)
theorem v3_01 {c : Prop} [Decidable c] : v3 (if c then (1 : Int32) else 0) := by
  split <;> (unfold v3; decide)
theorem v3_10 {c : Prop} [Decidable c] : v3 (if c then (0 : Int32) else 1) := by
  split <;> (unfold v3; decide)
theorem op2_v3 {x a b : Int32} (ha : v3 a) (hb : v3 b) : v3 (op2 x a b) := by
  unfold op2
  split
  · exact v3_and3 _
  · split
    · exact v3_and3 _
    · split
      · exact v3_and3 _
      · split
        · exact v3_and ha hb
        · split
          · exact v3_10
          · exact v3_01
def vl3 (g : Nat → Int32) : Prop := ∀ c : Nat, c < 6 → v3 (g c)
theorem ev1_ok {g : Nat → Int32} (hg : vl3 g) {st : List Int32} {x : Int32} {d d2 : Nat} (hc : CdO x) (hs : stepc x d d2) (hd : st.length = d) (ha : al3 st) : (ev1 g st x).length = d2 ∧ al3 (ev1 g st x) := by
  unfold ev1
  have l4 : (4 ≤ x) ↔ 4 ≤ x.toInt := by rw [Int32.le_iff_toInt_le]; simp only [Int32.reduceToInt]
  have l16 : (16 ≤ x) ↔ 16 ≤ x.toInt := by rw [Int32.le_iff_toInt_le]; simp only [Int32.reduceToInt]
  have e33 : x = 33 ↔ x.toInt = 33 := by
    constructor
    · rintro rfl; decide
    · intro h; exact Int32.toInt_inj.mp (by rw [h]; decide)
  rcases hs with ⟨h1, h2, h3⟩ | ⟨h1, h2, h3⟩ | ⟨h1, h2, h3, h4⟩
  · rcases h1 with h1 | h1
    · rw [if_neg (fun h => by have := l4.mp h; omega)]
      refine ⟨by rw [List.length_cons]; omega, fun a hm => ?_⟩
      rcases List.mem_cons.mp hm with e | e
      · rw [e]; unfold v3; omega
      · exact ha a e
    · rw [if_pos (l4.mpr (by omega)), if_neg (fun h => by have := l16.mp h; omega)]
      refine ⟨by rw [List.length_cons]; omega, fun a hm => ?_⟩
      rcases List.mem_cons.mp hm with e | e
      · rw [e]; exact hg _ (mask_x x ⟨by omega, by omega⟩).1
      · exact ha a e
  · rw [if_pos (l4.mpr (by omega)), if_pos (l16.mpr (by omega)), if_pos (e33.mpr h1)]
    cases st with
    | nil => rw [List.length_nil] at hd; omega
    | cons a s =>
      refine ⟨by rw [List.length_cons] at hd ⊢; omega, fun b hm => ?_⟩
      rcases List.mem_cons.mp hm with e | e
      · rw [e]; exact v3_01
      · exact ha b (List.mem_cons.mpr (Or.inr e))
  · rw [if_pos (l4.mpr (by omega)), if_pos (l16.mpr (by omega)), if_neg (fun h => h2 (e33.mp h))]
    cases st with
    | nil => rw [List.length_nil] at hd; omega
    | cons b s =>
      cases s with
      | nil => rw [List.length_cons, List.length_nil] at hd; omega
      | cons a s =>
        refine ⟨by rw [List.length_cons, List.length_cons] at hd; rw [List.length_cons]; omega, fun z hm => ?_⟩
        rcases List.mem_cons.mp hm with e | e
        · rw [e]; exact op2_v3 (ha a (List.mem_cons.mpr (Or.inr (List.mem_cons.mpr (Or.inl rfl))))) (ha b (List.mem_cons.mpr (Or.inl rfl)))
        · exact ha z (List.mem_cons.mpr (Or.inr (List.mem_cons.mpr (Or.inr e))))
/-- a sum's code: good codes, its depth one -/
def WfC (e : List Int32) : Prop := GdE e ∧ okc (fun t => e.getD t 0) 0 e.length 1
theorem WfC.at {g : Nat → Int32} (hg : vl3 g) {e : List Int32} (h : WfC e) : ∀ t : Nat, t ≤ e.length → ∃ d : Nat, okc (fun t => e.getD t 0) 0 t d ∧ (evL g (e.take t)).length = d ∧ al3 (evL g (e.take t)) ∧ d ≤ 24 := by
  intro t
  induction t with
  | zero => intro _; exact ⟨0, rfl, rfl, fun a hm => (by cases hm), Nat.zero_le _⟩
  | succ t ih =>
    intro ht
    obtain ⟨d, h1, h2, h3, h4⟩ := ih (by omega)
    obtain ⟨d2, k1, k2⟩ := h.2.next (n := t) (by omega) h1
    have hx := List.getElem?_eq_getElem (show t < e.length by omega)
    have hgd : e.getD (0 + t) 0 = e[t] := by
      rw [Nat.zero_add, List.getD_eq_getElem?_getD, hx]; rfl
    have k1 : stepc (e.getD (0 + t) 0) d d2 := k1
    rw [hgd] at k1
    obtain ⟨m1, m2⟩ := ev1_ok hg (h.1 _ (List.getElem_mem _)) k1 h2 h3
    refine ⟨d2, k2, ?_, ?_, okc.le k2⟩
    · rw [evL_take g e t _ hx]; exact m1
    · rw [evL_take g e t _ hx]; exact m2
theorem WfC.step {g : Nat → Int32} (hg : vl3 g) {e : List Int32} (h : WfC e) {t : Nat} {x : Int32} (hx : e[t]? = some x) : ∃ d2 : Nat, stepc x (evL g (e.take t)).length d2 ∧ CdO x := by
  have ht : t < e.length := by
    rcases Nat.lt_or_ge t e.length with h | h
    · exact h
    · rw [List.getElem?_eq_none h] at hx; cases hx
  obtain ⟨d, h1, h2, h3, h4⟩ := h.at hg t (by omega)
  obtain ⟨d2, k1, k2⟩ := h.2.next (n := t) ht h1
  have hgd : e.getD (0 + t) 0 = x := by
    rw [Nat.zero_add, List.getD_eq_getElem?_getD, hx]; rfl
  have k1 : stepc (e.getD (0 + t) 0) d d2 := k1
  rw [hgd] at k1
  rw [h2]
  exact ⟨d2, k1, h.1 x (List.mem_of_getElem? hx)⟩
theorem WfC.one {g : Nat → Int32} (hg : vl3 g) {e : List Int32} (h : WfC e) : ∃ v : Int32, evL g e = [v] ∧ v3 v ∧ vlE e g = v := by
  obtain ⟨d, h1, h2, h3, _⟩ := h.at hg e.length (Nat.le_refl _)
  rw [List.take_length] at h2 h3
  have : d = 1 := okc.det h1 h.2
  subst this
  cases hv : evL g e with
  | nil => rw [hv] at h2; cases h2
  | cons v s =>
    rw [hv] at h2 h3
    cases s with
    | cons a s => rw [List.length_cons, List.length_cons] at h2; omega
    | nil => exact ⟨v, rfl, h3 v (List.mem_cons.mpr (Or.inl rfl)), by unfold vlE; rw [hv]; rfl⟩
theorem WfC.of {astm asm : Nat → Int32} {D : List SRc} {M N : Nat → Nat} {i : Nat} {r : SRc} {cf : Nat} (hgd : GdE r.2.2.1) (hc : ∀ (t : Nat) (x : Int32), r.2.2.1[t]? = some x → asm (cf + t) = x) (h : okc asm cf r.2.2.1.length 1) : WfC r.2.2.1 := by
  refine ⟨hgd, h.congr (fun k hk => ?_)⟩
  have hx := List.getElem?_eq_getElem hk
  rw [hc k _ hx, Nat.zero_add]
  show _ = r.2.2.1.getD k 0
  rw [List.getD_eq_getElem?_getD, hx]; rfl
/-! the reference's stack -/
def SkV (f : Nat → Int32) : List Int32 → Prop
  | [] => True
  | a :: s => f s.length = a ∧ SkV f s
theorem SkV.up {f : Nat → Int32} {k : Nat} (v : Int32) : ∀ {s : List Int32}, SkV f s → s.length ≤ k → SkV (upd f k v) s := by
  intro s
  induction s with
  | nil => intro _ _; exact True.intro
  | cons a s ih =>
    intro h hk
    rw [List.length_cons] at hk
    exact ⟨by rw [upd_ne _ _ (by omega)]; exact h.1, ih h.2 (by omega)⟩
theorem SkV.push {f : Nat → Int32} {s : List Int32} {v : Int32} (h : SkV f s) : SkV (upd f s.length v) (v :: s) := ⟨upd_eq _ _ _, h.up v (Nat.le_refl _)⟩
/-! the class's stack: a long -/
def encL : List Int32 → Nat
  | [] => 0
  | a :: s => encL s * 4 + a.toInt.toNat
theorem encL_lt : ∀ {s : List Int32}, al3 s → encL s < 4 ^ s.length := by
  intro s
  induction s with
  | nil => intro _; exact Nat.one_pos
  | cons a s ih =>
    intro h
    have h1 := ih (fun b hb => h b (List.mem_cons.mpr (Or.inr hb)))
    have h2 := h a (List.mem_cons.mpr (Or.inl rfl))
    unfold v3 at h2
    rw [List.length_cons, Nat.pow_succ]
    unfold encL
    omega
theorem encL_60 {s : List Int32} (h : al3 s) (hl : s.length ≤ 24) : encL s < 2 ^ 48 := by
  have h1 := encL_lt h
  have h2 : 4 ^ s.length ≤ 4 ^ 24 := Nat.pow_le_pow_right (by omega) hl
  have h3 : (4 : Nat) ^ 24 = 2 ^ 48 := by decide
  omega
def ZRl (z : Int64) (s : List Int32) : Prop := z.toBitVec.toNat = encL s
theorem nat_or2 (m c : Nat) (hc : c < 4) : (m <<< 2) ||| c = m * 4 + c := by
  rw [← Nat.shiftLeft_add_eq_or_of_lt (show c < 2 ^ 2 by omega), Nat.shiftLeft_eq]
theorem bv_or2 (z c : BitVec 64) (hz : z.toNat < 2 ^ 60) (hc : c.toNat < 4) : ((z <<< 2) ||| c).toNat = z.toNat * 4 + c.toNat := by
  rw [BitVec.toNat_or, BitVec.toNat_shiftLeft]
  have e : (z.toNat <<< 2) % 2 ^ 64 = z.toNat <<< 2 := by
    rw [Nat.shiftLeft_eq]
    exact Nat.mod_eq_of_lt (by omega)
  rw [e, nat_or2 _ _ hc]
theorem i64n (x : Int32) (h : v3 x) : x.toInt64.toBitVec.toNat = x.toInt.toNat ∧ x.toInt.toNat < 4 := by
  rcases four_i x h with rfl | rfl | rfl | rfl <;> decide
theorem Z_push {z : Int64} {s : List Int32} {x : Int32} (hz : ZRl z s) (hs : al3 s) (hl : s.length ≤ 24) (hx : v3 x) : ZRl ((z <<< ((2 : Int32).toInt64 &&& 63)) ||| x.toInt64) (x :: s) := by
  have h1 := encL_60 hs hl
  obtain ⟨h2, h3⟩ := i64n x hx
  unfold ZRl at *
  have e : ((z <<< ((2 : Int32).toInt64 &&& 63)) ||| x.toInt64).toBitVec = (z.toBitVec <<< 2) ||| x.toInt64.toBitVec := rfl
  rw [e, bv_or2 _ _ (by omega) (by omega), h2, hz]
  rfl
theorem i32q (x : Int32) (n : Nat) (hn : n < 4) (h : x.toBitVec.toNat = n) : x.toInt = (n : Int) := by
  show x.toBitVec.toInt = _
  rw [BitVec.toInt_eq_toNat_of_lt (by omega), h]
theorem v3_nat {a : Int32} (h : v3 a) : (a.toInt.toNat : Int) = a.toInt ∧ a.toInt.toNat < 4 := by
  unfold v3 at h
  omega
theorem Z_top {z : Int64} {s : List Int32} {a : Int32} (hz : ZRl z (a :: s)) (ha : v3 a) : (z.toInt32 &&& 3) = a := by
  obtain ⟨h1, h2⟩ := v3_nat ha
  refine Int32.toInt_inj.mp ?_
  rw [← h1]
  refine i32q _ _ h2 ?_
  have e : (z.toInt32 &&& 3).toBitVec = (z.toBitVec.signExtend 32 &&& 3#32) := rfl
  rw [e, BitVec.signExtend_eq_setWidth_of_le _ (by omega), BitVec.toNat_and, BitVec.toNat_setWidth]
  have e3 : (3#32).toNat = 2 ^ 2 - 1 := rfl
  rw [e3, Nat.and_two_pow_sub_one_eq_mod]
  have hz9 : z.toBitVec.toNat = encL s * 4 + a.toInt.toNat := hz
  omega
theorem Z_sec {z : Int64} {s : List Int32} {a b : Int32} (hz : ZRl z (b :: a :: s)) (ha : v3 a) (hb : v3 b) : (((z.toUInt64 >>> ((2 : Int32).toInt64.toUInt64 &&& Int64.toUInt64 63)).toInt64).toInt32 &&& 3) = a := by
  obtain ⟨h1, h2⟩ := v3_nat ha
  obtain ⟨h3, h4⟩ := v3_nat hb
  refine Int32.toInt_inj.mp ?_
  rw [← h1]
  refine i32q _ _ h2 ?_
  have e : (((z.toUInt64 >>> ((2 : Int32).toInt64.toUInt64 &&& Int64.toUInt64 63)).toInt64).toInt32 &&& 3).toBitVec = ((z.toBitVec >>> 2).signExtend 32 &&& 3#32) := rfl
  rw [e, BitVec.signExtend_eq_setWidth_of_le _ (by omega), BitVec.toNat_and, BitVec.toNat_setWidth, BitVec.toNat_ushiftRight]
  have e3 : (3#32).toNat = 2 ^ 2 - 1 := rfl
  rw [e3, Nat.and_two_pow_sub_one_eq_mod, Nat.shiftRight_eq_div_pow]
  have hz9 : z.toBitVec.toNat = (encL s * 4 + a.toInt.toNat) * 4 + b.toInt.toNat := hz
  omega
theorem Z_tz {z : Int64} {s : List Int32} {a : Int32} (hz : ZRl z (a :: s)) (ha : v3 a) : (lg_cmp (z &&& 3) (0 : Int64) = 0) ↔ a = 0 := by
  rw [lg_cmp_eq, ← Int64.toBitVec_inj]
  have e : (z &&& 3).toBitVec = z.toBitVec &&& 3#64 := rfl
  have e0 : (0 : Int64).toBitVec = 0#64 := rfl
  rw [e, e0, ← BitVec.toNat_inj, BitVec.toNat_and]
  have e3 : (3#64).toNat = 2 ^ 2 - 1 := rfl
  have e4 : (0#64).toNat = 0 := rfl
  rw [e3, e4, Nat.and_two_pow_sub_one_eq_mod]
  obtain ⟨h1, h2⟩ := v3_nat ha
  have hq : a = 0 ↔ a.toInt.toNat = 0 := by
    constructor
    · rintro rfl; decide
    · intro h; exact Int32.toInt_inj.mp (by rw [← h1, h]; decide)
  rw [hq]
  have hz9 : z.toBitVec.toNat = encL s * 4 + a.toInt.toNat := hz
  omega
theorem Z_bin {z : Int64} {s : List Int32} {a b x : Int32} (hz : ZRl z (b :: a :: s)) (hs : al3 (b :: a :: s)) (hl : s.length ≤ 22) (hx : v3 x) : ZRl (((z.toUInt64 >>> ((4 : Int32).toInt64.toUInt64 &&& Int64.toUInt64 63)).toInt64 <<< ((2 : Int32).toInt64 &&& 63)) ||| x.toInt64) (x :: s) := by
  have ha := v3_nat (hs a (List.mem_cons.mpr (Or.inr (List.mem_cons.mpr (Or.inl rfl)))))
  have hb := v3_nat (hs b (List.mem_cons.mpr (Or.inl rfl)))
  have h1 := encL_60 (s := s) (fun c hc => hs c (List.mem_cons.mpr (Or.inr (List.mem_cons.mpr (Or.inr hc))))) (by omega)
  obtain ⟨h2, h3⟩ := i64n x hx
  unfold ZRl at *
  have e : (((z.toUInt64 >>> ((4 : Int32).toInt64.toUInt64 &&& Int64.toUInt64 63)).toInt64 <<< ((2 : Int32).toInt64 &&& 63)) ||| x.toInt64).toBitVec = ((z.toBitVec >>> 4) <<< 2) ||| x.toInt64.toBitVec := rfl
  have hsr : (z.toBitVec >>> 4).toNat = encL s := by
    have hz9 : z.toBitVec.toNat = (encL s * 4 + a.toInt.toNat) * 4 + b.toInt.toNat := hz
    rw [BitVec.toNat_ushiftRight, Nat.shiftRight_eq_div_pow, hz9]
    omega
  rw [e, bv_or2 _ _ (by omega) (by omega), h2, hsr]
  rfl
theorem bv_m4 (v : BitVec 64) : v &&& (-4 : Int64).toBitVec = (v >>> 2) <<< 2 := by
  apply BitVec.eq_of_getLsbD_eq
  intro i hi
  have e := (show ∀ i : Fin 64, (-4 : Int64).toBitVec.getLsbD i.val = decide (2 ≤ i.val) by decide +kernel) ⟨i, hi⟩
  simp only at e
  rw [BitVec.getLsbD_and, e, BitVec.getLsbD_shiftLeft, BitVec.getLsbD_ushiftRight]
  by_cases h2 : i < 2
  · have : ¬ 2 ≤ i := by omega
    simp [h2, this]
  · have h3 : 2 ≤ i := by omega
    have h4 : 2 + (i - 2) = i := by omega
    simp [h2, h3, h4, hi]
theorem Z_not {z : Int64} {s : List Int32} {a x : Int32} (hz : ZRl z (a :: s)) (hs : al3 (a :: s)) (hl : s.length ≤ 23) (hx : v3 x) : ZRl ((z &&& (-4)) ||| x.toInt64) (x :: s) := by
  have ha := v3_nat (hs a (List.mem_cons.mpr (Or.inl rfl)))
  have h1 := encL_60 (s := s) (fun c hc => hs c (List.mem_cons.mpr (Or.inr hc))) (by omega)
  obtain ⟨h2, h3⟩ := i64n x hx
  unfold ZRl at *
  have e : ((z &&& (-4)) ||| x.toInt64).toBitVec = (z.toBitVec &&& (-4 : Int64).toBitVec) ||| x.toInt64.toBitVec := rfl
  have hsr : (z.toBitVec >>> 2).toNat = encL s := by
    have hz9 : z.toBitVec.toNat = encL s * 4 + a.toInt.toNat := hz
    rw [BitVec.toNat_ushiftRight, Nat.shiftRight_eq_div_pow, hz9]
    omega
  rw [e, bv_m4, bv_or2 _ _ (by omega) (by omega), h2, hsr]
  rfl
