/-! spread, gather, the next numbers; the reference's cells and tells -/
theorem cnB_app (xs ys : List Bool) : cnB (xs ++ ys) = cnB xs + cnB ys := by
  induction xs with
  | nil => show cnB ys = 0 + cnB ys; omega
  | cons b xs ih => rw [List.cons_append, show ∀ (b : Bool) (l : List Bool), cnB (b :: l) = (if b = true then 1 else 0) + cnB l from fun _ _ => rfl, show ∀ (b : Bool) (l : List Bool), cnB (b :: l) = (if b = true then 1 else 0) + cnB l from fun _ _ => rfl, ih]; omega
theorem spB_snoc : ∀ (xs : List Bool) (b : Bool) (k : Nat), spB (xs ++ [b]) k = spB xs k + (if b = true then (k / 4 ^ cnB xs) % 4 * 4 ^ xs.length else 0) := by
  intro xs b
  induction xs with
  | nil =>
    intro k
    show spB [b] k = 0 + _
    unfold spB spB cnB
    split <;> simp
  | cons a xs ih =>
    intro k
    rw [List.cons_append]
    unfold spB cnB
    rw [List.length_cons]
    by_cases ha : a = true
    · rw [if_pos ha, if_pos ha, if_pos ha, ih]
      have e : k / 4 ^ (1 + cnB xs) = k / 4 / 4 ^ cnB xs := by rw [Nat.pow_add, Nat.pow_one, Nat.div_div_eq_div_mul]
      rw [e]
      by_cases hb : b = true
      · rw [if_pos hb, if_pos hb, Nat.pow_succ]
        have := Nat.mul_add 4 (spB xs (k / 4)) (k / 4 / 4 ^ cnB xs % 4 * 4 ^ xs.length)
        rw [this, ← Nat.add_assoc]
        congr 1
        rw [Nat.mul_comm 4, Nat.mul_assoc]
      · rw [if_neg hb, if_neg hb, Nat.add_zero, Nat.add_zero]
    · rw [if_neg ha, if_neg ha, if_neg ha, ih, Nat.zero_add]
      by_cases hb : b = true
      · rw [if_pos hb, if_pos hb, Nat.pow_succ, Nat.mul_add]
        congr 1
        rw [Nat.mul_comm 4, Nat.mul_assoc]
      · rw [if_neg hb, if_neg hb, Nat.add_zero, Nat.add_zero]
theorem gaB_snoc : ∀ (xs : List Bool) (b : Bool) (x : Nat), gaB (xs ++ [b]) x = gaB xs x + (if b = true then (x / 4 ^ xs.length) % 4 * 4 ^ cnB xs else 0) := by
  intro xs b
  induction xs with
  | nil =>
    intro x
    show gaB [b] x = 0 + _
    unfold gaB gaB cnB
    split <;> simp
  | cons a xs ih =>
    intro x
    rw [List.cons_append]
    unfold gaB cnB
    rw [List.length_cons]
    have e : x / 4 ^ (xs.length + 1) = x / 4 / 4 ^ xs.length := by rw [Nat.pow_succ, Nat.mul_comm, Nat.div_div_eq_div_mul]
    rw [ih, e]
    by_cases ha : a = true
    · rw [if_pos ha, if_pos ha, if_pos ha]
      by_cases hb : b = true
      · rw [if_pos hb, if_pos hb, Nat.pow_add, Nat.pow_one, Nat.mul_add, ← Nat.add_assoc]
        congr 1
        rw [Nat.mul_left_comm]
      · rw [if_neg hb, if_neg hb, Nat.add_zero, Nat.add_zero]
    · rw [if_neg ha, if_neg ha, if_neg ha, Nat.zero_add]
theorem take_snoc {bs : List Bool} {c : Nat} {b : Bool} (h : bs[c]? = some b) : bs.take (c + 1) = bs.take c ++ [b] := by
  rw [List.take_succ, h]; rfl
theorem bs_at {bs : List Bool} (h : bs.length = 6) {c : Nat} (hc : c < 6) : ∃ b : Bool, bs[c]? = some b := ⟨bs[c]'(by omega), List.getElem?_eq_getElem (by omega)⟩
theorem dg_sp2 : ∀ (bs : List Bool) (k c : Nat), bs[c]? = some true → dgN (spB bs k) c = (k / 4 ^ cnB (bs.take c)) % 4 := by
  intro bs
  induction bs with
  | nil => intro k c h; simp at h
  | cons b bs ih =>
    intro k c h
    cases c with
    | zero =>
      rw [List.getElem?_cons_zero] at h
      have hb : b = true := Option.some.inj h
      rw [dgN_0]
      unfold spB
      rw [if_pos hb]
      show _ = (k / 4 ^ cnB []) % 4
      unfold cnB
      rw [Nat.pow_zero, Nat.div_one]
      omega
    | succ c =>
      rw [List.getElem?_cons_succ] at h
      rw [dgN_s, List.take_succ_cons]
      unfold spB cnB
      by_cases hb : b = true
      · rw [if_pos hb, if_pos hb]
        have e1 : (k % 4 + 4 * spB bs (k / 4)) / 4 = spB bs (k / 4) := by omega
        have e : k / 4 ^ (1 + cnB (bs.take c)) = k / 4 / 4 ^ cnB (bs.take c) := by rw [Nat.pow_add, Nat.pow_one, Nat.div_div_eq_div_mul]
        rw [e1, ih _ _ h, e]
      · rw [if_neg hb, if_neg hb, Nat.zero_add]
        have e1 : 4 * spB bs k / 4 = spB bs k := by omega
        rw [e1, ih _ _ h]
theorem bitM : ∀ bs : List Bool, bs.length = 6 → ∀ c : Nat, c < 6 → (((((mkI bs).toUInt32 >>> ((Int32.ofNat (2 * c)).toUInt32 &&& Int32.toUInt32 31)).toInt32 &&& 1) = 0) ↔ bs[c]? ≠ some true) := by
  refine al6_of (P := fun bs => ∀ c : Nat, c < 6 → (((((mkI bs).toUInt32 >>> ((Int32.ofNat (2 * c)).toUInt32 &&& Int32.toUInt32 31)).toInt32 &&& 1) = 0) ↔ bs[c]? ≠ some true)) ?_
  intro b0 b1 b2 b3 b4 b5
  refine six_k _ ?_ ?_ ?_ ?_ ?_ ?_ <;> (revert b0 b1 b2 b3 b4 b5; decide +kernel)
theorem shD : ∀ (d : Fin 4) (c : Fin 6), (Int32.ofNat d.val <<< ((Int32.ofNat (2 * c.val)) &&& 31)) = Int32.ofNat (d.val * 4 ^ c.val) := by decide +kernel
theorem n_and3 (x : Nat) (h : x < 1000000) : (Int32.ofNat x &&& 3) = Int32.ofNat (x % 4) := by
  rw [← Int32.toBitVec_inj]
  apply BitVec.eq_of_toNat_eq
  have e : (Int32.ofNat x &&& 3).toBitVec = (BitVec.ofNat 32 x) &&& 3#32 := rfl
  have e2 : (Int32.ofNat (x % 4)).toBitVec = BitVec.ofNat 32 (x % 4) := rfl
  have e3 : 3 % 2 ^ 32 = 2 ^ 2 - 1 := rfl
  rw [e, e2, BitVec.toNat_and, BitVec.toNat_ofNat, BitVec.toNat_ofNat, e3, Nat.and_two_pow_sub_one_eq_mod]
  rw [BitVec.toNat_ofNat]
  omega
theorem n_shr2 (x : Nat) (h : x < 1000000) : ((Int32.ofNat x).toUInt32 >>> ((2 : Int32).toUInt32 &&& Int32.toUInt32 31)).toInt32 = Int32.ofNat (x / 4) := by
  rw [← Int32.toBitVec_inj]
  apply BitVec.eq_of_toNat_eq
  have e : ((Int32.ofNat x).toUInt32 >>> ((2 : Int32).toUInt32 &&& Int32.toUInt32 31)).toInt32.toBitVec = (BitVec.ofNat 32 x) >>> 2 := rfl
  have e2 : (Int32.ofNat (x / 4)).toBitVec = BitVec.ofNat 32 (x / 4) := rfl
  rw [e, e2, BitVec.toNat_ushiftRight, BitVec.toNat_ofNat, BitVec.toNat_ofNat, Nat.shiftRight_eq_div_pow]
  omega
theorem n_or (a d c : Nat) (ha : a < 4 ^ c) (hd : d < 4) (hc : c < 6) : (Int32.ofNat a ||| Int32.ofNat (d * 4 ^ c)) = Int32.ofNat (a + d * 4 ^ c) := by
  have h4 : 4 ^ c ≤ 4 ^ 5 := Nat.pow_le_pow_right (by omega) (by omega)
  have h5 : d * 4 ^ c ≤ 3 * 4 ^ c := Nat.mul_le_mul_right _ (by omega)
  have e45 : (4 : Nat) ^ 5 = 1024 := by decide
  rw [← Int32.toBitVec_inj]
  apply BitVec.eq_of_toNat_eq
  have e : (Int32.ofNat a ||| Int32.ofNat (d * 4 ^ c)).toBitVec = (BitVec.ofNat 32 a) ||| (BitVec.ofNat 32 (d * 4 ^ c)) := rfl
  have e2 : (Int32.ofNat (a + d * 4 ^ c)).toBitVec = BitVec.ofNat 32 (a + d * 4 ^ c) := rfl
  rw [e, e2, BitVec.toNat_or, BitVec.toNat_ofNat, BitVec.toNat_ofNat, BitVec.toNat_ofNat, Nat.mod_eq_of_lt (by omega), Nat.mod_eq_of_lt (by omega), Nat.mod_eq_of_lt (by omega)]
  have e4 : 4 ^ c = 2 ^ (2 * c) := by rw [Nat.pow_mul]
  rw [e4] at ha ⊢
  rw [Nat.or_comm, Nat.mul_comm, ← Nat.two_pow_add_eq_or_of_lt ha, Nat.add_comm]
theorem E_X9_spread (K : Nat) (hK : 1000000000 ≤ K) (k : Nat) (hk : k < 4096) (bs : List Bool) (hb : bs.length = 6) : Par (F_X9_spread K (Int32.ofNat k) (mkI bs)) (fun r => r = Int32.ofNat (spB bs k)) := by
  have key : ∀ (n c : Nat) (l2 l3 l4 : Int32), l4.toInt = ((2 * c : Nat) : Int) → c ≤ 6 → l2 = Int32.ofNat (spB (bs.take c) k) → l3 = Int32.ofNat (k / 4 ^ cnB (bs.take c)) → Par (L_X9_spread K n 1 (Int32.ofNat k) (mkI bs) l2 l3 l4) (fun r => r = Int32.ofNat (spB bs k)) := by
    intro n
    induction n using Nat.strongRecOn with
    | _ n ih =>
    intro c l2 l3 l4 h4 hc h2 h3
    cases n with
    | zero => exact Par.no
    | succ n =>
      rw [L_X9_spread_e1]; unfold B_X9_spread_1
      refine Par.br (fun h => ?_) (fun h => ?_)
      · rw [Int32.le_iff_toInt_le, h4] at h
        simp only [Int32.reduceToInt] at h
        have : c = 6 := by omega
        rw [this, ← hb, List.take_length] at h2
        exact Par.ret h2
      · rw [Int32.le_iff_toInt_le, h4] at h
        simp only [Int32.reduceToInt] at h
        have hc6 : c < 6 := by omega
        have e4 : l4 = Int32.ofNat (2 * c) := ofn_of l4 (2 * c) (by omega) h4
        obtain ⟨b, hbc⟩ := bs_at hb hc6
        have hbit := bitM bs hb c hc6
        have hsn := spB_snoc (bs.take c) b k
        rw [← take_snoc hbc] at hsn
        have hlen : (bs.take c).length = c := by rw [List.length_take]; omega
        have hlt : k / 4 ^ cnB (bs.take c) ≤ k := Nat.div_le_self _ _
        have hcn : cnB (bs.take (c + 1)) = cnB (bs.take c) + (if b = true then 1 else 0) := by
          rw [take_snoc hbc, cnB_app]
          unfold cnB cnB
          omega
        have fin : ∀ (q : Nat) (x y : Int32), q < n + 1 → x = Int32.ofNat (spB (bs.take (c + 1)) k) → y = Int32.ofNat (k / 4 ^ cnB (bs.take (c + 1))) → Par (L_X9_spread K q 2 (Int32.ofNat k) (mkI bs) x y l4) (fun r => r = Int32.ofNat (spB bs k)) := by
          intro q x y hq hx hy
          cases q with
          | zero => exact Par.no
          | succ q =>
            rw [L_X9_spread_e2]; unfold B_X9_spread_2
            refine ih q (by omega) (c + 1) x y (l4 + 2) ?_ (by omega) hx hy
            rw [adC l4 2 _ 2 h4 (by decide) (by omega) (by omega)]; omega
        rw [e4]
        rw [e4] at fin
        refine Par.br (fun h0 => fin n _ _ (by omega) ?_ ?_) (fun h0 => fin n _ _ (by omega) ?_ ?_)
        · have hne := hbit.mp h0
          rw [hbc] at hne
          rw [hsn, if_neg (fun h9 => hne (by rw [h9])), Nat.add_zero, h2]
        · have hne := hbit.mp h0
          rw [hbc] at hne
          rw [hcn, if_neg (fun h9 => hne (by rw [h9])), Nat.add_zero, h3]
        · have hbt : b = true := by
            have h9 := Classical.not_not.mp (fun h9 => h0 (hbit.mpr h9))
            rw [hbc] at h9
            exact Option.some.inj h9
          have hd := Nat.mod_lt (k / 4 ^ cnB (bs.take c)) (show 4 > 0 by omega)
          have hs := shD ⟨k / 4 ^ cnB (bs.take c) % 4, hd⟩ ⟨c, hc6⟩
          simp only at hs
          have hspl := spB_lt (bs.take c) k
          rw [hlen] at hspl
          rw [h2, h3, n_and3 _ (by omega), hs, n_or _ _ _ hspl hd hc6, hsn, if_pos hbt, hlen]
        · have hbt : b = true := by
            have h9 := Classical.not_not.mp (fun h9 => h0 (hbit.mpr h9))
            rw [hbc] at h9
            exact Option.some.inj h9
          rw [h3, n_shr2 _ (by omega), hcn, if_pos hbt, Nat.pow_succ, Nat.div_div_eq_div_mul]
  unfold F_X9_spread
  obtain ⟨n, rfl⟩ : ∃ n9, K = n9 + 1 := ⟨K - 1, by omega⟩
  rw [L_X9_spread_e0]; unfold B_X9_spread_0
  refine key n 0 0 _ 0 rfl (Nat.zero_le _) rfl ?_
  show Int32.ofNat k = Int32.ofNat (k / 4 ^ cnB [])
  unfold cnB
  rw [Nat.pow_zero, Nat.div_one]
theorem n_shrU (x c : Nat) (h : x < 1000000) (hc : c < 6) : (((Int32.ofNat x).toUInt32 >>> ((Int32.ofNat (2 * c)).toUInt32 &&& Int32.toUInt32 31)).toInt32 &&& 3) = Int32.ofNat (x / 4 ^ c % 4) := by
  have key : ∀ s : Nat, s ≤ 10 → ((BitVec.ofNat 32 x) >>> s &&& 3#32) = BitVec.ofNat 32 (x / 2 ^ s % 4) := by
    intro s _
    apply BitVec.eq_of_toNat_eq
    have e3 : 3 % 2 ^ 32 = 2 ^ 2 - 1 := rfl
    rw [BitVec.toNat_and, BitVec.toNat_ushiftRight, BitVec.toNat_ofNat, BitVec.toNat_ofNat, e3, Nat.and_two_pow_sub_one_eq_mod, Nat.shiftRight_eq_div_pow, Nat.mod_eq_of_lt (show x < 2 ^ 32 by omega)]
    rw [BitVec.toNat_ofNat]
    generalize x / 2 ^ s = y
    omega
  have e4 : (4 : Nat) ^ c = 2 ^ (2 * c) := by rw [Nat.pow_mul]
  rw [← Int32.toBitVec_inj, e4]
  rcases (show c = 0 ∨ c = 1 ∨ c = 2 ∨ c = 3 ∨ c = 4 ∨ c = 5 by omega) with rfl | rfl | rfl | rfl | rfl | rfl
  · exact key 0 (by omega)
  · exact key 2 (by omega)
  · exact key 4 (by omega)
  · exact key 6 (by omega)
  · exact key 8 (by omega)
  · exact key 10 (by omega)
theorem E_X9_gather (K : Nat) (hK : 1000000000 ≤ K) (x : Nat) (hx : x < 4096) (bs : List Bool) (hb : bs.length = 6) : Par (F_X9_gather K (Int32.ofNat x) (mkI bs)) (fun r => r = Int32.ofNat (gaB bs x)) := by
  have key : ∀ (n c : Nat) (l2 l3 l4 : Int32), l4.toInt = ((2 * c : Nat) : Int) → c ≤ 6 → l2 = Int32.ofNat (gaB (bs.take c) x) → l3.toInt = ((2 * cnB (bs.take c) : Nat) : Int) → Par (L_X9_gather K n 1 (Int32.ofNat x) (mkI bs) l2 l3 l4) (fun r => r = Int32.ofNat (gaB bs x)) := by
    intro n
    induction n using Nat.strongRecOn with
    | _ n ih =>
    intro c l2 l3 l4 h4 hc h2 h3
    cases n with
    | zero => exact Par.no
    | succ n =>
      rw [L_X9_gather_e1]; unfold B_X9_gather_1
      refine Par.br (fun h => ?_) (fun h => ?_)
      · rw [Int32.le_iff_toInt_le, h4] at h
        simp only [Int32.reduceToInt] at h
        have : c = 6 := by omega
        rw [this, ← hb, List.take_length] at h2
        exact Par.ret h2
      · rw [Int32.le_iff_toInt_le, h4] at h
        simp only [Int32.reduceToInt] at h
        have hc6 : c < 6 := by omega
        have e4 : l4 = Int32.ofNat (2 * c) := ofn_of l4 (2 * c) (by omega) h4
        obtain ⟨b, hbc⟩ := bs_at hb hc6
        have hbit := bitM bs hb c hc6
        have hsn := gaB_snoc (bs.take c) b x
        rw [← take_snoc hbc] at hsn
        have hlen : (bs.take c).length = c := by rw [List.length_take]; omega
        have hcn : cnB (bs.take (c + 1)) = cnB (bs.take c) + (if b = true then 1 else 0) := by
          rw [take_snoc hbc, cnB_app]
          unfold cnB cnB
          omega
        have hcl : cnB (bs.take c) ≤ c := by
          have : ∀ bs : List Bool, cnB bs ≤ bs.length := by
            intro bs
            induction bs with
            | nil => exact Nat.le_refl _
            | cons b bs ih => unfold cnB; rw [List.length_cons]; split <;> omega
          have := this (bs.take c)
          omega
        have e3 : l3 = Int32.ofNat (2 * cnB (bs.take c)) := ofn_of l3 _ (by omega) h3
        have fin : ∀ (q : Nat) (y z : Int32), q < n + 1 → y = Int32.ofNat (gaB (bs.take (c + 1)) x) → z.toInt = ((2 * cnB (bs.take (c + 1)) : Nat) : Int) → Par (L_X9_gather K q 2 (Int32.ofNat x) (mkI bs) y z l4) (fun r => r = Int32.ofNat (gaB bs x)) := by
          intro q y z hq hy hz
          cases q with
          | zero => exact Par.no
          | succ q =>
            rw [L_X9_gather_e2]; unfold B_X9_gather_2
            refine ih q (by omega) (c + 1) y z (l4 + 2) ?_ (by omega) hy hz
            rw [adC l4 2 _ 2 h4 (by decide) (by omega) (by omega)]; omega
        rw [e4]
        rw [e4] at fin
        refine Par.br (fun h0 => fin n _ _ (by omega) ?_ ?_) (fun h0 => fin n _ _ (by omega) ?_ ?_)
        · have hne := hbit.mp h0
          rw [hbc] at hne
          rw [hsn, if_neg (fun h9 => hne (by rw [h9])), Nat.add_zero, h2]
        · have hne := hbit.mp h0
          rw [hbc] at hne
          rw [hcn, if_neg (fun h9 => hne (by rw [h9])), Nat.add_zero, h3]
        · have hbt : b = true := by
            have h9 := Classical.not_not.mp (fun h9 => h0 (hbit.mpr h9))
            rw [hbc] at h9
            exact Option.some.inj h9
          have hd := Nat.mod_lt (x / 4 ^ c) (show 4 > 0 by omega)
          have hs := shD ⟨x / 4 ^ c % 4, hd⟩ ⟨cnB (bs.take c), by omega⟩
          simp only at hs
          have hgl := gaB_lt (bs.take c) x
          rw [h2, n_shrU x c (by omega) hc6, e3, hs, n_or _ _ _ hgl hd (by omega), hsn, if_pos hbt, hlen]
        · have hbt : b = true := by
            have h9 := Classical.not_not.mp (fun h9 => h0 (hbit.mpr h9))
            rw [hbc] at h9
            exact Option.some.inj h9
          rw [adC l3 2 _ 2 h3 (by decide) (by omega) (by omega), hcn, if_pos hbt]; omega
  unfold F_X9_gather
  obtain ⟨n, rfl⟩ : ∃ n9, K = n9 + 1 := ⟨K - 1, by omega⟩
  rw [L_X9_gather_e0]; unfold B_X9_gather_0
  exact key n 0 0 0 0 rfl (Nat.zero_le _) rfl rfl
/-! the next numbers -/
theorem spB_pad (bs : List Bool) (m k : Nat) : spB (bs ++ List.replicate m false) k = spB bs k := by
  induction m with
  | zero => rw [List.replicate_zero, List.append_nil]
  | succ m ih => rw [List.replicate_succ', ← List.append_assoc, spB_snoc, ih, if_neg (by decide), Nat.add_zero]
theorem cnB_pad (bs : List Bool) (m : Nat) : cnB (bs ++ List.replicate m false) = cnB bs := by
  rw [cnB_app]
  have : cnB (List.replicate m false) = 0 := by
    induction m with
    | zero => rfl
    | succ m ih => rw [List.replicate_succ]; unfold cnB; rw [ih]; rfl
  rw [this, Nat.add_zero]
theorem coP : ∀ bs : List Bool, bs.length = 6 → (mkI bs ^^^ (-1)).toBitVec.toNat = coB (bs ++ List.replicate 10 false) ∧ (mkI bs).toBitVec.toNat = mkB (bs ++ List.replicate 10 false) ∧ mkB bs < 4096 := by
  refine al6_of (P := fun bs => (mkI bs ^^^ (-1)).toBitVec.toNat = coB (bs ++ List.replicate 10 false) ∧ (mkI bs).toBitVec.toNat = mkB (bs ++ List.replicate 10 false) ∧ mkB bs < 4096) ?_
  unfold al6
  decide +kernel
theorem mod_and (A m : Nat) (hm : m < 2 ^ 32) : (A % 2 ^ 32) &&& m = A &&& m := by
  apply Nat.eq_of_testBit_eq
  intro i
  rw [Nat.testBit_and, Nat.testBit_and, Nat.testBit_mod_two_pow]
  by_cases hi : i < 32
  · simp [hi]
  · have : m.testBit i = false := Nat.testBit_lt_two_pow (Nat.lt_of_lt_of_le hm (Nat.pow_le_pow_right (by decide) (by omega)))
    simp [this]
theorem E_X9_following (K : Nat) (hK : 1000000000 ≤ K) (k : Nat) (bs : List Bool) (hb : bs.length = 6) (hk : k + 1 < 4 ^ cnB bs) : Par (F_X9_following K (Int32.ofNat (spB bs k)) (mkI bs)) (fun r => r = Int32.ofNat (spB bs (k + 1))) := by
  unfold F_X9_following
  obtain ⟨n, rfl⟩ : ∃ n9, K = n9 + 1 := ⟨K - 1, by omega⟩
  rw [L_X9_following_e0]; unfold B_X9_following_0
  refine Par.ret ?_
  obtain ⟨c1, c2, c3⟩ := coP bs hb
  have hs : ∀ k : Nat, spB bs k < 4096 := fun k => by
    have := spB_lt bs k
    rw [hb] at this
    exact this
  rw [← Int32.toBitVec_inj]
  apply BitVec.eq_of_toNat_eq
  have e : (((Int32.ofNat (spB bs k) ||| (mkI bs ^^^ (-1))) + 1) &&& mkI bs).toBitVec = (((Int32.ofNat (spB bs k)).toBitVec ||| (mkI bs ^^^ (-1)).toBitVec) + 1#32) &&& (mkI bs).toBitVec := rfl
  rw [e, BitVec.toNat_and, BitVec.toNat_add, BitVec.toNat_or, c1, c2, ofN_nat _ (hs k), ofN_nat _ (hs (k + 1))]
  have e1 : (1#32).toNat = 1 := rfl
  rw [e1, mod_and _ _ (by rw [← c2]; exact (mkI bs).toBitVec.isLt)]
  have hp := sp_nx (bs ++ List.replicate 10 false) k (by rw [cnB_pad]; exact hk)
  rw [spB_pad, spB_pad] at hp
  exact hp
/-! the reference -/
theorem E_m_cells (K : Nat) (hK : 1000000000 ≤ K) (w is : Int32) (alev : Nat → Int32) (bs : List Bool) (h1 : bs.length = 6) (hbs : ∀ c : Nat, c < 6 → (bs[c]? = some true ↔ ((wiP (alev c) w ∧ is = 1) ∨ (¬ wiP (alev c) w ∧ is = 0)))) : Par (F_m_cells K w is alev) (fun r => r = Int32.ofNat (cnB bs)) := by
  have key : ∀ (n c : Nat) (l3 l4 s0 s1 : Int32), l4.toInt = (c : Int) → c ≤ 6 → l3.toInt = (cnB (bs.take c) : Int) → Par (L_m_cells K n 1 w is l3 l4 s0 s1 alev) (fun r => r = Int32.ofNat (cnB bs)) := by
    intro n
    induction n using Nat.strongRecOn with
    | _ n ih =>
    intro c l3 l4 s0 s1 h4 hc h3
    have hcl : ∀ c : Nat, cnB (bs.take c) ≤ c := by
      have : ∀ bs : List Bool, cnB bs ≤ bs.length := by
        intro bs
        induction bs with
        | nil => exact Nat.le_refl _
        | cons b bs ih => unfold cnB; rw [List.length_cons]; split <;> omega
      intro c
      have h9 := this (bs.take c)
      rw [List.length_take] at h9
      omega
    cases n with
    | zero => exact Par.no
    | succ n =>
      rw [L_m_cells_e1]; unfold B_m_cells_1
      refine Par.br (fun h => ?_) (fun h => ?_)
      · rw [Int32.le_iff_toInt_le, h4] at h
        simp only [Int32.reduceToInt] at h
        have hc6 : c = 6 := by omega
        have hcl6 := hcl c
        refine Par.ret (ofn_of l3 _ ?_ ?_)
        · rw [hc6, ← h1, List.take_length] at hcl6; omega
        · rw [h3, hc6, ← h1, List.take_length]
      · rw [Int32.le_iff_toInt_le, h4] at h
        simp only [Int32.reduceToInt] at h
        have hc6 : c < 6 := by omega
        obtain ⟨b, hbc⟩ := bs_at h1 hc6
        have hcn : cnB (bs.take (c + 1)) = cnB (bs.take c) + (if b = true then 1 else 0) := by
          rw [take_snoc hbc, cnB_app]
          unfold cnB cnB
          omega
        have hcc := hcl c
        refine Par.br (fun _ => ?_) (fun _ => Par.no)
        rw [cl1 l4 c h4]
        have fin : ∀ (q : Nat) (x : Int32), q < n + 1 → ((x = 1 ∧ b = true) ∨ (x = 0 ∧ b ≠ true)) → Par (L_m_cells K q 2 w is l3 l4 x l3 alev) (fun r => r = Int32.ofNat (cnB bs)) := by
          intro q x hq hx
          cases q with
          | zero => exact Par.no
          | succ q =>
            rw [L_m_cells_e2]; unfold B_m_cells_2
            refine ih q (by omega) (c + 1) _ _ _ _ (ad1 l4 c h4 (by omega)) (by omega) ?_
            rw [hcn]
            rcases hx with ⟨hx, hb⟩ | ⟨hx, hb⟩
            · rw [hx, if_pos hb]; exact ad1 l3 _ h3 (by omega)
            · rw [hx, if_neg hb, Int32.add_zero, h3]; rfl
        have hb9 := hbs c hc6
        rw [hbc] at hb9
        refine Par.bd (E_m_isWithin K hK (alev c) w) (fun o ho => ?_)
        rcases ho with ⟨o1, o2⟩ | ⟨o1, o2⟩
        · refine Par.br (fun e => fin n 1 (by omega) (Or.inl ⟨rfl, Option.some.inj (hb9.mpr (Or.inl ⟨o2, by rw [← e, o1]⟩))⟩)) (fun e => fin n 0 (by omega) (Or.inr ⟨rfl, fun hb => ?_⟩))
          rcases hb9.mp (by rw [hb]) with ⟨_, h9⟩ | ⟨h9, _⟩
          · exact e (by rw [o1, h9])
          · exact h9 o2
        · refine Par.br (fun e => fin n 1 (by omega) (Or.inl ⟨rfl, Option.some.inj (hb9.mpr (Or.inr ⟨o2, by rw [← e, o1]⟩))⟩)) (fun e => fin n 0 (by omega) (Or.inr ⟨rfl, fun hb => ?_⟩))
          rcases hb9.mp (by rw [hb]) with ⟨h9, _⟩ | ⟨_, h9⟩
          · exact o2 h9
          · exact e (by rw [o1, h9])
  unfold F_m_cells
  obtain ⟨n, rfl⟩ : ∃ n9, K = n9 + 1 := ⟨K - 1, by omega⟩
  rw [L_m_cells_e0]; unfold B_m_cells_0
  exact key n 0 0 0 0 0 rfl (Nat.zero_le _) rfl
theorem n_sar2 (x : Nat) (h : x < 1000000) : (Int32.ofNat x >>> (2 &&& 31)) = Int32.ofNat (x / 4) := by
  have hm : (BitVec.ofNat 32 x).msb = false := by
    rw [BitVec.msb_eq_decide]
    refine decide_eq_false ?_
    rw [BitVec.toNat_ofNat]
    omega
  have key : (BitVec.ofNat 32 x).sshiftRight 2 = BitVec.ofNat 32 (x / 4) := by
    rw [BitVec.sshiftRight_eq_of_msb_false hm]
    apply BitVec.eq_of_toNat_eq
    rw [BitVec.toNat_ushiftRight, BitVec.toNat_ofNat, BitVec.toNat_ofNat, Nat.shiftRight_eq_div_pow]
    omega
  rw [← Int32.toBitVec_inj]
  exact key
theorem E_m_tells (K : Nat) (hK : 1000000000 ≤ K) (w is : Int32) (k : Nat) (hk : k < 1000000) (alev acel : Nat → Int32) (bs : List Bool) (h1 : bs.length = 6) (hbs : ∀ c : Nat, c < 6 → (bs[c]? = some true ↔ ((wiP (alev c) w ∧ is = 1) ∨ (¬ wiP (alev c) w ∧ is = 0)))) : Par (F_m_tells K w is (Int32.ofNat k) alev acel) (fun r => ∀ c : Nat, c < 6 → (bs[c]? = some true → r c = gN (spB bs k) c) ∧ (bs[c]? ≠ some true → r c = acel c)) := by
  have key : ∀ (n c : Nat) (l4 l5 : Int32) (ac : Nat → Int32), l5.toInt = (c : Int) → c ≤ 6 → l4 = Int32.ofNat (k / 4 ^ cnB (bs.take c)) → (∀ j : Nat, j < c → (bs[j]? = some true → ac j = gN (spB bs k) j) ∧ (bs[j]? ≠ some true → ac j = acel j)) → (∀ j : Nat, c ≤ j → ac j = acel j) → Par (L_m_tells K n 1 w is (Int32.ofNat k) l4 l5 alev ac) (fun r => ∀ c : Nat, c < 6 → (bs[c]? = some true → r c = gN (spB bs k) c) ∧ (bs[c]? ≠ some true → r c = acel c)) := by
    intro n
    induction n using Nat.strongRecOn with
    | _ n ih =>
    intro c l4 l5 ac h5 hc h4 ha hb
    cases n with
    | zero => exact Par.no
    | succ n =>
      rw [L_m_tells_e1]; unfold B_m_tells_1
      refine Par.br (fun h => ?_) (fun h => ?_)
      · rw [Int32.le_iff_toInt_le, h5] at h
        simp only [Int32.reduceToInt] at h
        exact Par.ret (fun j hj => ha j (by omega))
      · rw [Int32.le_iff_toInt_le, h5] at h
        simp only [Int32.reduceToInt] at h
        have hc6 : c < 6 := by omega
        obtain ⟨b, hbc⟩ := bs_at h1 hc6
        have hcn : cnB (bs.take (c + 1)) = cnB (bs.take c) + (if b = true then 1 else 0) := by
          rw [take_snoc hbc, cnB_app]
          unfold cnB cnB
          omega
        have hlt : k / 4 ^ cnB (bs.take c) ≤ k := Nat.div_le_self _ _
        refine Par.br (fun _ => ?_) (fun _ => Par.no)
        rw [cl1 l5 c h5]
        have fin : ∀ (q : Nat) (y : Int32) (ac : Nat → Int32), q < n + 1 → y = Int32.ofNat (k / 4 ^ cnB (bs.take (c + 1))) → (∀ j : Nat, j < c + 1 → (bs[j]? = some true → ac j = gN (spB bs k) j) ∧ (bs[j]? ≠ some true → ac j = acel j)) → (∀ j : Nat, c + 1 ≤ j → ac j = acel j) → Par (L_m_tells K q 2 w is (Int32.ofNat k) y l5 alev ac) (fun r => ∀ c : Nat, c < 6 → (bs[c]? = some true → r c = gN (spB bs k) c) ∧ (bs[c]? ≠ some true → r c = acel c)) := by
          intro q y ac hq hy g1 g2
          cases q with
          | zero => exact Par.no
          | succ q =>
            rw [L_m_tells_e2]; unfold B_m_tells_2
            exact ih q (by omega) (c + 1) _ _ _ (ad1 l5 c h5 (by omega)) (by omega) hy g1 g2
        have hb9 := hbs c hc6
        rw [hbc] at hb9
        have yes : b = true → Par (if okIx l5 6 = true then (L_m_tells K n 2 w is (Int32.ofNat k) (l4 >>> (2 &&& 31)) l5 alev (upd ac c (l4 &&& 3))) else none) (fun r => ∀ c : Nat, c < 6 → (bs[c]? = some true → r c = gN (spB bs k) c) ∧ (bs[c]? ≠ some true → r c = acel c)) := by
          intro hbt
          refine Par.br (fun _ => fin n _ _ (by omega) ?_ (fun j hj => ?_) (fun j hj => ?_)) (fun _ => Par.no)
          · rw [h4, n_sar2 _ (by omega), hcn, if_pos hbt, Nat.pow_succ, Nat.div_div_eq_div_mul]
          · by_cases hjc : j = c
            · subst hjc
              rw [upd_eq]
              refine ⟨fun h9 => ?_, fun h9 => absurd (by rw [hbc, hbt]) h9⟩
              unfold gN
              rw [dg_sp2 bs k j h9, h4, n_and3 _ (by omega)]
            · rw [upd_ne _ _ hjc]; exact ha j (by omega)
          · rw [upd_ne _ _ (by omega)]; exact hb j (by omega)
        have no : b ≠ true → Par (L_m_tells K n 2 w is (Int32.ofNat k) l4 l5 alev ac) (fun r => ∀ c : Nat, c < 6 → (bs[c]? = some true → r c = gN (spB bs k) c) ∧ (bs[c]? ≠ some true → r c = acel c)) := by
          intro hbt
          refine fin n _ _ (by omega) ?_ (fun j hj => ?_) (fun j hj => hb j (by omega))
          · rw [hcn, if_neg hbt, Nat.add_zero]; exact h4
          · by_cases hjc : j = c
            · subst hjc
              exact ⟨fun h9 => absurd (Option.some.inj (by rw [← hbc, h9])) hbt, fun _ => hb j (Nat.le_refl _)⟩
            · exact ha j (by omega)
        refine Par.bd (E_m_isWithin K hK (alev c) w) (fun o ho => ?_)
        rcases ho with ⟨o1, o2⟩ | ⟨o1, o2⟩
        · refine Par.br (fun e => yes (Option.some.inj (hb9.mpr (Or.inl ⟨o2, by rw [← e, o1]⟩)))) (fun e => no (fun hbt => ?_))
          rcases hb9.mp (by rw [hbt]) with ⟨_, h9⟩ | ⟨h9, _⟩
          · exact e (by rw [o1, h9])
          · exact h9 o2
        · refine Par.br (fun e => yes (Option.some.inj (hb9.mpr (Or.inr ⟨o2, by rw [← e, o1]⟩)))) (fun e => no (fun hbt => ?_))
          rcases hb9.mp (by rw [hbt]) with ⟨h9, _⟩ | ⟨_, h9⟩
          · exact o2 h9
          · exact e (by rw [o1, h9])
  unfold F_m_tells
  obtain ⟨n, rfl⟩ : ∃ n9, K = n9 + 1 := ⟨K - 1, by omega⟩
  rw [L_m_tells_e0]; unfold B_m_tells_0
  refine key n 0 _ _ _ rfl (Nat.zero_le _) ?_ (fun j hj => absurd hj (Nat.not_lt_zero _)) (fun j _ => rfl)
  show Int32.ofNat k = Int32.ofNat (k / 4 ^ cnB [])
  unfold cnB
  rw [Nat.pow_zero, Nat.div_one]
