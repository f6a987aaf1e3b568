theorem lwInv2.S {dC : Nat → ClassId} {dI : Nat → Nat → Nat} {cI cJ cS : ClassId} {A : Nat → Prop} {H0 : Heap} {hh mm : Nat} {H : Heap} {locs : List Loc} {N9 : Nat} (h : lwInv2 dC dI cI cJ cS A H0 hh mm H locs N9) : va_S A H0 H locs := lwInv2.elim h (fun _ _ _ _ _ _ _ _ _ _ _ _ _ _ _ _ _ _ _ _ _ _ _ _ _ _ _ _ _ _ _ _ _ _ _ _ _ _ _ _ _ _ _ _ _ _ _ _ _ _ _ _ _ _ _ _ _ _ _ _ _ _ _ _ _ _ _ _ _ _ _ _ _ _ _ _ _ _ _ _ _ _ _ _ _ _ _ _ _ _ _ _ _ _ _ _ _ _ _ _ _ _ _ _ _ _ _ _ _ _ _ _ _ _ _ _ _ _ _ _ _ _ _ _ _ _ _ _ _ _ _ _ _ _ _ _ _ _ _ _ _ _ _ _ _ _ _ _ _ _ _ _ _ _ _ _ _ _ _ hB => hB.2.2.1)
theorem len6 {L : Nat} (h : L ≤ 3072) : (Int32.ofNat L - 6).toInt = (L : Int) - 6 := by
  have e : (Int32.ofNat L).toInt = (L : Int) := nI_toInt (n := L) (by omega)
  simp only [Int32.toInt_sub, e, Int32.reduceToInt, Int.bmod]
  omega
theorem lx_exit {n L : Nat} (hL : L ≤ 3072) (h6 : n ≤ L + 6) (h : L < n + 6 * 0) : Int32.ofNat L - 6 < nI n := by
  rw [Int32.lt_iff_toInt_lt, len6 hL, nI_toInt (by omega)]
  omega
theorem lx_go {n L : Nat} (hL : L ≤ 3072) (h6 : n ≤ L + 6) (c : ¬ Int32.ofNat L - 6 < nI n) : n + 6 ≤ L := by
  rw [Int32.lt_iff_toInt_lt, len6 hL, nI_toInt (by omega)] at c
  omega
theorem lx_n1 {n L N : Nat} (h : L < n + 6 * (N + 1)) : L < n + 6 + 6 * N := by omega
theorem lx_n2 {n L : Nat} (h : n + 6 ≤ L) : n + 6 ≤ L + 6 := by omega
theorem lx_in0 {n L : Nat} (hL : L ≤ 3072) (hn : n + 6 ≤ L) : vp_in (nI n) L := by
  rw [vp_in_iff, nI_toInt (by omega)]
  omega
theorem lx_out {z : Int32} (q0 : ¬ z = 0) (q1 : ¬ z = 1) (q2 : ¬ z = 2) (q3 : ¬ z = 3) (q4 : ¬ z = 4) (q5 : ¬ z = 5) (q6 : ¬ z = 6) (q7 : ¬ z = 7) (q8 : ¬ z = 8) (q9 : ¬ z = 9) (q10 : ¬ z = 10) (q11 : ¬ z = 11) (q12 : ¬ z = 12) (q13 : ¬ z = 13) (q14 : ¬ z = 14) (q15 : ¬ z = 15) (q16 : ¬ z = 16) (q17 : ¬ z = 17) (q18 : ¬ z = 18) (q19 : ¬ z = 19) : z.toInt < 0 ∨ 19 < z.toInt := by
  have w0 : ¬ z.toInt = 0 := fun e => q0 (Int32.toInt_inj.mp (e.trans (by decide)))
  have w1 : ¬ z.toInt = 1 := fun e => q1 (Int32.toInt_inj.mp (e.trans (by decide)))
  have w2 : ¬ z.toInt = 2 := fun e => q2 (Int32.toInt_inj.mp (e.trans (by decide)))
  have w3 : ¬ z.toInt = 3 := fun e => q3 (Int32.toInt_inj.mp (e.trans (by decide)))
  have w4 : ¬ z.toInt = 4 := fun e => q4 (Int32.toInt_inj.mp (e.trans (by decide)))
  have w5 : ¬ z.toInt = 5 := fun e => q5 (Int32.toInt_inj.mp (e.trans (by decide)))
  have w6 : ¬ z.toInt = 6 := fun e => q6 (Int32.toInt_inj.mp (e.trans (by decide)))
  have w7 : ¬ z.toInt = 7 := fun e => q7 (Int32.toInt_inj.mp (e.trans (by decide)))
  have w8 : ¬ z.toInt = 8 := fun e => q8 (Int32.toInt_inj.mp (e.trans (by decide)))
  have w9 : ¬ z.toInt = 9 := fun e => q9 (Int32.toInt_inj.mp (e.trans (by decide)))
  have w10 : ¬ z.toInt = 10 := fun e => q10 (Int32.toInt_inj.mp (e.trans (by decide)))
  have w11 : ¬ z.toInt = 11 := fun e => q11 (Int32.toInt_inj.mp (e.trans (by decide)))
  have w12 : ¬ z.toInt = 12 := fun e => q12 (Int32.toInt_inj.mp (e.trans (by decide)))
  have w13 : ¬ z.toInt = 13 := fun e => q13 (Int32.toInt_inj.mp (e.trans (by decide)))
  have w14 : ¬ z.toInt = 14 := fun e => q14 (Int32.toInt_inj.mp (e.trans (by decide)))
  have w15 : ¬ z.toInt = 15 := fun e => q15 (Int32.toInt_inj.mp (e.trans (by decide)))
  have w16 : ¬ z.toInt = 16 := fun e => q16 (Int32.toInt_inj.mp (e.trans (by decide)))
  have w17 : ¬ z.toInt = 17 := fun e => q17 (Int32.toInt_inj.mp (e.trans (by decide)))
  have w18 : ¬ z.toInt = 18 := fun e => q18 (Int32.toInt_inj.mp (e.trans (by decide)))
  have w19 : ¬ z.toInt = 19 := fun e => q19 (Int32.toInt_inj.mp (e.trans (by decide)))
  omega
set_option maxHeartbeats 4000000 in
set_option maxRecDepth 100000 in
theorem law_loop (l : Launch) {pp_ : Program} {ee_ : Env} {ss_ : State} {mm_ : MethodId} {below : List Frame} {meth : Method} {cc_ : Code} {b L : Nat} {xs : Nat → Int32} {Q : State → Prop} {dC : Nat → ClassId} {dI : Nat → Nat → Nat} {cI cJ cS : ClassId} {A : Nat → Prop} {hh mm K aK aV cl sl : Nat} (hK : 1000000000 ≤ K) (hcl : cl ≤ room_1.cells) (hsl : sl ≤ room_1.slots) (hx : pp_.tables.exec = Jvm.exec) (hb : cc_.code = cL_law) (hml : cc_.maxLocals = 4) (hown : ss_.vm.findClass RL = some mm_.cls) (hts : ∀ w ∈ wsL_law, w.before #[Value.ref b] ss_ = true) (hX : va_X b L xs ss_ ss_.heap) (hbl : b < ss_.heap.size) (hA : ∀ q : Nat, ss_.heap.size ≤ q → A q) (hbA : ¬ A b) (hE : EV dC dI cI cJ cS ss_) (hZ : vk_R RX7 48 "=;{}+-*&!()<" aK ss_) (hJ : JSt aK aV A ss_ ss_.heap) (hL : L ≤ 3072) (hend : ∀ (H : Heap) (locs : List Loc) (ls : Array Slot), va_S A ss_.heap H locs → W pp_ l ee_ room_1 ss_ mm_ #[Value.ref b] below meth cc_ H locs cl sl Q (F0 mm_ 814 ls [])) : ∀ (N n : Nat), L < n + 6 * N → n ≤ L + 6 → ∀ (H : Heap) (locs : List Loc) (ls : Array Slot), lv_has ls 4 [(3, .int (nI n)), (2, .ref mm), (1, .ref hh), (0, .ref b)] → lwInv2 dC dI cI cJ cS A ss_.heap hh mm H locs n → W pp_ l ee_ room_1 ss_ mm_ #[Value.ref b] below meth cc_ H locs cl sl Q (F0 mm_ 18 ls []) := by
  intro N
  induction N with
  | zero =>
    intro n hN hn6 H locs ls hl hI
    have hS : va_S A ss_.heap H locs := lwInv2.S hI
    refine lv_iload_n hx hb dL_law_18 rfl (lv_at hl 0 rfl) ?_
    refine lv_aload_n hx hb dL_law_19 rfl (lv_at hl 3 rfl) ?_
    refine va_slen hx hb hX hbl hbA hS dL_law_20 ?_
    refine lv_bipush (v := 6) hx hb dL_law_21 (by decide) ?_
    refine lv_isub hx hb dL_law_23 ?_
    refine lv_icmp_gt (tgt := 814) hx hb dL_law_24 (by decide) (fun _ => hend H locs ls hS) (fun c => ?_)
    exact absurd (lx_exit hL hn6 hN) c
  | succ N ih =>
    intro n hN hn6 H locs ls hl hI
    have hS : va_S A ss_.heap H locs := lwInv2.S hI
    refine lv_iload_n hx hb dL_law_18 rfl (lv_at hl 0 rfl) ?_
    refine lv_aload_n hx hb dL_law_19 rfl (lv_at hl 3 rfl) ?_
    refine va_slen hx hb hX hbl hbA hS dL_law_20 ?_
    refine lv_bipush (v := 6) hx hb dL_law_21 (by decide) ?_
    refine lv_isub hx hb dL_law_23 ?_
    refine lv_icmp_gt (tgt := 814) hx hb dL_law_24 (by decide) (fun _ => hend H locs ls hS) (fun c => ?_)
    have hn : n + 6 ≤ L := lx_go hL hn6 c
    have tail : ∀ (H : Heap) (locs : List Loc), lwInv2 dC dI cI cJ cS A ss_.heap hh mm H locs (n + 6) → W pp_ l ee_ room_1 ss_ mm_ #[Value.ref b] below meth cc_ H locs cl sl Q (F0 mm_ 808 ls []) := by
      intro H locs hI
      refine lv_iinc (v := nI (n + 6)) (lv' := [(3, .int (nI (n + 6))), (2, .ref mm), (1, .ref hh), (0, .ref b)]) hx hb dL_law_808 hl (k := 0) rfl (nI_add n 6) (by decide) rfl (fun ls hl => ?_)
      refine lv_goto (tgt := 18) hx hb dL_law_811 (by decide) ?_
      exact ih (n + 6) (lx_n1 hN) (lx_n2 hn) H locs ls hl hI
    refine lv_aload_n hx hb dL_law_27 rfl (lv_at hl 3 rfl) ?_
    refine lv_iload_n hx hb dL_law_28 rfl (lv_at hl 0 rfl) ?_
    refine va_sld hx hb hX hbl hbA hS (i := nI n) (lx_in0 hL hn) dL_law_29 ?_
    refine lv_bipush (v := 31) hx hb dL_law_30 (by decide) ?_
    refine lv_iand hx hb dL_law_32 ?_
    generalize (xs (nI n).toNatClampNeg &&& 31) = z
    by_cases q0 : z = 0
    · refine lv_tableIn (off := 95) (tgt := 128) hx hb dL_law_33 (by rw [q0]; decide) (by rw [q0]; decide) (by rw [q0]; decide) (by decide) ?_
      exact lc_0 l hK hcl hsl hx hb hml hown hts hX hbl hA hbA hE hZ hJ hL hn hl hI tail
    by_cases q1 : z = 1
    · refine lv_tableIn (off := 128) (tgt := 161) hx hb dL_law_33 (by rw [q1]; decide) (by rw [q1]; decide) (by rw [q1]; decide) (by decide) ?_
      exact lc_1 l hK hcl hsl hx hb hml hown hts hX hbl hA hbA hE hZ hJ hL hn hl hI tail
    by_cases q2 : z = 2
    · refine lv_tableIn (off := 191) (tgt := 224) hx hb dL_law_33 (by rw [q2]; decide) (by rw [q2]; decide) (by rw [q2]; decide) (by decide) ?_
      exact lc_2 l hK hcl hsl hx hb hml hown hts hX hbl hA hbA hE hZ hJ hL hn hl hI tail
    by_cases q3 : z = 3
    · refine lv_tableIn (off := 204) (tgt := 237) hx hb dL_law_33 (by rw [q3]; decide) (by rw [q3]; decide) (by rw [q3]; decide) (by decide) ?_
      exact lc_3 l hK hcl hsl hx hb hml hown hts hX hbl hA hbA hE hZ hJ hL hn hl hI tail
    by_cases q4 : z = 4
    · refine lv_tableIn (off := 217) (tgt := 250) hx hb dL_law_33 (by rw [q4]; decide) (by rw [q4]; decide) (by rw [q4]; decide) (by decide) ?_
      exact lc_4 l hK hcl hsl hx hb hml hown hts hX hbl hA hbA hE hZ hJ hL hn hl hI tail
    by_cases q5 : z = 5
    · refine lv_tableIn (off := 240) (tgt := 273) hx hb dL_law_33 (by rw [q5]; decide) (by rw [q5]; decide) (by rw [q5]; decide) (by decide) ?_
      exact lc_5 l hK hcl hsl hx hb hml hown hts hX hbl hA hbA hE hZ hJ hL hn hl hI tail
    by_cases q6 : z = 6
    · refine lv_tableIn (off := 263) (tgt := 296) hx hb dL_law_33 (by rw [q6]; decide) (by rw [q6]; decide) (by rw [q6]; decide) (by decide) ?_
      exact lc_6 l hK hcl hsl hx hb hml hown hts hX hbl hA hbA hE hZ hJ hL hn hl hI tail
    by_cases q7 : z = 7
    · refine lv_tableIn (off := 296) (tgt := 329) hx hb dL_law_33 (by rw [q7]; decide) (by rw [q7]; decide) (by rw [q7]; decide) (by decide) ?_
      exact lc_7 l hK hcl hsl hx hb hml hown hts hX hbl hA hbA hE hZ hJ hL hn hl hI tail
    by_cases q8 : z = 8
    · refine lv_tableIn (off := 349) (tgt := 382) hx hb dL_law_33 (by rw [q8]; decide) (by rw [q8]; decide) (by rw [q8]; decide) (by decide) ?_
      exact lc_8 l hK hcl hsl hx hb hml hown hts hX hbl hA hbA hE hZ hJ hL hn hl hI tail
    by_cases q9 : z = 9
    · refine lv_tableIn (off := 412) (tgt := 445) hx hb dL_law_33 (by rw [q9]; decide) (by rw [q9]; decide) (by rw [q9]; decide) (by decide) ?_
      exact lc_9 l hK hcl hsl hx hb hml hown hts hX hbl hA hbA hE hZ hJ hL hn hl hI tail
    by_cases q10 : z = 10
    · refine lv_tableIn (off := 445) (tgt := 478) hx hb dL_law_33 (by rw [q10]; decide) (by rw [q10]; decide) (by rw [q10]; decide) (by decide) ?_
      exact lc_10 l hK hcl hsl hx hb hml hown hts hX hbl hA hbA hE hZ hJ hL hn hl hI tail
    by_cases q11 : z = 11
    · refine lv_tableIn (off := 488) (tgt := 521) hx hb dL_law_33 (by rw [q11]; decide) (by rw [q11]; decide) (by rw [q11]; decide) (by decide) ?_
      exact lc_11 l hK hcl hsl hx hb hml hown hts hX hbl hA hbA hE hZ hJ hL hn hl hI tail
    by_cases q12 : z = 12
    · refine lv_tableIn (off := 531) (tgt := 564) hx hb dL_law_33 (by rw [q12]; decide) (by rw [q12]; decide) (by rw [q12]; decide) (by decide) ?_
      exact lc_12 l hK hcl hsl hx hb hml hown hts hX hbl hA hbA hE hZ hJ hL hn hl hI tail
    by_cases q13 : z = 13
    · refine lv_tableIn (off := 584) (tgt := 617) hx hb dL_law_33 (by rw [q13]; decide) (by rw [q13]; decide) (by rw [q13]; decide) (by decide) ?_
      exact lc_13 l hK hcl hsl hx hb hml hown hts hX hbl hA hbA hE hZ hJ hL hn hl hI tail
    by_cases q14 : z = 14
    · refine lv_tableIn (off := 617) (tgt := 650) hx hb dL_law_33 (by rw [q14]; decide) (by rw [q14]; decide) (by rw [q14]; decide) (by decide) ?_
      exact lc_14 l hK hcl hsl hx hb hml hown hts hX hbl hA hbA hE hZ hJ hL hn hl hI tail
    by_cases q15 : z = 15
    · refine lv_tableIn (off := 640) (tgt := 673) hx hb dL_law_33 (by rw [q15]; decide) (by rw [q15]; decide) (by rw [q15]; decide) (by decide) ?_
      exact lc_15 l hK hcl hsl hx hb hml hown hts hX hbl hA hbA hE hZ hJ hL hn hl hI tail
    by_cases q16 : z = 16
    · refine lv_tableIn (off := 673) (tgt := 706) hx hb dL_law_33 (by rw [q16]; decide) (by rw [q16]; decide) (by rw [q16]; decide) (by decide) ?_
      exact lc_16 l hK hcl hsl hx hb hml hown hts hX hbl hA hbA hE hZ hJ hL hn hl hI tail
    by_cases q17 : z = 17
    · refine lv_tableIn (off := 696) (tgt := 729) hx hb dL_law_33 (by rw [q17]; decide) (by rw [q17]; decide) (by rw [q17]; decide) (by decide) ?_
      exact lc_17 l hK hcl hsl hx hb hml hown hts hX hbl hA hbA hE hZ hJ hL hn hl hI tail
    by_cases q18 : z = 18
    · refine lv_tableIn (off := 739) (tgt := 772) hx hb dL_law_33 (by rw [q18]; decide) (by rw [q18]; decide) (by rw [q18]; decide) (by decide) ?_
      exact lc_18 l hK hcl hsl hx hb hml hown hts hX hbl hA hbA hE hZ hJ hL hn hl hI tail
    by_cases q19 : z = 19
    · refine lv_tableIn (off := 752) (tgt := 785) hx hb dL_law_33 (by rw [q19]; decide) (by rw [q19]; decide) (by rw [q19]; decide) (by decide) ?_
      exact lc_19 l hK hcl hsl hx hb hml hown hts hX hbl hA hbA hE hZ hJ hL hn hl hI tail
    refine lv_tableOut (tgt := 808) hx hb dL_law_33 (lx_out q0 q1 q2 q3 q4 q5 q6 q7 q8 q9 q10 q11 q12 q13 q14 q15 q16 q17 q18 q19) (by decide) ?_
    exact tail H locs (lwInv2.up hI (Nat.le_trans hn hL))
