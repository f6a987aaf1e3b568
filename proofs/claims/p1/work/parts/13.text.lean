set_option maxHeartbeats 1000000 in
set_option maxRecDepth 100000 in
theorem c_cellsWithin (l : Launch) (dC : Nat → ClassId) (dI : Nat → Nat → Nat) (cI cJ cS : ClassId) (h : Nat) (w : Int32) (x1 : Nat) (x2 : Nat) (x3 : Nat) (x4 : Nat) (x5 : Nat) (x6 : Nat) (x7 : Nat)  : Met l yX9_cellsWithin wsX9_cellsWithin ({ frames := 1, cells := 0, slots := 0, locals := 21 }) (va_Pc [.ref h, .int w] (PR dC dI cI cJ cS [(h, .inr (9, [.ref x1, .ref x2, .ref x3, .ref x4, .ref x5, .ref x6, .ref x7])), (x1, aI cI 6 (fun _ => 0))])) (vp_Si (fun r : Int32 => r = 4095)) 0 0 (fun _ => False) := by
  refine Met.ofW (cc := cX9_cellsWithin) (maxL := 4) (ret := (some .int)) (by decide) rfl ?_
  intro pp_ ee_ ss_ mm_ args below meth cc_ s₁ B hml hv
  obtain ⟨rfl, hP, hE⟩ := hv
  have hx := B.exec
  have hb := B.bytes
  have hr := B.returns
  have hts := atoms_spec (ws := wsX9_cellsWithin) B.pre
  have hown : ss_.vm.findClass RX9 = some mm_.cls := findClass_of_methodNamed B.named
  have hlocks := B.notSynchronized
  have hK := hE.1
  have hiX9 : ∀ w ∈ wsX90, w ∈ wsX9_cellsWithin := by decide +kernel
  have hP : va_P (dC, dI) vwCl [(h, .inr (9, [.ref x1, .ref x2, .ref x3, .ref x4, .ref x5, .ref x6, .ref x7])), (x1, aI cI 6 (fun _ => 0))] ss_.heap := hP
  have hl := lv_entry ([.ref h, .int w]) (n := 4) (Nat.le_of_ble_eq_true rfl)
  rw [lg_entry_eq]
  generalize (lg_sl ([.ref h, .int w]) ++ List.replicate (4 - (lg_sl ([.ref h, .int w])).length) Slot.unset).toArray = ls at hl ⊢
  have hl : lv_has ls 4 [(0, .ref h), (1, .int w)] := hl
  refine lv_iconst (v := 0) hx hb dX9_cellsWithin_0 (by decide) ?_
  refine lv_istore_n (lv' := [(2, .int 0), (0, .ref h), (1, .int w)]) hx hb dX9_cellsWithin_1 rfl hl (by decide) rfl (fun ls hl => ?_)
  refine lv_iconst (v := 0) hx hb dX9_cellsWithin_2 (by decide) ?_
  refine lv_istore_n (lv' := [(3, .int 0), (2, .int 0), (0, .ref h), (1, .int w)]) hx hb dX9_cellsWithin_3 rfl hl (by decide) rfl (fun ls hl => ?_)
  refine lv_iload_n hx hb dX9_cellsWithin_4 rfl (lv_at hl 0 rfl) ?_
  refine lv_bipush (v := 6) hx hb dX9_cellsWithin_5 (by decide) ?_
  refine lv_icmp_ge (tgt := 37) hx hb dX9_cellsWithin_7 (by decide) (fun c_1 => absurd c_1 (by decide)) (fun _ => ?_)
  refine lv_aload_n hx hb dX9_cellsWithin_10 rfl (lv_at hl 2 rfl) ?_
  refine va_get (D := (dC, dI)) (ci := 9) (v := .ref x1) (C := RX9) (T := TX9) (N := 7) hx hb hts hiX9 hown hK hP 0 rfl rfl 0 (by decide) (hts (.fieldLink RX9 9 "WatchedPrograms" "levels" "[I") (by decide +kernel)) (fun _ h9 => h9) rfl dX9_cellsWithin_11 ?_
  refine lv_iload_n hx hb dX9_cellsWithin_14 rfl (lv_at hl 0 rfl) ?_
  refine va_iald hx hb hK hP 1 0 rfl rfl (by unfold vp_in; decide) dX9_cellsWithin_15 ?_
  refine zi (y := 0) (by rfl) ?_
  refine lv_iload_n hx hb dX9_cellsWithin_16 rfl (lv_at hl 3 rfl) ?_
  refine vp_callSi (va_Run.run (va_runS (As := [.int 0, .int w]) (rest := []) ⟨hx, hb, hml, hown, hts⟩ (c_isWithin0 l dC dI cI cJ cS  w ) (va_cwS 2 hts gX9_cellsWithin_X9_isWithin rfl rfl rfl (by decide +kernel) ⟨Nat.le_of_ble_eq_true rfl, Nat.le_of_ble_eq_true rfl⟩) (preR (hP.sub (ws' := []) [] rfl) hE) rfl rfl hl.1 rfl (lv_room (Nat.le_of_ble_eq_true rfl)) dX9_cellsWithin_17 ⟨by decide +kernel, by decide +kernel⟩)) (fun r_2 hr_3 => ?_)
  obtain rfl := hr_3
  refine lv_if_eq (tgt := 31) hx hb dX9_cellsWithin_20 (by decide) (fun c_4 => absurd c_4 (by decide)) (fun _ => ?_)
  refine lv_iload_n hx hb dX9_cellsWithin_23 rfl (lv_at hl 1 rfl) ?_
  refine lv_iconst (v := 3) hx hb dX9_cellsWithin_24 (by decide) ?_
  refine lv_iconst (v := 2) hx hb dX9_cellsWithin_25 (by decide) ?_
  refine lv_iload_n hx hb dX9_cellsWithin_26 rfl (lv_at hl 0 rfl) ?_
  refine lv_imul hx hb dX9_cellsWithin_27 ?_
  refine zi (y := 0) (by decide) ?_
  refine lv_ishl hx hb dX9_cellsWithin_28 ?_
  refine zi (y := 3) (by decide) ?_
  refine lv_ior hx hb dX9_cellsWithin_29 ?_
  refine zi (y := 3) (by decide) ?_
  refine lv_istore_n (lv' := [(2, .int 3), (3, .int 0), (0, .ref h), (1, .int w)]) hx hb dX9_cellsWithin_30 rfl hl (by decide) rfl (fun ls hl => ?_)
  refine lv_iinc (v := 1) (lv' := [(3, .int 1), (2, .int 3), (0, .ref h), (1, .int w)]) hx hb dX9_cellsWithin_31 hl (k := 1) rfl (by decide) (by decide) rfl (fun ls hl => ?_)
  refine lv_goto (tgt := 4) hx hb dX9_cellsWithin_34 (by decide) ?_
  refine lv_iload_n hx hb dX9_cellsWithin_4 rfl (lv_at hl 0 rfl) ?_
  refine lv_bipush (v := 6) hx hb dX9_cellsWithin_5 (by decide) ?_
  refine lv_icmp_ge (tgt := 37) hx hb dX9_cellsWithin_7 (by decide) (fun c_5 => absurd c_5 (by decide)) (fun _ => ?_)
  refine lv_aload_n hx hb dX9_cellsWithin_10 rfl (lv_at hl 2 rfl) ?_
  refine va_get (D := (dC, dI)) (ci := 9) (v := .ref x1) (C := RX9) (T := TX9) (N := 7) hx hb hts hiX9 hown hK hP 0 rfl rfl 0 (by decide) (hts (.fieldLink RX9 9 "WatchedPrograms" "levels" "[I") (by decide +kernel)) (fun _ h9 => h9) rfl dX9_cellsWithin_11 ?_
  refine lv_iload_n hx hb dX9_cellsWithin_14 rfl (lv_at hl 0 rfl) ?_
  refine va_iald hx hb hK hP 1 0 rfl rfl (by unfold vp_in; decide) dX9_cellsWithin_15 ?_
  refine zi (y := 0) (by rfl) ?_
  refine lv_iload_n hx hb dX9_cellsWithin_16 rfl (lv_at hl 3 rfl) ?_
  refine vp_callSi (va_Run.run (va_runS (As := [.int 0, .int w]) (rest := []) ⟨hx, hb, hml, hown, hts⟩ (c_isWithin0 l dC dI cI cJ cS  w ) (va_cwS 2 hts gX9_cellsWithin_X9_isWithin rfl rfl rfl (by decide +kernel) ⟨Nat.le_of_ble_eq_true rfl, Nat.le_of_ble_eq_true rfl⟩) (preR (hP.sub (ws' := []) [] rfl) hE) rfl rfl hl.1 rfl (lv_room (Nat.le_of_ble_eq_true rfl)) dX9_cellsWithin_17 ⟨by decide +kernel, by decide +kernel⟩)) (fun r_6 hr_7 => ?_)
  obtain rfl := hr_7
  refine lv_if_eq (tgt := 31) hx hb dX9_cellsWithin_20 (by decide) (fun c_8 => absurd c_8 (by decide)) (fun _ => ?_)
  refine lv_iload_n hx hb dX9_cellsWithin_23 rfl (lv_at hl 1 rfl) ?_
  refine lv_iconst (v := 3) hx hb dX9_cellsWithin_24 (by decide) ?_
  refine lv_iconst (v := 2) hx hb dX9_cellsWithin_25 (by decide) ?_
  refine lv_iload_n hx hb dX9_cellsWithin_26 rfl (lv_at hl 0 rfl) ?_
  refine lv_imul hx hb dX9_cellsWithin_27 ?_
  refine zi (y := 2) (by decide) ?_
  refine lv_ishl hx hb dX9_cellsWithin_28 ?_
  refine zi (y := 12) (by decide) ?_
  refine lv_ior hx hb dX9_cellsWithin_29 ?_
  refine zi (y := 15) (by decide) ?_
  refine lv_istore_n (lv' := [(2, .int 15), (3, .int 1), (0, .ref h), (1, .int w)]) hx hb dX9_cellsWithin_30 rfl hl (by decide) rfl (fun ls hl => ?_)
  refine lv_iinc (v := 2) (lv' := [(3, .int 2), (2, .int 15), (0, .ref h), (1, .int w)]) hx hb dX9_cellsWithin_31 hl (k := 1) rfl (by decide) (by decide) rfl (fun ls hl => ?_)
  refine lv_goto (tgt := 4) hx hb dX9_cellsWithin_34 (by decide) ?_
  refine lv_iload_n hx hb dX9_cellsWithin_4 rfl (lv_at hl 0 rfl) ?_
  refine lv_bipush (v := 6) hx hb dX9_cellsWithin_5 (by decide) ?_
  refine lv_icmp_ge (tgt := 37) hx hb dX9_cellsWithin_7 (by decide) (fun c_9 => absurd c_9 (by decide)) (fun _ => ?_)
  refine lv_aload_n hx hb dX9_cellsWithin_10 rfl (lv_at hl 2 rfl) ?_
  refine va_get (D := (dC, dI)) (ci := 9) (v := .ref x1) (C := RX9) (T := TX9) (N := 7) hx hb hts hiX9 hown hK hP 0 rfl rfl 0 (by decide) (hts (.fieldLink RX9 9 "WatchedPrograms" "levels" "[I") (by decide +kernel)) (fun _ h9 => h9) rfl dX9_cellsWithin_11 ?_
  refine lv_iload_n hx hb dX9_cellsWithin_14 rfl (lv_at hl 0 rfl) ?_
  refine va_iald hx hb hK hP 1 0 rfl rfl (by unfold vp_in; decide) dX9_cellsWithin_15 ?_
  refine zi (y := 0) (by rfl) ?_
  refine lv_iload_n hx hb dX9_cellsWithin_16 rfl (lv_at hl 3 rfl) ?_
  refine vp_callSi (va_Run.run (va_runS (As := [.int 0, .int w]) (rest := []) ⟨hx, hb, hml, hown, hts⟩ (c_isWithin0 l dC dI cI cJ cS  w ) (va_cwS 2 hts gX9_cellsWithin_X9_isWithin rfl rfl rfl (by decide +kernel) ⟨Nat.le_of_ble_eq_true rfl, Nat.le_of_ble_eq_true rfl⟩) (preR (hP.sub (ws' := []) [] rfl) hE) rfl rfl hl.1 rfl (lv_room (Nat.le_of_ble_eq_true rfl)) dX9_cellsWithin_17 ⟨by decide +kernel, by decide +kernel⟩)) (fun r_10 hr_11 => ?_)
  obtain rfl := hr_11
  refine lv_if_eq (tgt := 31) hx hb dX9_cellsWithin_20 (by decide) (fun c_12 => absurd c_12 (by decide)) (fun _ => ?_)
  refine lv_iload_n hx hb dX9_cellsWithin_23 rfl (lv_at hl 1 rfl) ?_
  refine lv_iconst (v := 3) hx hb dX9_cellsWithin_24 (by decide) ?_
  refine lv_iconst (v := 2) hx hb dX9_cellsWithin_25 (by decide) ?_
  refine lv_iload_n hx hb dX9_cellsWithin_26 rfl (lv_at hl 0 rfl) ?_
  refine lv_imul hx hb dX9_cellsWithin_27 ?_
  refine zi (y := 4) (by decide) ?_
  refine lv_ishl hx hb dX9_cellsWithin_28 ?_
  refine zi (y := 48) (by decide) ?_
  refine lv_ior hx hb dX9_cellsWithin_29 ?_
  refine zi (y := 63) (by decide) ?_
  refine lv_istore_n (lv' := [(2, .int 63), (3, .int 2), (0, .ref h), (1, .int w)]) hx hb dX9_cellsWithin_30 rfl hl (by decide) rfl (fun ls hl => ?_)
  refine lv_iinc (v := 3) (lv' := [(3, .int 3), (2, .int 63), (0, .ref h), (1, .int w)]) hx hb dX9_cellsWithin_31 hl (k := 1) rfl (by decide) (by decide) rfl (fun ls hl => ?_)
  refine lv_goto (tgt := 4) hx hb dX9_cellsWithin_34 (by decide) ?_
  refine lv_iload_n hx hb dX9_cellsWithin_4 rfl (lv_at hl 0 rfl) ?_
  refine lv_bipush (v := 6) hx hb dX9_cellsWithin_5 (by decide) ?_
  refine lv_icmp_ge (tgt := 37) hx hb dX9_cellsWithin_7 (by decide) (fun c_13 => absurd c_13 (by decide)) (fun _ => ?_)
  refine lv_aload_n hx hb dX9_cellsWithin_10 rfl (lv_at hl 2 rfl) ?_
  refine va_get (D := (dC, dI)) (ci := 9) (v := .ref x1) (C := RX9) (T := TX9) (N := 7) hx hb hts hiX9 hown hK hP 0 rfl rfl 0 (by decide) (hts (.fieldLink RX9 9 "WatchedPrograms" "levels" "[I") (by decide +kernel)) (fun _ h9 => h9) rfl dX9_cellsWithin_11 ?_
  refine lv_iload_n hx hb dX9_cellsWithin_14 rfl (lv_at hl 0 rfl) ?_
  refine va_iald hx hb hK hP 1 0 rfl rfl (by unfold vp_in; decide) dX9_cellsWithin_15 ?_
  refine zi (y := 0) (by rfl) ?_
  refine lv_iload_n hx hb dX9_cellsWithin_16 rfl (lv_at hl 3 rfl) ?_
  refine vp_callSi (va_Run.run (va_runS (As := [.int 0, .int w]) (rest := []) ⟨hx, hb, hml, hown, hts⟩ (c_isWithin0 l dC dI cI cJ cS  w ) (va_cwS 2 hts gX9_cellsWithin_X9_isWithin rfl rfl rfl (by decide +kernel) ⟨Nat.le_of_ble_eq_true rfl, Nat.le_of_ble_eq_true rfl⟩) (preR (hP.sub (ws' := []) [] rfl) hE) rfl rfl hl.1 rfl (lv_room (Nat.le_of_ble_eq_true rfl)) dX9_cellsWithin_17 ⟨by decide +kernel, by decide +kernel⟩)) (fun r_14 hr_15 => ?_)
  obtain rfl := hr_15
  refine lv_if_eq (tgt := 31) hx hb dX9_cellsWithin_20 (by decide) (fun c_16 => absurd c_16 (by decide)) (fun _ => ?_)
  refine lv_iload_n hx hb dX9_cellsWithin_23 rfl (lv_at hl 1 rfl) ?_
  refine lv_iconst (v := 3) hx hb dX9_cellsWithin_24 (by decide) ?_
  refine lv_iconst (v := 2) hx hb dX9_cellsWithin_25 (by decide) ?_
  refine lv_iload_n hx hb dX9_cellsWithin_26 rfl (lv_at hl 0 rfl) ?_
  refine lv_imul hx hb dX9_cellsWithin_27 ?_
  refine zi (y := 6) (by decide) ?_
  refine lv_ishl hx hb dX9_cellsWithin_28 ?_
  refine zi (y := 192) (by decide) ?_
  refine lv_ior hx hb dX9_cellsWithin_29 ?_
  refine zi (y := 255) (by decide) ?_
  refine lv_istore_n (lv' := [(2, .int 255), (3, .int 3), (0, .ref h), (1, .int w)]) hx hb dX9_cellsWithin_30 rfl hl (by decide) rfl (fun ls hl => ?_)
  refine lv_iinc (v := 4) (lv' := [(3, .int 4), (2, .int 255), (0, .ref h), (1, .int w)]) hx hb dX9_cellsWithin_31 hl (k := 1) rfl (by decide) (by decide) rfl (fun ls hl => ?_)
  refine lv_goto (tgt := 4) hx hb dX9_cellsWithin_34 (by decide) ?_
  refine lv_iload_n hx hb dX9_cellsWithin_4 rfl (lv_at hl 0 rfl) ?_
  refine lv_bipush (v := 6) hx hb dX9_cellsWithin_5 (by decide) ?_
  refine lv_icmp_ge (tgt := 37) hx hb dX9_cellsWithin_7 (by decide) (fun c_17 => absurd c_17 (by decide)) (fun _ => ?_)
  refine lv_aload_n hx hb dX9_cellsWithin_10 rfl (lv_at hl 2 rfl) ?_
  refine va_get (D := (dC, dI)) (ci := 9) (v := .ref x1) (C := RX9) (T := TX9) (N := 7) hx hb hts hiX9 hown hK hP 0 rfl rfl 0 (by decide) (hts (.fieldLink RX9 9 "WatchedPrograms" "levels" "[I") (by decide +kernel)) (fun _ h9 => h9) rfl dX9_cellsWithin_11 ?_
  refine lv_iload_n hx hb dX9_cellsWithin_14 rfl (lv_at hl 0 rfl) ?_
  refine va_iald hx hb hK hP 1 0 rfl rfl (by unfold vp_in; decide) dX9_cellsWithin_15 ?_
  refine zi (y := 0) (by rfl) ?_
  refine lv_iload_n hx hb dX9_cellsWithin_16 rfl (lv_at hl 3 rfl) ?_
  refine vp_callSi (va_Run.run (va_runS (As := [.int 0, .int w]) (rest := []) ⟨hx, hb, hml, hown, hts⟩ (c_isWithin0 l dC dI cI cJ cS  w ) (va_cwS 2 hts gX9_cellsWithin_X9_isWithin rfl rfl rfl (by decide +kernel) ⟨Nat.le_of_ble_eq_true rfl, Nat.le_of_ble_eq_true rfl⟩) (preR (hP.sub (ws' := []) [] rfl) hE) rfl rfl hl.1 rfl (lv_room (Nat.le_of_ble_eq_true rfl)) dX9_cellsWithin_17 ⟨by decide +kernel, by decide +kernel⟩)) (fun r_18 hr_19 => ?_)
  obtain rfl := hr_19
  refine lv_if_eq (tgt := 31) hx hb dX9_cellsWithin_20 (by decide) (fun c_20 => absurd c_20 (by decide)) (fun _ => ?_)
  refine lv_iload_n hx hb dX9_cellsWithin_23 rfl (lv_at hl 1 rfl) ?_
  refine lv_iconst (v := 3) hx hb dX9_cellsWithin_24 (by decide) ?_
  refine lv_iconst (v := 2) hx hb dX9_cellsWithin_25 (by decide) ?_
  refine lv_iload_n hx hb dX9_cellsWithin_26 rfl (lv_at hl 0 rfl) ?_
  refine lv_imul hx hb dX9_cellsWithin_27 ?_
  refine zi (y := 8) (by decide) ?_
  refine lv_ishl hx hb dX9_cellsWithin_28 ?_
  refine zi (y := 768) (by decide) ?_
  refine lv_ior hx hb dX9_cellsWithin_29 ?_
  refine zi (y := 1023) (by decide) ?_
  refine lv_istore_n (lv' := [(2, .int 1023), (3, .int 4), (0, .ref h), (1, .int w)]) hx hb dX9_cellsWithin_30 rfl hl (by decide) rfl (fun ls hl => ?_)
  refine lv_iinc (v := 5) (lv' := [(3, .int 5), (2, .int 1023), (0, .ref h), (1, .int w)]) hx hb dX9_cellsWithin_31 hl (k := 1) rfl (by decide) (by decide) rfl (fun ls hl => ?_)
  refine lv_goto (tgt := 4) hx hb dX9_cellsWithin_34 (by decide) ?_
  refine lv_iload_n hx hb dX9_cellsWithin_4 rfl (lv_at hl 0 rfl) ?_
  refine lv_bipush (v := 6) hx hb dX9_cellsWithin_5 (by decide) ?_
  refine lv_icmp_ge (tgt := 37) hx hb dX9_cellsWithin_7 (by decide) (fun c_21 => absurd c_21 (by decide)) (fun _ => ?_)
  refine lv_aload_n hx hb dX9_cellsWithin_10 rfl (lv_at hl 2 rfl) ?_
  refine va_get (D := (dC, dI)) (ci := 9) (v := .ref x1) (C := RX9) (T := TX9) (N := 7) hx hb hts hiX9 hown hK hP 0 rfl rfl 0 (by decide) (hts (.fieldLink RX9 9 "WatchedPrograms" "levels" "[I") (by decide +kernel)) (fun _ h9 => h9) rfl dX9_cellsWithin_11 ?_
  refine lv_iload_n hx hb dX9_cellsWithin_14 rfl (lv_at hl 0 rfl) ?_
  refine va_iald hx hb hK hP 1 0 rfl rfl (by unfold vp_in; decide) dX9_cellsWithin_15 ?_
  refine zi (y := 0) (by rfl) ?_
  refine lv_iload_n hx hb dX9_cellsWithin_16 rfl (lv_at hl 3 rfl) ?_
  refine vp_callSi (va_Run.run (va_runS (As := [.int 0, .int w]) (rest := []) ⟨hx, hb, hml, hown, hts⟩ (c_isWithin0 l dC dI cI cJ cS  w ) (va_cwS 2 hts gX9_cellsWithin_X9_isWithin rfl rfl rfl (by decide +kernel) ⟨Nat.le_of_ble_eq_true rfl, Nat.le_of_ble_eq_true rfl⟩) (preR (hP.sub (ws' := []) [] rfl) hE) rfl rfl hl.1 rfl (lv_room (Nat.le_of_ble_eq_true rfl)) dX9_cellsWithin_17 ⟨by decide +kernel, by decide +kernel⟩)) (fun r_22 hr_23 => ?_)
  obtain rfl := hr_23
  refine lv_if_eq (tgt := 31) hx hb dX9_cellsWithin_20 (by decide) (fun c_24 => absurd c_24 (by decide)) (fun _ => ?_)
  refine lv_iload_n hx hb dX9_cellsWithin_23 rfl (lv_at hl 1 rfl) ?_
  refine lv_iconst (v := 3) hx hb dX9_cellsWithin_24 (by decide) ?_
  refine lv_iconst (v := 2) hx hb dX9_cellsWithin_25 (by decide) ?_
  refine lv_iload_n hx hb dX9_cellsWithin_26 rfl (lv_at hl 0 rfl) ?_
  refine lv_imul hx hb dX9_cellsWithin_27 ?_
  refine zi (y := 10) (by decide) ?_
  refine lv_ishl hx hb dX9_cellsWithin_28 ?_
  refine zi (y := 3072) (by decide) ?_
  refine lv_ior hx hb dX9_cellsWithin_29 ?_
  refine zi (y := 4095) (by decide) ?_
  refine lv_istore_n (lv' := [(2, .int 4095), (3, .int 5), (0, .ref h), (1, .int w)]) hx hb dX9_cellsWithin_30 rfl hl (by decide) rfl (fun ls hl => ?_)
  refine lv_iinc (v := 6) (lv' := [(3, .int 6), (2, .int 4095), (0, .ref h), (1, .int w)]) hx hb dX9_cellsWithin_31 hl (k := 1) rfl (by decide) (by decide) rfl (fun ls hl => ?_)
  refine lv_goto (tgt := 4) hx hb dX9_cellsWithin_34 (by decide) ?_
  refine lv_iload_n hx hb dX9_cellsWithin_4 rfl (lv_at hl 0 rfl) ?_
  refine lv_bipush (v := 6) hx hb dX9_cellsWithin_5 (by decide) ?_
  refine lv_icmp_ge (tgt := 37) hx hb dX9_cellsWithin_7 (by decide) (fun _ => ?_) (fun c_25 => absurd (by decide) c_25)
  refine lv_iload_n hx hb dX9_cellsWithin_37 rfl (lv_at hl 1 rfl) ?_
  exact W.iret (v := 4095) hx hb hr (fun tt_ ht hW => ⟨_, rfl, rfl, ht⟩) (fun _ h => by cases h) dX9_cellsWithin_38
set_option maxHeartbeats 1000000 in
set_option maxRecDepth 100000 in
theorem c_countCells (l : Launch) (dC : Nat → ClassId) (dI : Nat → Nat → Nat) (cI cJ cS : ClassId) (h : Nat) (v : Int32) (x1 : Nat) (x2 : Nat) (x3 : Nat) (x4 : Nat) (x5 : Nat) (x6 : Nat) (x7 : Nat)  : Met l yX9_countCells wsX9_countCells ({ frames := 0, cells := 0, slots := 0, locals := 0 }) (va_Pc [.ref h, .int v] (PR dC dI cI cJ cS [(h, .inr (9, [.ref x1, .ref x2, .ref x3, .ref x4, .ref x5, .ref x6, .ref x7])), (x1, aI cI 6 (fun _ => 0))])) (vp_Si (fun r : Int32 => r = if (0 : Int32) = v then 6 else 0)) 0 0 (fun _ => False) := by
  refine Met.ofW (cc := cX9_countCells) (maxL := 4) (ret := (some .int)) (by decide) rfl ?_
  intro pp_ ee_ ss_ mm_ args below meth cc_ s₁ B hml hv
  obtain ⟨rfl, hP, hE⟩ := hv
  have hx := B.exec
  have hb := B.bytes
  have hr := B.returns
  have hts := atoms_spec (ws := wsX9_countCells) B.pre
  have hown : ss_.vm.findClass RX9 = some mm_.cls := findClass_of_methodNamed B.named
  have hlocks := B.notSynchronized
  have hK := hE.1
  have hiX9 : ∀ w ∈ wsX90, w ∈ wsX9_countCells := by decide +kernel
  have hP : va_P (dC, dI) vwCl [(h, .inr (9, [.ref x1, .ref x2, .ref x3, .ref x4, .ref x5, .ref x6, .ref x7])), (x1, aI cI 6 (fun _ => 0))] ss_.heap := hP
  have hl := lv_entry ([.ref h, .int v]) (n := 4) (Nat.le_of_ble_eq_true rfl)
  rw [lg_entry_eq]
  generalize (lg_sl ([.ref h, .int v]) ++ List.replicate (4 - (lg_sl ([.ref h, .int v])).length) Slot.unset).toArray = ls at hl ⊢
  have hl : lv_has ls 4 [(0, .ref h), (1, .int v)] := hl
  refine lv_iconst (v := 0) hx hb dX9_countCells_0 (by decide) ?_
  refine lv_istore_n (lv' := [(2, .int 0), (0, .ref h), (1, .int v)]) hx hb dX9_countCells_1 rfl hl (by decide) rfl (fun ls hl => ?_)
  refine lv_iconst (v := 0) hx hb dX9_countCells_2 (by decide) ?_
  refine lv_istore_n (lv' := [(3, .int 0), (2, .int 0), (0, .ref h), (1, .int v)]) hx hb dX9_countCells_3 rfl hl (by decide) rfl (fun ls hl => ?_)
  refine lv_iload_n hx hb dX9_countCells_4 rfl (lv_at hl 0 rfl) ?_
  refine lv_bipush (v := 6) hx hb dX9_countCells_5 (by decide) ?_
  refine lv_icmp_ge (tgt := 29) hx hb dX9_countCells_7 (by decide) (fun c_1 => absurd c_1 (by decide)) (fun _ => ?_)
  refine lv_aload_n hx hb dX9_countCells_10 rfl (lv_at hl 2 rfl) ?_
  refine va_get (D := (dC, dI)) (ci := 9) (v := .ref x1) (C := RX9) (T := TX9) (N := 7) hx hb hts hiX9 hown hK hP 0 rfl rfl 0 (by decide) (hts (.fieldLink RX9 9 "WatchedPrograms" "levels" "[I") (by decide +kernel)) (fun _ h9 => h9) rfl dX9_countCells_11 ?_
  refine lv_iload_n hx hb dX9_countCells_14 rfl (lv_at hl 0 rfl) ?_
  refine va_iald hx hb hK hP 1 0 rfl rfl (by unfold vp_in; decide) dX9_countCells_15 ?_
  refine zi (y := 0) (by rfl) ?_
  refine lv_iload_n hx hb dX9_countCells_16 rfl (lv_at hl 3 rfl) ?_
  refine lv_icmp_ne (tgt := 23) hx hb dX9_countCells_17 (by decide) (fun c_2 => ?_) (fun c_2 => ?_)
  · refine lv_iinc (v := 1) (lv' := [(3, .int 1), (2, .int 0), (0, .ref h), (1, .int v)]) hx hb dX9_countCells_23 hl (k := 0) rfl (by decide) (by decide) rfl (fun ls hl => ?_)
    refine lv_goto (tgt := 4) hx hb dX9_countCells_26 (by decide) ?_
    refine lv_iload_n hx hb dX9_countCells_4 rfl (lv_at hl 0 rfl) ?_
    refine lv_bipush (v := 6) hx hb dX9_countCells_5 (by decide) ?_
    refine lv_icmp_ge (tgt := 29) hx hb dX9_countCells_7 (by decide) (fun c_3 => absurd c_3 (by decide)) (fun _ => ?_)
    refine lv_aload_n hx hb dX9_countCells_10 rfl (lv_at hl 2 rfl) ?_
    refine va_get (D := (dC, dI)) (ci := 9) (v := .ref x1) (C := RX9) (T := TX9) (N := 7) hx hb hts hiX9 hown hK hP 0 rfl rfl 0 (by decide) (hts (.fieldLink RX9 9 "WatchedPrograms" "levels" "[I") (by decide +kernel)) (fun _ h9 => h9) rfl dX9_countCells_11 ?_
    refine lv_iload_n hx hb dX9_countCells_14 rfl (lv_at hl 0 rfl) ?_
    refine va_iald hx hb hK hP 1 0 rfl rfl (by unfold vp_in; decide) dX9_countCells_15 ?_
    refine zi (y := 0) (by rfl) ?_
    refine lv_iload_n hx hb dX9_countCells_16 rfl (lv_at hl 3 rfl) ?_
    refine lv_icmp_ne (tgt := 23) hx hb dX9_countCells_17 (by decide) (fun _ => ?_) (fun c_4 => absurd c_4 c_2)
    refine lv_iinc (v := 2) (lv' := [(3, .int 2), (2, .int 0), (0, .ref h), (1, .int v)]) hx hb dX9_countCells_23 hl (k := 0) rfl (by decide) (by decide) rfl (fun ls hl => ?_)
    refine lv_goto (tgt := 4) hx hb dX9_countCells_26 (by decide) ?_
    refine lv_iload_n hx hb dX9_countCells_4 rfl (lv_at hl 0 rfl) ?_
    refine lv_bipush (v := 6) hx hb dX9_countCells_5 (by decide) ?_
    refine lv_icmp_ge (tgt := 29) hx hb dX9_countCells_7 (by decide) (fun c_5 => absurd c_5 (by decide)) (fun _ => ?_)
    refine lv_aload_n hx hb dX9_countCells_10 rfl (lv_at hl 2 rfl) ?_
    refine va_get (D := (dC, dI)) (ci := 9) (v := .ref x1) (C := RX9) (T := TX9) (N := 7) hx hb hts hiX9 hown hK hP 0 rfl rfl 0 (by decide) (hts (.fieldLink RX9 9 "WatchedPrograms" "levels" "[I") (by decide +kernel)) (fun _ h9 => h9) rfl dX9_countCells_11 ?_
    refine lv_iload_n hx hb dX9_countCells_14 rfl (lv_at hl 0 rfl) ?_
    refine va_iald hx hb hK hP 1 0 rfl rfl (by unfold vp_in; decide) dX9_countCells_15 ?_
    refine zi (y := 0) (by rfl) ?_
    refine lv_iload_n hx hb dX9_countCells_16 rfl (lv_at hl 3 rfl) ?_
    refine lv_icmp_ne (tgt := 23) hx hb dX9_countCells_17 (by decide) (fun _ => ?_) (fun c_6 => absurd c_6 c_2)
    refine lv_iinc (v := 3) (lv' := [(3, .int 3), (2, .int 0), (0, .ref h), (1, .int v)]) hx hb dX9_countCells_23 hl (k := 0) rfl (by decide) (by decide) rfl (fun ls hl => ?_)
    refine lv_goto (tgt := 4) hx hb dX9_countCells_26 (by decide) ?_
    refine lv_iload_n hx hb dX9_countCells_4 rfl (lv_at hl 0 rfl) ?_
    refine lv_bipush (v := 6) hx hb dX9_countCells_5 (by decide) ?_
    refine lv_icmp_ge (tgt := 29) hx hb dX9_countCells_7 (by decide) (fun c_7 => absurd c_7 (by decide)) (fun _ => ?_)
    refine lv_aload_n hx hb dX9_countCells_10 rfl (lv_at hl 2 rfl) ?_
    refine va_get (D := (dC, dI)) (ci := 9) (v := .ref x1) (C := RX9) (T := TX9) (N := 7) hx hb hts hiX9 hown hK hP 0 rfl rfl 0 (by decide) (hts (.fieldLink RX9 9 "WatchedPrograms" "levels" "[I") (by decide +kernel)) (fun _ h9 => h9) rfl dX9_countCells_11 ?_
    refine lv_iload_n hx hb dX9_countCells_14 rfl (lv_at hl 0 rfl) ?_
    refine va_iald hx hb hK hP 1 0 rfl rfl (by unfold vp_in; decide) dX9_countCells_15 ?_
    refine zi (y := 0) (by rfl) ?_
    refine lv_iload_n hx hb dX9_countCells_16 rfl (lv_at hl 3 rfl) ?_
    refine lv_icmp_ne (tgt := 23) hx hb dX9_countCells_17 (by decide) (fun _ => ?_) (fun c_8 => absurd c_8 c_2)
    refine lv_iinc (v := 4) (lv' := [(3, .int 4), (2, .int 0), (0, .ref h), (1, .int v)]) hx hb dX9_countCells_23 hl (k := 0) rfl (by decide) (by decide) rfl (fun ls hl => ?_)
    refine lv_goto (tgt := 4) hx hb dX9_countCells_26 (by decide) ?_
    refine lv_iload_n hx hb dX9_countCells_4 rfl (lv_at hl 0 rfl) ?_
    refine lv_bipush (v := 6) hx hb dX9_countCells_5 (by decide) ?_
    refine lv_icmp_ge (tgt := 29) hx hb dX9_countCells_7 (by decide) (fun c_9 => absurd c_9 (by decide)) (fun _ => ?_)
    refine lv_aload_n hx hb dX9_countCells_10 rfl (lv_at hl 2 rfl) ?_
    refine va_get (D := (dC, dI)) (ci := 9) (v := .ref x1) (C := RX9) (T := TX9) (N := 7) hx hb hts hiX9 hown hK hP 0 rfl rfl 0 (by decide) (hts (.fieldLink RX9 9 "WatchedPrograms" "levels" "[I") (by decide +kernel)) (fun _ h9 => h9) rfl dX9_countCells_11 ?_
    refine lv_iload_n hx hb dX9_countCells_14 rfl (lv_at hl 0 rfl) ?_
    refine va_iald hx hb hK hP 1 0 rfl rfl (by unfold vp_in; decide) dX9_countCells_15 ?_
    refine zi (y := 0) (by rfl) ?_
    refine lv_iload_n hx hb dX9_countCells_16 rfl (lv_at hl 3 rfl) ?_
    refine lv_icmp_ne (tgt := 23) hx hb dX9_countCells_17 (by decide) (fun _ => ?_) (fun c_10 => absurd c_10 c_2)
    refine lv_iinc (v := 5) (lv' := [(3, .int 5), (2, .int 0), (0, .ref h), (1, .int v)]) hx hb dX9_countCells_23 hl (k := 0) rfl (by decide) (by decide) rfl (fun ls hl => ?_)
    refine lv_goto (tgt := 4) hx hb dX9_countCells_26 (by decide) ?_
    refine lv_iload_n hx hb dX9_countCells_4 rfl (lv_at hl 0 rfl) ?_
    refine lv_bipush (v := 6) hx hb dX9_countCells_5 (by decide) ?_
    refine lv_icmp_ge (tgt := 29) hx hb dX9_countCells_7 (by decide) (fun c_11 => absurd c_11 (by decide)) (fun _ => ?_)
    refine lv_aload_n hx hb dX9_countCells_10 rfl (lv_at hl 2 rfl) ?_
    refine va_get (D := (dC, dI)) (ci := 9) (v := .ref x1) (C := RX9) (T := TX9) (N := 7) hx hb hts hiX9 hown hK hP 0 rfl rfl 0 (by decide) (hts (.fieldLink RX9 9 "WatchedPrograms" "levels" "[I") (by decide +kernel)) (fun _ h9 => h9) rfl dX9_countCells_11 ?_
    refine lv_iload_n hx hb dX9_countCells_14 rfl (lv_at hl 0 rfl) ?_
    refine va_iald hx hb hK hP 1 0 rfl rfl (by unfold vp_in; decide) dX9_countCells_15 ?_
    refine zi (y := 0) (by rfl) ?_
    refine lv_iload_n hx hb dX9_countCells_16 rfl (lv_at hl 3 rfl) ?_
    refine lv_icmp_ne (tgt := 23) hx hb dX9_countCells_17 (by decide) (fun _ => ?_) (fun c_12 => absurd c_12 c_2)
    refine lv_iinc (v := 6) (lv' := [(3, .int 6), (2, .int 0), (0, .ref h), (1, .int v)]) hx hb dX9_countCells_23 hl (k := 0) rfl (by decide) (by decide) rfl (fun ls hl => ?_)
    refine lv_goto (tgt := 4) hx hb dX9_countCells_26 (by decide) ?_
    refine lv_iload_n hx hb dX9_countCells_4 rfl (lv_at hl 0 rfl) ?_
    refine lv_bipush (v := 6) hx hb dX9_countCells_5 (by decide) ?_
    refine lv_icmp_ge (tgt := 29) hx hb dX9_countCells_7 (by decide) (fun _ => ?_) (fun c_13 => absurd (by decide) c_13)
    refine lv_iload_n hx hb dX9_countCells_29 rfl (lv_at hl 1 rfl) ?_
    exact W.iret (v := 0) hx hb hr (fun tt_ ht hW => ⟨_, rfl, (if_neg c_2).symm, ht⟩) (fun _ h => by cases h) dX9_countCells_30
  · refine lv_iinc (v := 1) (lv' := [(2, .int 1), (3, .int 0), (0, .ref h), (1, .int v)]) hx hb dX9_countCells_20 hl (k := 1) rfl (by decide) (by decide) rfl (fun ls hl => ?_)
    refine lv_iinc (v := 1) (lv' := [(3, .int 1), (2, .int 1), (0, .ref h), (1, .int v)]) hx hb dX9_countCells_23 hl (k := 1) rfl (by decide) (by decide) rfl (fun ls hl => ?_)
    refine lv_goto (tgt := 4) hx hb dX9_countCells_26 (by decide) ?_
    refine lv_iload_n hx hb dX9_countCells_4 rfl (lv_at hl 0 rfl) ?_
    refine lv_bipush (v := 6) hx hb dX9_countCells_5 (by decide) ?_
    refine lv_icmp_ge (tgt := 29) hx hb dX9_countCells_7 (by decide) (fun c_14 => absurd c_14 (by decide)) (fun _ => ?_)
    refine lv_aload_n hx hb dX9_countCells_10 rfl (lv_at hl 2 rfl) ?_
    refine va_get (D := (dC, dI)) (ci := 9) (v := .ref x1) (C := RX9) (T := TX9) (N := 7) hx hb hts hiX9 hown hK hP 0 rfl rfl 0 (by decide) (hts (.fieldLink RX9 9 "WatchedPrograms" "levels" "[I") (by decide +kernel)) (fun _ h9 => h9) rfl dX9_countCells_11 ?_
    refine lv_iload_n hx hb dX9_countCells_14 rfl (lv_at hl 0 rfl) ?_
    refine va_iald hx hb hK hP 1 0 rfl rfl (by unfold vp_in; decide) dX9_countCells_15 ?_
    refine zi (y := 0) (by rfl) ?_
    refine lv_iload_n hx hb dX9_countCells_16 rfl (lv_at hl 3 rfl) ?_
    refine lv_icmp_ne (tgt := 23) hx hb dX9_countCells_17 (by decide) (fun c_15 => absurd c_2 c_15) (fun _ => ?_)
    refine lv_iinc (v := 2) (lv' := [(2, .int 2), (3, .int 1), (0, .ref h), (1, .int v)]) hx hb dX9_countCells_20 hl (k := 1) rfl (by decide) (by decide) rfl (fun ls hl => ?_)
    refine lv_iinc (v := 2) (lv' := [(3, .int 2), (2, .int 2), (0, .ref h), (1, .int v)]) hx hb dX9_countCells_23 hl (k := 1) rfl (by decide) (by decide) rfl (fun ls hl => ?_)
    refine lv_goto (tgt := 4) hx hb dX9_countCells_26 (by decide) ?_
    refine lv_iload_n hx hb dX9_countCells_4 rfl (lv_at hl 0 rfl) ?_
    refine lv_bipush (v := 6) hx hb dX9_countCells_5 (by decide) ?_
    refine lv_icmp_ge (tgt := 29) hx hb dX9_countCells_7 (by decide) (fun c_16 => absurd c_16 (by decide)) (fun _ => ?_)
    refine lv_aload_n hx hb dX9_countCells_10 rfl (lv_at hl 2 rfl) ?_
    refine va_get (D := (dC, dI)) (ci := 9) (v := .ref x1) (C := RX9) (T := TX9) (N := 7) hx hb hts hiX9 hown hK hP 0 rfl rfl 0 (by decide) (hts (.fieldLink RX9 9 "WatchedPrograms" "levels" "[I") (by decide +kernel)) (fun _ h9 => h9) rfl dX9_countCells_11 ?_
    refine lv_iload_n hx hb dX9_countCells_14 rfl (lv_at hl 0 rfl) ?_
    refine va_iald hx hb hK hP 1 0 rfl rfl (by unfold vp_in; decide) dX9_countCells_15 ?_
    refine zi (y := 0) (by rfl) ?_
    refine lv_iload_n hx hb dX9_countCells_16 rfl (lv_at hl 3 rfl) ?_
    refine lv_icmp_ne (tgt := 23) hx hb dX9_countCells_17 (by decide) (fun c_17 => absurd c_2 c_17) (fun _ => ?_)
    refine lv_iinc (v := 3) (lv' := [(2, .int 3), (3, .int 2), (0, .ref h), (1, .int v)]) hx hb dX9_countCells_20 hl (k := 1) rfl (by decide) (by decide) rfl (fun ls hl => ?_)
    refine lv_iinc (v := 3) (lv' := [(3, .int 3), (2, .int 3), (0, .ref h), (1, .int v)]) hx hb dX9_countCells_23 hl (k := 1) rfl (by decide) (by decide) rfl (fun ls hl => ?_)
    refine lv_goto (tgt := 4) hx hb dX9_countCells_26 (by decide) ?_
    refine lv_iload_n hx hb dX9_countCells_4 rfl (lv_at hl 0 rfl) ?_
    refine lv_bipush (v := 6) hx hb dX9_countCells_5 (by decide) ?_
    refine lv_icmp_ge (tgt := 29) hx hb dX9_countCells_7 (by decide) (fun c_18 => absurd c_18 (by decide)) (fun _ => ?_)
    refine lv_aload_n hx hb dX9_countCells_10 rfl (lv_at hl 2 rfl) ?_
    refine va_get (D := (dC, dI)) (ci := 9) (v := .ref x1) (C := RX9) (T := TX9) (N := 7) hx hb hts hiX9 hown hK hP 0 rfl rfl 0 (by decide) (hts (.fieldLink RX9 9 "WatchedPrograms" "levels" "[I") (by decide +kernel)) (fun _ h9 => h9) rfl dX9_countCells_11 ?_
    refine lv_iload_n hx hb dX9_countCells_14 rfl (lv_at hl 0 rfl) ?_
    refine va_iald hx hb hK hP 1 0 rfl rfl (by unfold vp_in; decide) dX9_countCells_15 ?_
    refine zi (y := 0) (by rfl) ?_
    refine lv_iload_n hx hb dX9_countCells_16 rfl (lv_at hl 3 rfl) ?_
    refine lv_icmp_ne (tgt := 23) hx hb dX9_countCells_17 (by decide) (fun c_19 => absurd c_2 c_19) (fun _ => ?_)
    refine lv_iinc (v := 4) (lv' := [(2, .int 4), (3, .int 3), (0, .ref h), (1, .int v)]) hx hb dX9_countCells_20 hl (k := 1) rfl (by decide) (by decide) rfl (fun ls hl => ?_)
    refine lv_iinc (v := 4) (lv' := [(3, .int 4), (2, .int 4), (0, .ref h), (1, .int v)]) hx hb dX9_countCells_23 hl (k := 1) rfl (by decide) (by decide) rfl (fun ls hl => ?_)
    refine lv_goto (tgt := 4) hx hb dX9_countCells_26 (by decide) ?_
    refine lv_iload_n hx hb dX9_countCells_4 rfl (lv_at hl 0 rfl) ?_
    refine lv_bipush (v := 6) hx hb dX9_countCells_5 (by decide) ?_
    refine lv_icmp_ge (tgt := 29) hx hb dX9_countCells_7 (by decide) (fun c_20 => absurd c_20 (by decide)) (fun _ => ?_)
    refine lv_aload_n hx hb dX9_countCells_10 rfl (lv_at hl 2 rfl) ?_
    refine va_get (D := (dC, dI)) (ci := 9) (v := .ref x1) (C := RX9) (T := TX9) (N := 7) hx hb hts hiX9 hown hK hP 0 rfl rfl 0 (by decide) (hts (.fieldLink RX9 9 "WatchedPrograms" "levels" "[I") (by decide +kernel)) (fun _ h9 => h9) rfl dX9_countCells_11 ?_
    refine lv_iload_n hx hb dX9_countCells_14 rfl (lv_at hl 0 rfl) ?_
    refine va_iald hx hb hK hP 1 0 rfl rfl (by unfold vp_in; decide) dX9_countCells_15 ?_
    refine zi (y := 0) (by rfl) ?_
    refine lv_iload_n hx hb dX9_countCells_16 rfl (lv_at hl 3 rfl) ?_
    refine lv_icmp_ne (tgt := 23) hx hb dX9_countCells_17 (by decide) (fun c_21 => absurd c_2 c_21) (fun _ => ?_)
    refine lv_iinc (v := 5) (lv' := [(2, .int 5), (3, .int 4), (0, .ref h), (1, .int v)]) hx hb dX9_countCells_20 hl (k := 1) rfl (by decide) (by decide) rfl (fun ls hl => ?_)
    refine lv_iinc (v := 5) (lv' := [(3, .int 5), (2, .int 5), (0, .ref h), (1, .int v)]) hx hb dX9_countCells_23 hl (k := 1) rfl (by decide) (by decide) rfl (fun ls hl => ?_)
    refine lv_goto (tgt := 4) hx hb dX9_countCells_26 (by decide) ?_
    refine lv_iload_n hx hb dX9_countCells_4 rfl (lv_at hl 0 rfl) ?_
    refine lv_bipush (v := 6) hx hb dX9_countCells_5 (by decide) ?_
    refine lv_icmp_ge (tgt := 29) hx hb dX9_countCells_7 (by decide) (fun c_22 => absurd c_22 (by decide)) (fun _ => ?_)
    refine lv_aload_n hx hb dX9_countCells_10 rfl (lv_at hl 2 rfl) ?_
    refine va_get (D := (dC, dI)) (ci := 9) (v := .ref x1) (C := RX9) (T := TX9) (N := 7) hx hb hts hiX9 hown hK hP 0 rfl rfl 0 (by decide) (hts (.fieldLink RX9 9 "WatchedPrograms" "levels" "[I") (by decide +kernel)) (fun _ h9 => h9) rfl dX9_countCells_11 ?_
    refine lv_iload_n hx hb dX9_countCells_14 rfl (lv_at hl 0 rfl) ?_
    refine va_iald hx hb hK hP 1 0 rfl rfl (by unfold vp_in; decide) dX9_countCells_15 ?_
    refine zi (y := 0) (by rfl) ?_
    refine lv_iload_n hx hb dX9_countCells_16 rfl (lv_at hl 3 rfl) ?_
    refine lv_icmp_ne (tgt := 23) hx hb dX9_countCells_17 (by decide) (fun c_23 => absurd c_2 c_23) (fun _ => ?_)
    refine lv_iinc (v := 6) (lv' := [(2, .int 6), (3, .int 5), (0, .ref h), (1, .int v)]) hx hb dX9_countCells_20 hl (k := 1) rfl (by decide) (by decide) rfl (fun ls hl => ?_)
    refine lv_iinc (v := 6) (lv' := [(3, .int 6), (2, .int 6), (0, .ref h), (1, .int v)]) hx hb dX9_countCells_23 hl (k := 1) rfl (by decide) (by decide) rfl (fun ls hl => ?_)
    refine lv_goto (tgt := 4) hx hb dX9_countCells_26 (by decide) ?_
    refine lv_iload_n hx hb dX9_countCells_4 rfl (lv_at hl 0 rfl) ?_
    refine lv_bipush (v := 6) hx hb dX9_countCells_5 (by decide) ?_
    refine lv_icmp_ge (tgt := 29) hx hb dX9_countCells_7 (by decide) (fun _ => ?_) (fun c_24 => absurd (by decide) c_24)
    refine lv_iload_n hx hb dX9_countCells_29 rfl (lv_at hl 1 rfl) ?_
    exact W.iret (v := 6) hx hb hr (fun tt_ ht hW => ⟨_, rfl, (if_pos c_2).symm, ht⟩) (fun _ h => by cases h) dX9_countCells_30
set_option maxHeartbeats 1000000 in
set_option maxRecDepth 100000 in
theorem c_level (l : Launch) (dC : Nat → ClassId) (dI : Nat → Nat → Nat) (cI cJ cS : ClassId) (sz : Nat) (h : Nat) (c : Int32) (v : Int32) (x1 : Nat) (x2 : Nat) (x3 : Nat) (x4 : Nat) (x5 : Nat) (x6 : Nat) (x7 : Nat)  : Met l yX9_level wsX9_level ({ frames := 1, cells := 0, slots := 0, locals := 20 }) (va_Pc [.ref h, .int c, .int v] (PE dC dI cI cJ cS [(h, .inr (9, [.ref x1, .ref x2, .ref x3, .ref x4, .ref x5, .ref x6, .ref x7])), (x1, aI cI 6 (fun _ => 0))] sz)) (va_Qi (fun (r : Int32) (_ : Unit) => r = okE (inR c 0 5 ∧ inR v 0 3) 0) (BE dC dI (va_A [(h, .inr (9, [.ref x1, .ref x2, .ref x3, .ref x4, .ref x5, .ref x6, .ref x7])), (x1, aI cI 6 (fun _ => 0))] sz) (fun (_ : Unit) => [])) (va_A [(h, .inr (9, [.ref x1, .ref x2, .ref x3, .ref x4, .ref x5, .ref x6, .ref x7])), (x1, aI cI 6 (fun _ => 0))] sz)) 0 0 (va_A [(h, .inr (9, [.ref x1, .ref x2, .ref x3, .ref x4, .ref x5, .ref x6, .ref x7])), (x1, aI cI 6 (fun _ => 0))] sz) := by
  refine Met.ofW (cc := cX9_level) (maxL := 4) (ret := (some .int)) (by decide) rfl ?_
  intro pp_ ee_ ss_ mm_ args below meth cc_ s₁ B hml hv
  obtain ⟨rfl, hsz, hP, hE, hD0⟩ := hv
  have hx := B.exec
  have hb := B.bytes
  have hr := B.returns
  have hts := atoms_spec (ws := wsX9_level) B.pre
  have hown : ss_.vm.findClass RX9 = some mm_.cls := findClass_of_methodNamed B.named
  have hlocks := B.notSynchronized
  have hK := hE.1
  have hiX9 : ∀ w ∈ wsX90, w ∈ wsX9_level := by decide +kernel
  subst hsz
  have hD := hD0.self (sz := ss_.heap.size)
  generalize hAe : va_A [(h, .inr (9, [.ref x1, .ref x2, .ref x3, .ref x4, .ref x5, .ref x6, .ref x7])), (x1, aI cI 6 (fun _ => 0))] ss_.heap.size = A at hD ⊢
  have hA : ∀ q : Nat, ss_.heap.size ≤ q → A q := fun q h => by rw [← hAe]; exact Or.inr h
  have hS : va_S A ss_.heap ss_.heap [] := va_S.rf
  have hP : va_P (dC, dI) vwCl [(h, .inr (9, [.ref x1, .ref x2, .ref x3, .ref x4, .ref x5, .ref x6, .ref x7])), (x1, aI cI 6 (fun _ => 0))] ss_.heap := hP
  have hl := lv_entry ([.ref h, .int c, .int v]) (n := 4) (Nat.le_of_ble_eq_true rfl)
  rw [lg_entry_eq]
  generalize (lg_sl ([.ref h, .int c, .int v]) ++ List.replicate (4 - (lg_sl ([.ref h, .int c, .int v])).length) Slot.unset).toArray = ls at hl ⊢
  have hl : lv_has ls 4 [(0, .ref h), (1, .int c), (2, .int v)] := hl
  refine lv_iload_n hx hb dX9_level_0 rfl (lv_at hl 1 rfl) ?_
  refine vp_callSi (va_Run.run (va_runS (As := [.int c]) (rest := []) ⟨hx, hb, hml, hown, hts⟩ (c_isCell l dC dI cI cJ cS  c ) (va_cwS 1 hts gX9_level_X9_isCell rfl rfl rfl (by decide +kernel) ⟨Nat.le_of_ble_eq_true rfl, Nat.le_of_ble_eq_true rfl⟩) (preR (hP.sub (ws' := []) [] rfl) hE) rfl rfl hl.1 rfl (lv_room (Nat.le_of_ble_eq_true rfl)) dX9_level_1 ⟨by decide +kernel, by decide +kernel⟩)) (fun r_1 hr_2 => ?_)
  refine lv_if_eq (tgt := 14) hx hb dX9_level_4 (by decide) (fun c_3 => ?_) (fun c_3 => ?_)
  · have k_4 : ¬ (inR c 0 5) := bI_0 hr_2 c_3
    refine lv_iconst (v := (-1)) hx hb dX9_level_14 (by decide) ?_
    have hP9 := hP.sub (ws' := []) [] rfl
    have hD9 := hD.sub (ws' := []) [] (by decide) rfl
    exact W.iret (v := (-1)) hx hb hr (fun tt_ ht hW => ⟨⟨_, (), rfl, (by rw [okE, if_neg (by simp only [inR, Int32.lt_iff_toInt_lt, Int32.le_iff_toInt_le, ← Int32.toInt_inj, tI_0, tI_1, tI_2, tI_3, tI_4, tI_5, tI_6, tI_7, tI_8, tI_20, tI_30, tI_300, tI_400, tI_4095, tI_4096, tI_m1, tI_m2, tI_m3, tI_m9] at k_4 ⊢ <;> omega)]), by rw [ht]; exact hP9, hD9⟩, hS.F ht⟩) hS.2.2 dX9_level_15
  · have k_5 : inR c 0 5 := bI_1 hr_2 c_3
    refine lv_iload_n hx hb dX9_level_7 rfl (lv_at hl 2 rfl) ?_
    refine vp_callSi (va_Run.run (va_runS (As := [.int v]) (rest := []) ⟨hx, hb, hml, hown, hts⟩ (c_isLevel l dC dI cI cJ cS  v ) (va_cwS 1 hts gX9_level_X9_isLevel rfl rfl rfl (by decide +kernel) ⟨Nat.le_of_ble_eq_true rfl, Nat.le_of_ble_eq_true rfl⟩) (preR (hP.sub (ws' := []) [] rfl) hE) rfl rfl hl.1 rfl (lv_room (Nat.le_of_ble_eq_true rfl)) dX9_level_8 ⟨by decide +kernel, by decide +kernel⟩)) (fun r_6 hr_7 => ?_)
    refine lv_if_ne (tgt := 16) hx hb dX9_level_11 (by decide) (fun c_8 => ?_) (fun c_8 => ?_)
    · have k_9 : inR v 0 3 := bI_1 hr_7 c_8
      refine lv_aload_n hx hb dX9_level_16 rfl (lv_at hl 0 rfl) ?_
      refine va_get (D := (dC, dI)) (ci := 9) (v := .ref x1) (C := RX9) (T := TX9) (N := 7) hx hb hts hiX9 hown hK hP 0 rfl rfl 0 (by decide) (hts (.fieldLink RX9 9 "WatchedPrograms" "levels" "[I") (by decide +kernel)) (fun _ h9 => h9) rfl dX9_level_17 ?_
      refine lv_iload_n hx hb dX9_level_20 rfl (lv_at hl 1 rfl) ?_
      refine va_iald hx hb hK hP 1 0 rfl rfl (vp_in_r 6 k_5 (by decide)) dX9_level_21 ?_
      refine zi (y := 0) (by rfl) ?_
      refine lv_istore_n (lv' := [(3, .int 0), (0, .ref h), (1, .int c), (2, .int v)]) hx hb dX9_level_22 rfl hl (by decide) rfl (fun ls hl => ?_)
      refine lv_aload_n hx hb dX9_level_23 rfl (lv_at hl 1 rfl) ?_
      refine va_get (D := (dC, dI)) (ci := 9) (v := .ref x1) (C := RX9) (T := TX9) (N := 7) hx hb hts hiX9 hown hK hP 0 rfl rfl 0 (by decide) (hts (.fieldLink RX9 9 "WatchedPrograms" "levels" "[I") (by decide +kernel)) (fun _ h9 => h9) rfl dX9_level_24 ?_
      refine lv_iload_n hx hb dX9_level_27 rfl (lv_at hl 2 rfl) ?_
      refine lv_iload_n hx hb dX9_level_28 rfl (lv_at hl 3 rfl) ?_
      refine va_iast hx hb hK hP hD hS 1 0 rfl rfl (vp_in_r 6 k_5 (by decide)) dX9_level_29 (fun H locs hP hD hS => ?_)
      have hP : va_P (dC, dI) vwCl [(h, .inr (9, [.ref x1, .ref x2, .ref x3, .ref x4, .ref x5, .ref x6, .ref x7])), (x1, aI cI 6 (upd (fun _ => 0) ((c).toNatClampNeg) v))] H := hP
      have hD : va_D A [(h, .inr (9, [.ref x1, .ref x2, .ref x3, .ref x4, .ref x5, .ref x6, .ref x7])), (x1, aI cI 6 (upd (fun _ => 0) ((c).toNatClampNeg) v))] := hD
      refine lv_iload_n hx hb dX9_level_30 rfl (lv_at hl 0 rfl) ?_
      have hP9 := hP.sub (ws' := []) [] rfl
      have hD9 := hD.sub (ws' := []) [] (by decide) rfl
      exact W.iret (v := 0) hx hb hr (fun tt_ ht hW => ⟨⟨_, (), rfl, (by rw [okE, if_pos (by simp only [inR, Int32.lt_iff_toInt_lt, Int32.le_iff_toInt_le, ← Int32.toInt_inj, tI_0, tI_1, tI_2, tI_3, tI_4, tI_5, tI_6, tI_7, tI_8, tI_20, tI_30, tI_300, tI_400, tI_4095, tI_4096, tI_m1, tI_m2, tI_m3, tI_m9] at k_5 k_9 ⊢ <;> omega)]), by rw [ht]; exact hP9, hD9⟩, hS.F ht⟩) hS.2.2 dX9_level_31
    · have k_10 : ¬ (inR v 0 3) := bI_0 hr_7 c_8
      refine lv_iconst (v := (-1)) hx hb dX9_level_14 (by decide) ?_
      have hP9 := hP.sub (ws' := []) [] rfl
      have hD9 := hD.sub (ws' := []) [] (by decide) rfl
      exact W.iret (v := (-1)) hx hb hr (fun tt_ ht hW => ⟨⟨_, (), rfl, (by rw [okE, if_neg (by simp only [inR, Int32.lt_iff_toInt_lt, Int32.le_iff_toInt_le, ← Int32.toInt_inj, tI_0, tI_1, tI_2, tI_3, tI_4, tI_5, tI_6, tI_7, tI_8, tI_20, tI_30, tI_300, tI_400, tI_4095, tI_4096, tI_m1, tI_m2, tI_m3, tI_m9] at k_5 k_10 ⊢ <;> omega)]), by rw [ht]; exact hP9, hD9⟩, hS.F ht⟩) hS.2.2 dX9_level_15
set_option maxHeartbeats 1000000 in
set_option maxRecDepth 100000 in
theorem c_append (l : Launch) (dC : Nat → ClassId) (dI : Nat → Nat → Nat) (cI cJ cS : ClassId) (sz : Nat) (h : Nat) (b : Int32) (tb : Nat) (k : Nat) (f : Nat → Int32) (hk : k < 300) : Met l yX6_append wsX6_append ({ frames := 0, cells := 0, slots := 0, locals := 0 }) (va_Pc [.ref h, .int b] (PE dC dI cI cJ cS [(h, .inr (6, [.ref tb, .int (nI k)])), (tb, aI cI 300 f)] sz)) (va_Qv (fun (_ : Unit) => True) (BE dC dI (va_A [(h, .inr (6, [.ref tb, .int (nI k)])), (tb, aI cI 300 f)] sz) (fun (_ : Unit) => [(h, .inr (6, [.ref tb, .int (nI (k + 1))])), (tb, aI cI 300 (upd f k b))])) (va_A [(h, .inr (6, [.ref tb, .int (nI k)])), (tb, aI cI 300 f)] sz)) 0 0 (va_A [(h, .inr (6, [.ref tb, .int (nI k)])), (tb, aI cI 300 f)] sz) := by
  refine Met.ofW (cc := cX6_append) (maxL := 2) (ret := none) (by decide) rfl ?_
  intro pp_ ee_ ss_ mm_ args below meth cc_ s₁ B hml hv
  obtain ⟨rfl, hsz, hP, hE, hD0⟩ := hv
  have hx := B.exec
  have hb := B.bytes
  have hr := B.returns
  have hts := atoms_spec (ws := wsX6_append) B.pre
  have hown : ss_.vm.findClass RX6 = some mm_.cls := findClass_of_methodNamed B.named
  have hlocks := B.notSynchronized
  have hK := hE.1
  have hiX6 : ∀ w ∈ wsX60, w ∈ wsX6_append := by decide +kernel
  subst hsz
  have hD := hD0.self (sz := ss_.heap.size)
  generalize hAe : va_A [(h, .inr (6, [.ref tb, .int (nI k)])), (tb, aI cI 300 f)] ss_.heap.size = A at hD ⊢
  have hA : ∀ q : Nat, ss_.heap.size ≤ q → A q := fun q h => by rw [← hAe]; exact Or.inr h
  have hS : va_S A ss_.heap ss_.heap [] := va_S.rf
  have hP : va_P (dC, dI) vwCl [(h, .inr (6, [.ref tb, .int (nI k)])), (tb, aI cI 300 f)] ss_.heap := hP
  have hl := lv_entry ([.ref h, .int b]) (n := 2) (Nat.le_of_ble_eq_true rfl)
  rw [lg_entry_eq]
  generalize (lg_sl ([.ref h, .int b]) ++ List.replicate (2 - (lg_sl ([.ref h, .int b])).length) Slot.unset).toArray = ls at hl ⊢
  have hl : lv_has ls 2 [(0, .ref h), (1, .int b)] := hl
  refine lv_aload_n hx hb dX6_append_0 rfl (lv_at hl 0 rfl) ?_
  refine va_get (D := (dC, dI)) (ci := 6) (v := .int (nI k)) (C := RX6) (T := TX6) (N := 2) hx hb hts hiX6 hown hK hP 0 rfl rfl 1 (by decide) (hts (.fieldLink RX6 15 "WatchedPrograms$Text" "length" "I") (by decide +kernel)) (fun _ h9 => h9) rfl dX6_append_1 ?_
  refine lv_aload_n hx hb dX6_append_4 rfl (lv_at hl 0 rfl) ?_
  refine va_get (D := (dC, dI)) (ci := 6) (v := .ref tb) (C := RX6) (T := TX6) (N := 2) hx hb hts hiX6 hown hK hP 0 rfl rfl 0 (by decide) (hts (.fieldLink RX6 9 "WatchedPrograms$Text" "bytes" "[I") (by decide +kernel)) (fun _ h9 => h9) rfl dX6_append_5 ?_
  refine va_alen hx hb hK hP 1 0 rfl rfl (v := 300) rfl dX6_append_8 ?_
  refine lv_icmp_ge (tgt := 29) hx hb dX6_append_9 (by decide) (fun c_1 => absurd c_1 (show ¬ ((300 : Int32) ≤ nI k) from nI_ge hk (by decide))) (fun _ => ?_)
  refine lv_aload_n hx hb dX6_append_12 rfl (lv_at hl 0 rfl) ?_
  refine va_get (D := (dC, dI)) (ci := 6) (v := .ref tb) (C := RX6) (T := TX6) (N := 2) hx hb hts hiX6 hown hK hP 0 rfl rfl 0 (by decide) (hts (.fieldLink RX6 9 "WatchedPrograms$Text" "bytes" "[I") (by decide +kernel)) (fun _ h9 => h9) rfl dX6_append_13 ?_
  refine lv_aload_n hx hb dX6_append_16 rfl (lv_at hl 0 rfl) ?_
  refine lv_dup hx hb dX6_append_17 rfl ?_
  refine va_get (D := (dC, dI)) (ci := 6) (v := .int (nI k)) (C := RX6) (T := TX6) (N := 2) hx hb hts hiX6 hown hK hP 0 rfl rfl 1 (by decide) (hts (.fieldLink RX6 15 "WatchedPrograms$Text" "length" "I") (by decide +kernel)) (fun _ h9 => h9) rfl dX6_append_18 ?_
  refine lv_dup_x1 hx hb dX6_append_21 rfl rfl ?_
  refine lv_iconst (v := 1) hx hb dX6_append_22 (by decide) ?_
  refine lv_iadd hx hb dX6_append_23 ?_
  refine zi (y := nI (k + 1)) (nI_add k 1) ?_
  refine va_put (D := (dC, dI)) (ci := 6) (v := .int (nI (k + 1))) (ty := .int) (C := RX6) (T := TX6) (N := 2) hx hb hts hiX6 tyX6 tyX6_ok nmX6 hown hK hP hD hS 0 rfl rfl 1 (by decide) (hts (.fieldLink RX6 15 "WatchedPrograms$Text" "length" "I") (by decide +kernel)) (fun _ h9 => h9) rfl (by decide +kernel) rfl rfl (Nat.le_of_ble_eq_true rfl) dX6_append_24 (fun H locs hP hD hS => ?_)
  have hP : va_P (dC, dI) vwCl [(h, .inr (6, [.ref tb, .int (nI (k + 1))])), (tb, aI cI 300 f)] H := hP
  have hD : va_D A [(h, .inr (6, [.ref tb, .int (nI (k + 1))])), (tb, aI cI 300 f)] := hD
  refine lv_iload_n hx hb dX6_append_27 rfl (lv_at hl 1 rfl) ?_
  refine va_iast hx hb hK hP hD hS 1 0 rfl rfl (vp_in_nI (by omega) (by omega)) dX6_append_28 (fun H locs hP hD hS => ?_)
  rw [nI_clamp (by omega)] at hP hD
  have hP : va_P (dC, dI) vwCl [(h, .inr (6, [.ref tb, .int (nI (k + 1))])), (tb, aI cI 300 (upd f k b))] H := hP
  have hD : va_D A [(h, .inr (6, [.ref tb, .int (nI (k + 1))])), (tb, aI cI 300 (upd f k b))] := hD
  have hP9 := hP.sub (ws' := [(h, .inr (6, [.ref tb, .int (nI (k + 1))])), (tb, aI cI 300 (upd f k b))]) [0, 1] rfl
  have hD9 := hD.sub (ws' := [(h, .inr (6, [.ref tb, .int (nI (k + 1))])), (tb, aI cI 300 (upd f k b))]) [0, 1] (by decide) rfl
  exact W.vret hx hb hr (fun tt_ ht hW => ⟨⟨(), rfl, trivial, by rw [ht]; exact hP9, hD9⟩, hS.F ht⟩) hS.2.2 dX6_append_29
set_option maxHeartbeats 1000000 in
set_option maxRecDepth 100000 in
theorem c_type (l : Launch) (dC : Nat → ClassId) (dI : Nat → Nat → Nat) (cI cJ cS : ClassId) (sz : Nat) (h : Nat) (v : Int64) (n : Int32) (x1 : Nat) (x2 : Nat) (x3 : Nat) (x4 : Nat) (x5 : Nat) (x6 : Nat) (x7 : Nat) (xb : Nat)  : Met l yX9_type wsX9_type ({ frames := 1, cells := 0, slots := 0, locals := 21 }) (va_Pc [.ref h, .long v, .int n] (PE dC dI cI cJ cS [(h, .inr (9, [.ref x1, .ref x2, .ref x3, .ref x4, .ref x5, .ref x6, .ref x7])), (x2, .inr (6, [.ref xb, .int 0])), (xb, aI cI 300 (fun _ => 0))] sz)) (va_Qi (fun (r : Int32) (_ : Unit) => r = okE (inR n 1 8) n) (BE dC dI (va_A [(h, .inr (9, [.ref x1, .ref x2, .ref x3, .ref x4, .ref x5, .ref x6, .ref x7])), (x2, .inr (6, [.ref xb, .int 0])), (xb, aI cI 300 (fun _ => 0))] sz) (fun (_ : Unit) => [])) (va_A [(h, .inr (9, [.ref x1, .ref x2, .ref x3, .ref x4, .ref x5, .ref x6, .ref x7])), (x2, .inr (6, [.ref xb, .int 0])), (xb, aI cI 300 (fun _ => 0))] sz)) 0 0 (va_A [(h, .inr (9, [.ref x1, .ref x2, .ref x3, .ref x4, .ref x5, .ref x6, .ref x7])), (x2, .inr (6, [.ref xb, .int 0])), (xb, aI cI 300 (fun _ => 0))] sz) := by
  refine Met.ofW (cc := cX9_type) (maxL := 5) (ret := (some .int)) (by decide) rfl ?_
  intro pp_ ee_ ss_ mm_ args below meth cc_ s₁ B hml hv
  obtain ⟨rfl, hsz, hP, hE, hD0⟩ := hv
  have hx := B.exec
  have hb := B.bytes
  have hr := B.returns
  have hts := atoms_spec (ws := wsX9_type) B.pre
  have hown : ss_.vm.findClass RX9 = some mm_.cls := findClass_of_methodNamed B.named
  have hlocks := B.notSynchronized
  have hK := hE.1
  have hiX6 : ∀ w ∈ wsX60, w ∈ wsX9_type := by decide +kernel
  have hiX9 : ∀ w ∈ wsX90, w ∈ wsX9_type := by decide +kernel
  subst hsz
  have hD := hD0.self (sz := ss_.heap.size)
  generalize hAe : va_A [(h, .inr (9, [.ref x1, .ref x2, .ref x3, .ref x4, .ref x5, .ref x6, .ref x7])), (x2, .inr (6, [.ref xb, .int 0])), (xb, aI cI 300 (fun _ => 0))] ss_.heap.size = A at hD ⊢
  have hA : ∀ q : Nat, ss_.heap.size ≤ q → A q := fun q h => by rw [← hAe]; exact Or.inr h
  have hS : va_S A ss_.heap ss_.heap [] := va_S.rf
  have hP : va_P (dC, dI) vwCl [(h, .inr (9, [.ref x1, .ref x2, .ref x3, .ref x4, .ref x5, .ref x6, .ref x7])), (x2, .inr (6, [.ref xb, .int 0])), (xb, aI cI 300 (fun _ => 0))] ss_.heap := hP
  have hl := lv_entry ([.ref h, .long v, .int n]) (n := 5) (Nat.le_of_ble_eq_true rfl)
  rw [lg_entry_eq]
  generalize (lg_sl ([.ref h, .long v, .int n]) ++ List.replicate (5 - (lg_sl ([.ref h, .long v, .int n])).length) Slot.unset).toArray = ls at hl ⊢
  have hl : lv_has ls 5 [(0, .ref h), (1, .long v), (3, .int n)] := hl
  refine lv_iload_n hx hb dX9_type_0 rfl (lv_at hl 2 rfl) ?_
  refine lv_iconst (v := 1) hx hb dX9_type_1 (by decide) ?_
  refine lv_icmp_lt (tgt := 11) hx hb dX9_type_2 (by decide) (fun c_1 => ?_) (fun c_1 => ?_)
  · refine lv_iconst (v := (-1)) hx hb dX9_type_11 (by decide) ?_
    have hP9 := hP.sub (ws' := []) [] rfl
    have hD9 := hD.sub (ws' := []) [] (by decide) rfl
    exact W.iret (v := (-1)) hx hb hr (fun tt_ ht hW => ⟨⟨_, (), rfl, (by rw [okE, if_neg (by simp only [inR, Int32.lt_iff_toInt_lt, Int32.le_iff_toInt_le, ← Int32.toInt_inj, tI_0, tI_1, tI_2, tI_3, tI_4, tI_5, tI_6, tI_7, tI_8, tI_20, tI_30, tI_300, tI_400, tI_4095, tI_4096, tI_m1, tI_m2, tI_m3, tI_m9] at c_1 ⊢ <;> omega)]), by rw [ht]; exact hP9, hD9⟩, hS.F ht⟩) hS.2.2 dX9_type_12
  · refine lv_iload_n hx hb dX9_type_5 rfl (lv_at hl 2 rfl) ?_
    refine lv_bipush (v := 8) hx hb dX9_type_6 (by decide) ?_
    refine lv_icmp_le (tgt := 13) hx hb dX9_type_8 (by decide) (fun c_2 => ?_) (fun c_2 => ?_)
    · obtain ⟨N, hN1, hN8, rfl⟩ := inR_nat (n := n) (by simp only [inR, Int32.lt_iff_toInt_lt, Int32.le_iff_toInt_le, ← Int32.toInt_inj, tI_0, tI_1, tI_2, tI_3, tI_4, tI_5, tI_6, tI_7, tI_8, tI_20, tI_30, tI_300, tI_400, tI_4095, tI_4096, tI_m1, tI_m2, tI_m3, tI_m9] at c_1 c_2 ⊢ <;> omega)
      refine lv_aload_n hx hb dX9_type_13 rfl (lv_at hl 0 rfl) ?_
      refine va_get (D := (dC, dI)) (ci := 9) (v := .ref x2) (C := RX9) (T := TX9) (N := 7) hx hb hts hiX9 hown hK hP 0 rfl rfl 1 (by decide) (hts (.fieldLink RX9 16 "WatchedPrograms" "text" "LWatchedPrograms$Text;") (by decide +kernel)) (fun _ h9 => h9) rfl dX9_type_14 ?_
      refine va_get (D := (dC, dI)) (ci := 6) (v := .int 0) (C := RX6) (T := TX6) (N := 2) hx hb hts hiX6 hown hK hP 1 rfl rfl 1 (by decide) (hts (.fieldLink RX9 62 "WatchedPrograms$Text" "length" "I") (by decide +kernel)) (fun _ h9 => h9) rfl dX9_type_17 ?_
      refine lv_iload_n hx hb dX9_type_20 rfl (lv_at hl 2 rfl) ?_
      refine lv_iadd hx hb dX9_type_21 ?_
      refine zi (y := (nI N)) (Int32.zero_add _) ?_
      refine lv_sipush (v := 300) hx hb dX9_type_22 (by decide) ?_
      refine lv_icmp_le (tgt := 31) hx hb dX9_type_25 (by decide) (fun _ => ?_) (fun c_3 => absurd (nI_le (b := 300) (by omega) (by decide)) c_3)
      refine lv_iload_n hx hb dX9_type_31 rfl (lv_at hl 2 rfl) ?_
      refine lv_iconst (v := 1) hx hb dX9_type_32 (by decide) ?_
      refine lv_isub hx hb dX9_type_33 ?_
      refine zi (y := (nI N - 1)) (rfl) ?_
      refine lv_istore (lv' := [(4, .int (nI N - 1)), (0, .ref h), (1, .long v), (3, .int (nI N))]) hx hb dX9_type_34 hl (by decide) rfl (fun ls hl => ?_)
      have loop_36 : ∀ (n : Nat) (i : Nat) (f : Nat → Int32), i + n = N → ∀ (H : Heap) (locs : List Loc), va_P (dC, dI) vwCl [(h, .inr (9, [.ref x1, .ref x2, .ref x3, .ref x4, .ref x5, .ref x6, .ref x7])), (x2, .inr (6, [.ref xb, .int (nI i)])), (xb, aI cI 300 f)] H → va_D A [(h, .inr (9, [.ref x1, .ref x2, .ref x3, .ref x4, .ref x5, .ref x6, .ref x7])), (x2, .inr (6, [.ref xb, .int (nI i)])), (xb, aI cI 300 f)] → va_S A ss_.heap H locs → ∀ ls : Array Slot, lv_has ls 5 [(4, .int (nI n - 1)), (0, .ref h), (1, .long v)] → W pp_ l ee_ (headSpec wsX9_type ({ frames := 1, cells := 0, slots := 0, locals := 21 })).room ss_ mm_ #[.ref h, .long v, .int (nI N)] below meth cc_ H locs 0 0 (MQ below (va_Qi (fun (r : Int32) (_ : Unit) => r = okE (inR (nI N) 1 8) (nI N)) (BE dC dI A (fun (_ : Unit) => [])) A) #[.ref h, .long v, .int (nI N)] ss_ 0 0 A) (F0 mm_ 36 ls []) := by
        intro n
        induction n with
        | zero =>
          intro i f hi H locs hP hD hS ls hl
          refine lv_iload hx hb dX9_type_36 (lv_at hl 0 rfl) ?_
          refine lv_if_lt (tgt := 66) hx hb dX9_type_38 (by decide) (fun _ => ?_) (fun c_4 => absurd (by decide) c_4)
          refine lv_aload_n hx hb dX9_type_66 rfl (lv_at hl 1 rfl) ?_
          refine va_get (D := (dC, dI)) (ci := 9) (v := .ref x2) (C := RX9) (T := TX9) (N := 7) hx hb hts hiX9 hown hK hP 0 rfl rfl 1 (by decide) (hts (.fieldLink RX9 16 "WatchedPrograms" "text" "LWatchedPrograms$Text;") (by decide +kernel)) (fun _ h9 => h9) rfl dX9_type_67 ?_
          refine va_get (D := (dC, dI)) (ci := 6) (v := .int (nI i)) (C := RX6) (T := TX6) (N := 2) hx hb hts hiX6 hown hK hP 1 rfl rfl 1 (by decide) (hts (.fieldLink RX9 62 "WatchedPrograms$Text" "length" "I") (by decide +kernel)) (fun _ h9 => h9) rfl dX9_type_70 ?_
          have hP9 := hP.sub (ws' := []) [] rfl
          have hD9 := hD.sub (ws' := []) [] (by decide) rfl
          exact W.iret (v := (nI i)) hx hb hr (fun tt_ ht hW => ⟨⟨_, (), rfl, (by rw [okE, if_pos (inR_of_nat hN1 hN8)]; exact congrArg nI (by omega)), by rw [ht]; exact hP9, hD9⟩, hS.F ht⟩) hS.2.2 dX9_type_73
        | succ n ih =>
          intro i f hi H locs hP hD hS ls hl
          rw [nI_pred] at hl
          refine lv_iload hx hb dX9_type_36 (lv_at hl 0 rfl) ?_
          refine lv_if_lt (tgt := 66) hx hb dX9_type_38 (by decide) (fun c_5 => absurd c_5 (nI_pos (n := n) (by omega))) (fun _ => ?_)
          refine lv_aload_n hx hb dX9_type_41 rfl (lv_at hl 1 rfl) ?_
          refine va_get (D := (dC, dI)) (ci := 9) (v := .ref x2) (C := RX9) (T := TX9) (N := 7) hx hb hts hiX9 hown hK hP 0 rfl rfl 1 (by decide) (hts (.fieldLink RX9 16 "WatchedPrograms" "text" "LWatchedPrograms$Text;") (by decide +kernel)) (fun _ h9 => h9) rfl dX9_type_42 ?_
          refine lv_lload_n hx hb dX9_type_45 rfl (lv_at hl 2 rfl) ?_
          refine lv_bipush (v := 8) hx hb dX9_type_46 (by decide) ?_
          refine lv_iload hx hb dX9_type_48 (lv_at hl 0 rfl) ?_
          refine lv_imul hx hb dX9_type_50 ?_
          refine lv_lushr (v := ((v).toUInt64 >>> (((8 * (nI n))).toInt64.toUInt64 &&& Int64.toUInt64 63)).toInt64) hx hb dX9_type_51 rfl ?_
          refine lv_l2i (v := (((v).toUInt64 >>> (((8 * (nI n))).toInt64.toUInt64 &&& Int64.toUInt64 63)).toInt64).toInt32) hx hb dX9_type_52 rfl ?_
          refine lv_sipush (v := 255) hx hb dX9_type_53 (by decide) ?_
          refine lv_iand hx hb dX9_type_56 ?_
          have hFc := va_free (wc := [(x2, .inr (6, [.ref xb, .int (nI i)])), (xb, aI cI 300 f)]) hD hS hA [1, 2] rfl
          refine zCv (wr := [(h, .inr (9, [.ref x1, .ref x2, .ref x3, .ref x4, .ref x5, .ref x6, .ref x7]))]) hP hD hS hFc [1, 2] [0] rfl rfl (by decide) (by decide) (va_runV (As := [.int ((((v).toUInt64 >>> (((8 * (nI n))).toInt64.toUInt64 &&& Int64.toUInt64 63)).toInt64).toInt32 &&& 255)]) (rest := []) ⟨hx, hb, hml, hown, hts⟩ (c_append l dC dI cI cJ cS H.size x2 ((((v).toUInt64 >>> (((8 * (nI n))).toInt64.toUInt64 &&& Int64.toUInt64 63)).toInt64).toInt32 &&& 255) xb i f (by first | decide | assumption | omega)) (cwV 1 hts gX9_type_X6_append rfl rfl rfl (by decide +kernel) ⟨Nat.le_of_ble_eq_true rfl, Nat.le_of_ble_eq_true rfl⟩) (preEV (hP.sub (ws' := [(x2, .inr (6, [.ref xb, .int (nI i)])), (xb, aI cI 300 f)]) [1, 2] rfl) hE (hD.sub (ws' := [(x2, .inr (6, [.ref xb, .int (nI i)])), (xb, aI cI 300 f)]) [1, 2] (by decide) rfl) 0 (ci := 6) rfl rfl) rfl rfl hl.1 rfl (lv_room (Nat.le_of_ble_eq_true rfl)) dX9_type_57 ⟨by decide +kernel, by decide +kernel⟩) (fun u_8 H locs hr_7 hP hD hS => ?_)
          try dsimp only at hr_7
          have hP : va_P (dC, dI) vwCl [(h, .inr (9, [.ref x1, .ref x2, .ref x3, .ref x4, .ref x5, .ref x6, .ref x7])), (x2, .inr (6, [.ref xb, .int (nI (i + 1))])), (xb, aI cI 300 (upd f i ((((v).toUInt64 >>> (((8 * (nI n))).toInt64.toUInt64 &&& Int64.toUInt64 63)).toInt64).toInt32 &&& 255)))] H := hP
          have hD : va_D A [(h, .inr (9, [.ref x1, .ref x2, .ref x3, .ref x4, .ref x5, .ref x6, .ref x7])), (x2, .inr (6, [.ref xb, .int (nI (i + 1))])), (xb, aI cI 300 (upd f i ((((v).toUInt64 >>> (((8 * (nI n))).toInt64.toUInt64 &&& Int64.toUInt64 63)).toInt64).toInt32 &&& 255)))] := hD
          refine lv_iinc (v := (nI n - 1)) (lv' := [(4, .int (nI n - 1)), (0, .ref h), (1, .long v)]) hx hb dX9_type_60 hl (k := 0) rfl (by rw [Int32.sub_eq_add_neg]; rfl) (by decide) rfl (fun ls hl => ?_)
          refine lv_goto (tgt := 36) hx hb dX9_type_63 (by decide) ?_
          exact ih  (i + 1) (upd f i ((((v).toUInt64 >>> (((8 * (nI n))).toInt64.toUInt64 &&& Int64.toUInt64 63)).toInt64).toInt32 &&& 255)) (by omega) _ _ (hP.sub (ws' := [(h, .inr (9, [.ref x1, .ref x2, .ref x3, .ref x4, .ref x5, .ref x6, .ref x7])), (x2, .inr (6, [.ref xb, .int (nI (i + 1))])), (xb, aI cI 300 (upd f i ((((v).toUInt64 >>> (((8 * (nI n))).toInt64.toUInt64 &&& Int64.toUInt64 63)).toInt64).toInt32 &&& 255)))]) [0, 1, 2] rfl) (hD.sub (ws' := [(h, .inr (9, [.ref x1, .ref x2, .ref x3, .ref x4, .ref x5, .ref x6, .ref x7])), (x2, .inr (6, [.ref xb, .int (nI (i + 1))])), (xb, aI cI 300 (upd f i ((((v).toUInt64 >>> (((8 * (nI n))).toInt64.toUInt64 &&& Int64.toUInt64 63)).toInt64).toInt32 &&& 255)))]) [0, 1, 2] (by decide) rfl) hS ls (lv_sub hl [0, 1, 2] rfl)
      exact loop_36 N 0 (fun _ => 0) (by omega) _ _ (hP.sub (ws' := [(h, .inr (9, [.ref x1, .ref x2, .ref x3, .ref x4, .ref x5, .ref x6, .ref x7])), (x2, .inr (6, [.ref xb, .int (nI 0)])), (xb, aI cI 300 (fun _ => 0))]) [0, 1, 2] rfl) (hD.sub (ws' := [(h, .inr (9, [.ref x1, .ref x2, .ref x3, .ref x4, .ref x5, .ref x6, .ref x7])), (x2, .inr (6, [.ref xb, .int (nI 0)])), (xb, aI cI 300 (fun _ => 0))]) [0, 1, 2] (by decide) rfl) hS ls (lv_sub hl [0, 1, 2] rfl)
    · refine lv_iconst (v := (-1)) hx hb dX9_type_11 (by decide) ?_
      have hP9 := hP.sub (ws' := []) [] rfl
      have hD9 := hD.sub (ws' := []) [] (by decide) rfl
      exact W.iret (v := (-1)) hx hb hr (fun tt_ ht hW => ⟨⟨_, (), rfl, (by rw [okE, if_neg (by simp only [inR, Int32.lt_iff_toInt_lt, Int32.le_iff_toInt_le, ← Int32.toInt_inj, tI_0, tI_1, tI_2, tI_3, tI_4, tI_5, tI_6, tI_7, tI_8, tI_20, tI_30, tI_300, tI_400, tI_4095, tI_4096, tI_m1, tI_m2, tI_m3, tI_m9] at c_1 c_2 ⊢ <;> omega)]), by rw [ht]; exact hP9, hD9⟩, hS.F ht⟩) hS.2.2 dX9_type_12
set_option maxHeartbeats 1000000 in
set_option maxRecDepth 100000 in
theorem c_clear (l : Launch) (dC : Nat → ClassId) (dI : Nat → Nat → Nat) (cI cJ cS : ClassId) (sz : Nat) (h : Nat) (x1 : Nat) (x2 : Nat) (x3 : Nat) (x4 : Nat) (x5 : Nat) (x6 : Nat) (x7 : Nat) (xb : Nat)  : Met l yX9_clear wsX9_clear ({ frames := 0, cells := 0, slots := 0, locals := 0 }) (va_Pc [.ref h] (PE dC dI cI cJ cS [(h, .inr (9, [.ref x1, .ref x2, .ref x3, .ref x4, .ref x5, .ref x6, .ref x7])), (x2, .inr (6, [.ref xb, .int 0]))] sz)) (va_Qi (fun (r : Int32) (_ : Unit) => r = 0) (BE dC dI (va_A [(h, .inr (9, [.ref x1, .ref x2, .ref x3, .ref x4, .ref x5, .ref x6, .ref x7])), (x2, .inr (6, [.ref xb, .int 0]))] sz) (fun (_ : Unit) => [])) (va_A [(h, .inr (9, [.ref x1, .ref x2, .ref x3, .ref x4, .ref x5, .ref x6, .ref x7])), (x2, .inr (6, [.ref xb, .int 0]))] sz)) 0 0 (va_A [(h, .inr (9, [.ref x1, .ref x2, .ref x3, .ref x4, .ref x5, .ref x6, .ref x7])), (x2, .inr (6, [.ref xb, .int 0]))] sz) := by
  refine Met.ofW (cc := cX9_clear) (maxL := 2) (ret := (some .int)) (by decide) rfl ?_
  intro pp_ ee_ ss_ mm_ args below meth cc_ s₁ B hml hv
  obtain ⟨rfl, hsz, hP, hE, hD0⟩ := hv
  have hx := B.exec
  have hb := B.bytes
  have hr := B.returns
  have hts := atoms_spec (ws := wsX9_clear) B.pre
  have hown : ss_.vm.findClass RX9 = some mm_.cls := findClass_of_methodNamed B.named
  have hlocks := B.notSynchronized
  have hK := hE.1
  have hiX6 : ∀ w ∈ wsX60, w ∈ wsX9_clear := by decide +kernel
  have hiX9 : ∀ w ∈ wsX90, w ∈ wsX9_clear := by decide +kernel
  subst hsz
  have hD := hD0.self (sz := ss_.heap.size)
  generalize hAe : va_A [(h, .inr (9, [.ref x1, .ref x2, .ref x3, .ref x4, .ref x5, .ref x6, .ref x7])), (x2, .inr (6, [.ref xb, .int 0]))] ss_.heap.size = A at hD ⊢
  have hA : ∀ q : Nat, ss_.heap.size ≤ q → A q := fun q h => by rw [← hAe]; exact Or.inr h
  have hS : va_S A ss_.heap ss_.heap [] := va_S.rf
  have hP : va_P (dC, dI) vwCl [(h, .inr (9, [.ref x1, .ref x2, .ref x3, .ref x4, .ref x5, .ref x6, .ref x7])), (x2, .inr (6, [.ref xb, .int 0]))] ss_.heap := hP
  have hl := lv_entry ([.ref h]) (n := 2) (Nat.le_of_ble_eq_true rfl)
  rw [lg_entry_eq]
  generalize (lg_sl ([.ref h]) ++ List.replicate (2 - (lg_sl ([.ref h])).length) Slot.unset).toArray = ls at hl ⊢
  have hl : lv_has ls 2 [(0, .ref h)] := hl
  refine lv_aload_n hx hb dX9_clear_0 rfl (lv_at hl 0 rfl) ?_
  refine va_get (D := (dC, dI)) (ci := 9) (v := .ref x2) (C := RX9) (T := TX9) (N := 7) hx hb hts hiX9 hown hK hP 0 rfl rfl 1 (by decide) (hts (.fieldLink RX9 16 "WatchedPrograms" "text" "LWatchedPrograms$Text;") (by decide +kernel)) (fun _ h9 => h9) rfl dX9_clear_1 ?_
  refine va_get (D := (dC, dI)) (ci := 6) (v := .int 0) (C := RX6) (T := TX6) (N := 2) hx hb hts hiX6 hown hK hP 1 rfl rfl 1 (by decide) (hts (.fieldLink RX9 62 "WatchedPrograms$Text" "length" "I") (by decide +kernel)) (fun _ h9 => h9) rfl dX9_clear_4 ?_
  refine lv_istore_n (lv' := [(1, .int 0), (0, .ref h)]) hx hb dX9_clear_7 rfl hl (by decide) rfl (fun ls hl => ?_)
  refine lv_aload_n hx hb dX9_clear_8 rfl (lv_at hl 1 rfl) ?_
  refine va_get (D := (dC, dI)) (ci := 9) (v := .ref x2) (C := RX9) (T := TX9) (N := 7) hx hb hts hiX9 hown hK hP 0 rfl rfl 1 (by decide) (hts (.fieldLink RX9 16 "WatchedPrograms" "text" "LWatchedPrograms$Text;") (by decide +kernel)) (fun _ h9 => h9) rfl dX9_clear_9 ?_
  refine lv_iconst (v := 0) hx hb dX9_clear_12 (by decide) ?_
  refine va_put (D := (dC, dI)) (ci := 6) (v := .int 0) (ty := .int) (C := RX6) (T := TX6) (N := 2) hx hb hts hiX6 tyX6 tyX6_ok nmX6 hown hK hP hD hS 1 rfl rfl 1 (by decide) (hts (.fieldLink RX9 62 "WatchedPrograms$Text" "length" "I") (by decide +kernel)) (fun _ h9 => h9) rfl (by decide +kernel) rfl rfl (Nat.le_of_ble_eq_true rfl) dX9_clear_13 (fun H locs hP hD hS => ?_)
  have hP : va_P (dC, dI) vwCl [(h, .inr (9, [.ref x1, .ref x2, .ref x3, .ref x4, .ref x5, .ref x6, .ref x7])), (x2, .inr (6, [.ref xb, .int 0]))] H := hP
  have hD : va_D A [(h, .inr (9, [.ref x1, .ref x2, .ref x3, .ref x4, .ref x5, .ref x6, .ref x7])), (x2, .inr (6, [.ref xb, .int 0]))] := hD
  refine lv_iload_n hx hb dX9_clear_16 rfl (lv_at hl 0 rfl) ?_
  have hP9 := hP.sub (ws' := []) [] rfl
  have hD9 := hD.sub (ws' := []) [] (by decide) rfl
  exact W.iret (v := 0) hx hb hr (fun tt_ ht hW => ⟨⟨_, (), rfl, rfl, by rw [ht]; exact hP9, hD9⟩, hS.F ht⟩) hS.2.2 dX9_clear_17
set_option maxHeartbeats 1000000 in
set_option maxRecDepth 100000 in
theorem c_preset (l : Launch) (dC : Nat → ClassId) (dI : Nat → Nat → Nat) (cI cJ cS : ClassId) (sz : Nat) (h : Nat) (s : Nat) (c : Nat)  : Met l yX4_reset wsX4_reset ({ frames := 0, cells := 0, slots := 0, locals := 0 }) (va_Pc [.ref h] (PE dC dI cI cJ cS [(h, .inr (4, [.ref s, .ref c, .int 0, .int 0, .int 0, .int 0]))] sz)) (va_Qv (fun (_ : Unit) => True) (BE dC dI (va_A [(h, .inr (4, [.ref s, .ref c, .int 0, .int 0, .int 0, .int 0]))] sz) (fun (_ : Unit) => [(h, .inr (4, [.ref s, .ref c, .int 0, .int 0, .int 0, .int 0]))])) (va_A [(h, .inr (4, [.ref s, .ref c, .int 0, .int 0, .int 0, .int 0]))] sz)) 0 0 (va_A [(h, .inr (4, [.ref s, .ref c, .int 0, .int 0, .int 0, .int 0]))] sz) := by
  refine Met.ofW (cc := cX4_reset) (maxL := 1) (ret := none) (by decide) rfl ?_
  intro pp_ ee_ ss_ mm_ args below meth cc_ s₁ B hml hv
  obtain ⟨rfl, hsz, hP, hE, hD0⟩ := hv
  have hx := B.exec
  have hb := B.bytes
  have hr := B.returns
  have hts := atoms_spec (ws := wsX4_reset) B.pre
  have hown : ss_.vm.findClass RX4 = some mm_.cls := findClass_of_methodNamed B.named
  have hlocks := B.notSynchronized
  have hK := hE.1
  have hiX4 : ∀ w ∈ wsX40, w ∈ wsX4_reset := by decide +kernel
  subst hsz
  have hD := hD0.self (sz := ss_.heap.size)
  generalize hAe : va_A [(h, .inr (4, [.ref s, .ref c, .int 0, .int 0, .int 0, .int 0]))] ss_.heap.size = A at hD ⊢
  have hA : ∀ q : Nat, ss_.heap.size ≤ q → A q := fun q h => by rw [← hAe]; exact Or.inr h
  have hS : va_S A ss_.heap ss_.heap [] := va_S.rf
  have hP : va_P (dC, dI) vwCl [(h, .inr (4, [.ref s, .ref c, .int 0, .int 0, .int 0, .int 0]))] ss_.heap := hP
  have hl := lv_entry ([.ref h]) (n := 1) (Nat.le_of_ble_eq_true rfl)
  rw [lg_entry_eq]
  generalize (lg_sl ([.ref h]) ++ List.replicate (1 - (lg_sl ([.ref h])).length) Slot.unset).toArray = ls at hl ⊢
  have hl : lv_has ls 1 [(0, .ref h)] := hl
  refine lv_aload_n hx hb dX4_reset_0 rfl (lv_at hl 0 rfl) ?_
  refine lv_iconst (v := 0) hx hb dX4_reset_1 (by decide) ?_
  refine va_put (D := (dC, dI)) (ci := 4) (v := .int 0) (ty := .int) (C := RX4) (T := TX4) (N := 6) hx hb hts hiX4 tyX4 tyX4_ok nmX4 hown hK hP hD hS 0 rfl rfl 2 (by decide) (hts (.fieldLink RX4 22 "WatchedPrograms$Program" "size" "I") (by decide +kernel)) (fun _ h9 => h9) rfl (by decide +kernel) rfl rfl (Nat.le_of_ble_eq_true rfl) dX4_reset_2 (fun H locs hP hD hS => ?_)
  have hP : va_P (dC, dI) vwCl [(h, .inr (4, [.ref s, .ref c, .int 0, .int 0, .int 0, .int 0]))] H := hP
  have hD : va_D A [(h, .inr (4, [.ref s, .ref c, .int 0, .int 0, .int 0, .int 0]))] := hD
  refine lv_aload_n hx hb dX4_reset_5 rfl (lv_at hl 0 rfl) ?_
  refine lv_iconst (v := 0) hx hb dX4_reset_6 (by decide) ?_
  refine va_put (D := (dC, dI)) (ci := 4) (v := .int 0) (ty := .int) (C := RX4) (T := TX4) (N := 6) hx hb hts hiX4 tyX4 tyX4_ok nmX4 hown hK hP hD hS 0 rfl rfl 3 (by decide) (hts (.fieldLink RX4 26 "WatchedPrograms$Program" "codeSize" "I") (by decide +kernel)) (fun _ h9 => h9) rfl (by decide +kernel) rfl rfl (Nat.le_of_ble_eq_true rfl) dX4_reset_7 (fun H locs hP hD hS => ?_)
  have hP : va_P (dC, dI) vwCl [(h, .inr (4, [.ref s, .ref c, .int 0, .int 0, .int 0, .int 0]))] H := hP
  have hD : va_D A [(h, .inr (4, [.ref s, .ref c, .int 0, .int 0, .int 0, .int 0]))] := hD
  refine lv_aload_n hx hb dX4_reset_10 rfl (lv_at hl 0 rfl) ?_
  refine lv_iconst (v := 0) hx hb dX4_reset_11 (by decide) ?_
  refine va_put (D := (dC, dI)) (ci := 4) (v := .int 0) (ty := .int) (C := RX4) (T := TX4) (N := 6) hx hb hts hiX4 tyX4 tyX4_ok nmX4 hown hK hP hD hS 0 rfl rfl 4 (by decide) (hts (.fieldLink RX4 29 "WatchedPrograms$Program" "outs" "I") (by decide +kernel)) (fun _ h9 => h9) rfl (by decide +kernel) rfl rfl (Nat.le_of_ble_eq_true rfl) dX4_reset_12 (fun H locs hP hD hS => ?_)
  have hP : va_P (dC, dI) vwCl [(h, .inr (4, [.ref s, .ref c, .int 0, .int 0, .int 0, .int 0]))] H := hP
  have hD : va_D A [(h, .inr (4, [.ref s, .ref c, .int 0, .int 0, .int 0, .int 0]))] := hD
  refine lv_aload_n hx hb dX4_reset_15 rfl (lv_at hl 0 rfl) ?_
  refine lv_iconst (v := 0) hx hb dX4_reset_16 (by decide) ?_
  refine va_put (D := (dC, dI)) (ci := 4) (v := .int 0) (ty := .int) (C := RX4) (T := TX4) (N := 6) hx hb hts hiX4 tyX4 tyX4_ok nmX4 hown hK hP hD hS 0 rfl rfl 5 (by decide) (hts (.fieldLink RX4 32 "WatchedPrograms$Program" "used" "I") (by decide +kernel)) (fun _ h9 => h9) rfl (by decide +kernel) rfl rfl (Nat.le_of_ble_eq_true rfl) dX4_reset_17 (fun H locs hP hD hS => ?_)
  have hP : va_P (dC, dI) vwCl [(h, .inr (4, [.ref s, .ref c, .int 0, .int 0, .int 0, .int 0]))] H := hP
  have hD : va_D A [(h, .inr (4, [.ref s, .ref c, .int 0, .int 0, .int 0, .int 0]))] := hD
  have hP9 := hP.sub (ws' := [(h, .inr (4, [.ref s, .ref c, .int 0, .int 0, .int 0, .int 0]))]) [0] rfl
  have hD9 := hD.sub (ws' := [(h, .inr (4, [.ref s, .ref c, .int 0, .int 0, .int 0, .int 0]))]) [0] (by decide) rfl
  exact W.vret hx hb hr (fun tt_ ht hW => ⟨⟨(), rfl, trivial, by rw [ht]; exact hP9, hD9⟩, hS.F ht⟩) hS.2.2 dX4_reset_20
set_option maxHeartbeats 1000000 in
set_option maxRecDepth 100000 in
theorem c_tadd (l : Launch) (dC : Nat → ClassId) (dI : Nat → Nat → Nat) (cI cJ cS : ClassId) (sz : Nat) (tk : Nat) (ka : Nat) (kb : Nat) (kc : Nat)  : Met l yX7_add wsX7_add ({ frames := 0, cells := 0, slots := 0, locals := 0 }) (va_Pc [.ref tk, .int 0, .int 0, .int 0] (PE dC dI cI cJ cS [(tk, .inr (7, [.ref ka, .ref kb, .ref kc, .int 0, .int 0, .int 0, .int 0, .int 0])), (ka, aI cI 301 (fun _ => 0)), (kb, aI cI 301 (fun _ => 0)), (kc, aI cI 301 (fun _ => 0))] sz)) (va_Qv (fun (_ : Unit) => True) (BE dC dI (va_A [(tk, .inr (7, [.ref ka, .ref kb, .ref kc, .int 0, .int 0, .int 0, .int 0, .int 0])), (ka, aI cI 301 (fun _ => 0)), (kb, aI cI 301 (fun _ => 0)), (kc, aI cI 301 (fun _ => 0))] sz) (fun (_ : Unit) => [(tk, .inr (7, [.ref ka, .ref kb, .ref kc, .int 1, .int 0, .int 0, .int 0, .int 0])), (ka, aI cI 301 (upd (fun _ => 0) 0 0)), (kb, aI cI 301 (upd (fun _ => 0) 0 0)), (kc, aI cI 301 (upd (fun _ => 0) 0 0))])) (va_A [(tk, .inr (7, [.ref ka, .ref kb, .ref kc, .int 0, .int 0, .int 0, .int 0, .int 0])), (ka, aI cI 301 (fun _ => 0)), (kb, aI cI 301 (fun _ => 0)), (kc, aI cI 301 (fun _ => 0))] sz)) 0 0 (va_A [(tk, .inr (7, [.ref ka, .ref kb, .ref kc, .int 0, .int 0, .int 0, .int 0, .int 0])), (ka, aI cI 301 (fun _ => 0)), (kb, aI cI 301 (fun _ => 0)), (kc, aI cI 301 (fun _ => 0))] sz) := by
  refine Met.ofW (cc := cX7_add) (maxL := 4) (ret := none) (by decide) rfl ?_
  intro pp_ ee_ ss_ mm_ args below meth cc_ s₁ B hml hv
  obtain ⟨rfl, hsz, hP, hE, hD0⟩ := hv
  have hx := B.exec
  have hb := B.bytes
  have hr := B.returns
  have hts := atoms_spec (ws := wsX7_add) B.pre
  have hown : ss_.vm.findClass RX7 = some mm_.cls := findClass_of_methodNamed B.named
  have hlocks := B.notSynchronized
  have hK := hE.1
  have hiX7 : ∀ w ∈ wsX70, w ∈ wsX7_add := by decide +kernel
  subst hsz
  have hD := hD0.self (sz := ss_.heap.size)
  generalize hAe : va_A [(tk, .inr (7, [.ref ka, .ref kb, .ref kc, .int 0, .int 0, .int 0, .int 0, .int 0])), (ka, aI cI 301 (fun _ => 0)), (kb, aI cI 301 (fun _ => 0)), (kc, aI cI 301 (fun _ => 0))] ss_.heap.size = A at hD ⊢
  have hA : ∀ q : Nat, ss_.heap.size ≤ q → A q := fun q h => by rw [← hAe]; exact Or.inr h
  have hS : va_S A ss_.heap ss_.heap [] := va_S.rf
  have hP : va_P (dC, dI) vwCl [(tk, .inr (7, [.ref ka, .ref kb, .ref kc, .int 0, .int 0, .int 0, .int 0, .int 0])), (ka, aI cI 301 (fun _ => 0)), (kb, aI cI 301 (fun _ => 0)), (kc, aI cI 301 (fun _ => 0))] ss_.heap := hP
  have hl := lv_entry ([.ref tk, .int 0, .int 0, .int 0]) (n := 4) (Nat.le_of_ble_eq_true rfl)
  rw [lg_entry_eq]
  generalize (lg_sl ([.ref tk, .int 0, .int 0, .int 0]) ++ List.replicate (4 - (lg_sl ([.ref tk, .int 0, .int 0, .int 0])).length) Slot.unset).toArray = ls at hl ⊢
  have hl : lv_has ls 4 [(0, .ref tk), (1, .int 0), (2, .int 0), (3, .int 0)] := hl
  refine lv_aload_n hx hb dX7_add_0 rfl (lv_at hl 0 rfl) ?_
  refine va_get (D := (dC, dI)) (ci := 7) (v := .int 0) (C := RX7) (T := TX7) (N := 8) hx hb hts hiX7 hown hK hP 0 rfl rfl 3 (by decide) (hts (.fieldLink RX7 21 "WatchedPrograms$Tokens" "many" "I") (by decide +kernel)) (fun _ h9 => h9) rfl dX7_add_1 ?_
  refine lv_aload_n hx hb dX7_add_4 rfl (lv_at hl 0 rfl) ?_
  refine va_get (D := (dC, dI)) (ci := 7) (v := .ref ka) (C := RX7) (T := TX7) (N := 8) hx hb hts hiX7 hown hK hP 0 rfl rfl 0 (by decide) (hts (.fieldLink RX7 9 "WatchedPrograms$Tokens" "kinds" "[I") (by decide +kernel)) (fun _ h9 => h9) rfl dX7_add_5 ?_
  refine va_alen hx hb hK hP 1 0 rfl rfl (v := 301) rfl dX7_add_8 ?_
  refine lv_icmp_lt (tgt := 13) hx hb dX7_add_9 (by decide) (fun _ => ?_) (fun c_1 => absurd (by decide) c_1)
  refine lv_aload_n hx hb dX7_add_13 rfl (lv_at hl 0 rfl) ?_
  refine va_get (D := (dC, dI)) (ci := 7) (v := .ref ka) (C := RX7) (T := TX7) (N := 8) hx hb hts hiX7 hown hK hP 0 rfl rfl 0 (by decide) (hts (.fieldLink RX7 9 "WatchedPrograms$Tokens" "kinds" "[I") (by decide +kernel)) (fun _ h9 => h9) rfl dX7_add_14 ?_
  refine lv_aload_n hx hb dX7_add_17 rfl (lv_at hl 0 rfl) ?_
  refine va_get (D := (dC, dI)) (ci := 7) (v := .int 0) (C := RX7) (T := TX7) (N := 8) hx hb hts hiX7 hown hK hP 0 rfl rfl 3 (by decide) (hts (.fieldLink RX7 21 "WatchedPrograms$Tokens" "many" "I") (by decide +kernel)) (fun _ h9 => h9) rfl dX7_add_18 ?_
  refine lv_iload_n hx hb dX7_add_21 rfl (lv_at hl 1 rfl) ?_
  refine va_iast hx hb hK hP hD hS 1 0 rfl rfl (by unfold vp_in; decide) dX7_add_22 (fun H locs hP hD hS => ?_)
  have hP : va_P (dC, dI) vwCl [(tk, .inr (7, [.ref ka, .ref kb, .ref kc, .int 0, .int 0, .int 0, .int 0, .int 0])), (ka, aI cI 301 (upd (fun _ => 0) 0 0)), (kb, aI cI 301 (fun _ => 0)), (kc, aI cI 301 (fun _ => 0))] H := hP
  have hD : va_D A [(tk, .inr (7, [.ref ka, .ref kb, .ref kc, .int 0, .int 0, .int 0, .int 0, .int 0])), (ka, aI cI 301 (upd (fun _ => 0) 0 0)), (kb, aI cI 301 (fun _ => 0)), (kc, aI cI 301 (fun _ => 0))] := hD
  refine lv_aload_n hx hb dX7_add_23 rfl (lv_at hl 0 rfl) ?_
  refine va_get (D := (dC, dI)) (ci := 7) (v := .ref kb) (C := RX7) (T := TX7) (N := 8) hx hb hts hiX7 hown hK hP 0 rfl rfl 1 (by decide) (hts (.fieldLink RX7 15 "WatchedPrograms$Tokens" "values" "[I") (by decide +kernel)) (fun _ h9 => h9) rfl dX7_add_24 ?_
  refine lv_aload_n hx hb dX7_add_27 rfl (lv_at hl 0 rfl) ?_
  refine va_get (D := (dC, dI)) (ci := 7) (v := .int 0) (C := RX7) (T := TX7) (N := 8) hx hb hts hiX7 hown hK hP 0 rfl rfl 3 (by decide) (hts (.fieldLink RX7 21 "WatchedPrograms$Tokens" "many" "I") (by decide +kernel)) (fun _ h9 => h9) rfl dX7_add_28 ?_
  refine lv_iload_n hx hb dX7_add_31 rfl (lv_at hl 2 rfl) ?_
  refine va_iast hx hb hK hP hD hS 2 0 rfl rfl (by unfold vp_in; decide) dX7_add_32 (fun H locs hP hD hS => ?_)
  have hP : va_P (dC, dI) vwCl [(tk, .inr (7, [.ref ka, .ref kb, .ref kc, .int 0, .int 0, .int 0, .int 0, .int 0])), (ka, aI cI 301 (upd (fun _ => 0) 0 0)), (kb, aI cI 301 (upd (fun _ => 0) 0 0)), (kc, aI cI 301 (fun _ => 0))] H := hP
  have hD : va_D A [(tk, .inr (7, [.ref ka, .ref kb, .ref kc, .int 0, .int 0, .int 0, .int 0, .int 0])), (ka, aI cI 301 (upd (fun _ => 0) 0 0)), (kb, aI cI 301 (upd (fun _ => 0) 0 0)), (kc, aI cI 301 (fun _ => 0))] := hD
  refine lv_aload_n hx hb dX7_add_33 rfl (lv_at hl 0 rfl) ?_
  refine va_get (D := (dC, dI)) (ci := 7) (v := .ref kc) (C := RX7) (T := TX7) (N := 8) hx hb hts hiX7 hown hK hP 0 rfl rfl 2 (by decide) (hts (.fieldLink RX7 18 "WatchedPrograms$Tokens" "places" "[I") (by decide +kernel)) (fun _ h9 => h9) rfl dX7_add_34 ?_
  refine lv_aload_n hx hb dX7_add_37 rfl (lv_at hl 0 rfl) ?_
  refine va_get (D := (dC, dI)) (ci := 7) (v := .int 0) (C := RX7) (T := TX7) (N := 8) hx hb hts hiX7 hown hK hP 0 rfl rfl 3 (by decide) (hts (.fieldLink RX7 21 "WatchedPrograms$Tokens" "many" "I") (by decide +kernel)) (fun _ h9 => h9) rfl dX7_add_38 ?_
  refine lv_iload_n hx hb dX7_add_41 rfl (lv_at hl 3 rfl) ?_
  refine va_iast hx hb hK hP hD hS 3 0 rfl rfl (by unfold vp_in; decide) dX7_add_42 (fun H locs hP hD hS => ?_)
  have hP : va_P (dC, dI) vwCl [(tk, .inr (7, [.ref ka, .ref kb, .ref kc, .int 0, .int 0, .int 0, .int 0, .int 0])), (ka, aI cI 301 (upd (fun _ => 0) 0 0)), (kb, aI cI 301 (upd (fun _ => 0) 0 0)), (kc, aI cI 301 (upd (fun _ => 0) 0 0))] H := hP
  have hD : va_D A [(tk, .inr (7, [.ref ka, .ref kb, .ref kc, .int 0, .int 0, .int 0, .int 0, .int 0])), (ka, aI cI 301 (upd (fun _ => 0) 0 0)), (kb, aI cI 301 (upd (fun _ => 0) 0 0)), (kc, aI cI 301 (upd (fun _ => 0) 0 0))] := hD
  refine lv_aload_n hx hb dX7_add_43 rfl (lv_at hl 0 rfl) ?_
  refine lv_dup hx hb dX7_add_44 rfl ?_
  refine va_get (D := (dC, dI)) (ci := 7) (v := .int 0) (C := RX7) (T := TX7) (N := 8) hx hb hts hiX7 hown hK hP 0 rfl rfl 3 (by decide) (hts (.fieldLink RX7 21 "WatchedPrograms$Tokens" "many" "I") (by decide +kernel)) (fun _ h9 => h9) rfl dX7_add_45 ?_
  refine lv_iconst (v := 1) hx hb dX7_add_48 (by decide) ?_
  refine lv_iadd hx hb dX7_add_49 ?_
  refine zi (y := 1) (by decide) ?_
  refine va_put (D := (dC, dI)) (ci := 7) (v := .int 1) (ty := .int) (C := RX7) (T := TX7) (N := 8) hx hb hts hiX7 tyX7 tyX7_ok nmX7 hown hK hP hD hS 0 rfl rfl 3 (by decide) (hts (.fieldLink RX7 21 "WatchedPrograms$Tokens" "many" "I") (by decide +kernel)) (fun _ h9 => h9) rfl (by decide +kernel) rfl rfl (Nat.le_of_ble_eq_true rfl) dX7_add_50 (fun H locs hP hD hS => ?_)
  have hP : va_P (dC, dI) vwCl [(tk, .inr (7, [.ref ka, .ref kb, .ref kc, .int 1, .int 0, .int 0, .int 0, .int 0])), (ka, aI cI 301 (upd (fun _ => 0) 0 0)), (kb, aI cI 301 (upd (fun _ => 0) 0 0)), (kc, aI cI 301 (upd (fun _ => 0) 0 0))] H := hP
  have hD : va_D A [(tk, .inr (7, [.ref ka, .ref kb, .ref kc, .int 1, .int 0, .int 0, .int 0, .int 0])), (ka, aI cI 301 (upd (fun _ => 0) 0 0)), (kb, aI cI 301 (upd (fun _ => 0) 0 0)), (kc, aI cI 301 (upd (fun _ => 0) 0 0))] := hD
  have hP9 := hP.sub (ws' := [(tk, .inr (7, [.ref ka, .ref kb, .ref kc, .int 1, .int 0, .int 0, .int 0, .int 0])), (ka, aI cI 301 (upd (fun _ => 0) 0 0)), (kb, aI cI 301 (upd (fun _ => 0) 0 0)), (kc, aI cI 301 (upd (fun _ => 0) 0 0))]) [0, 1, 2, 3] rfl
  have hD9 := hD.sub (ws' := [(tk, .inr (7, [.ref ka, .ref kb, .ref kc, .int 1, .int 0, .int 0, .int 0, .int 0])), (ka, aI cI 301 (upd (fun _ => 0) 0 0)), (kb, aI cI 301 (upd (fun _ => 0) 0 0)), (kc, aI cI 301 (upd (fun _ => 0) 0 0))]) [0, 1, 2, 3] (by decide) rfl
  exact W.vret hx hb hr (fun tt_ ht hW => ⟨⟨(), rfl, trivial, by rw [ht]; exact hP9, hD9⟩, hS.F ht⟩) hS.2.2 dX7_add_53
set_option maxHeartbeats 1000000 in
set_option maxRecDepth 100000 in
theorem c_tadvance (l : Launch) (dC : Nat → ClassId) (dI : Nat → Nat → Nat) (cI cJ cS : ClassId) (sz : Nat) (tk : Nat) (ka : Nat) (kb : Nat) (kc : Nat)  : Met l yX7_advance wsX7_advance ({ frames := 0, cells := 0, slots := 0, locals := 0 }) (va_Pc [.ref tk] (PE dC dI cI cJ cS [(tk, .inr (7, [.ref ka, .ref kb, .ref kc, .int 1, .int (-1), .int 0, .int 0, .int 0])), (ka, aI cI 301 (upd (fun _ => 0) 0 0)), (kb, aI cI 301 (upd (fun _ => 0) 0 0)), (kc, aI cI 301 (upd (fun _ => 0) 0 0))] sz)) (va_Qv (fun (_ : Unit) => True) (BE dC dI (va_A [(tk, .inr (7, [.ref ka, .ref kb, .ref kc, .int 1, .int (-1), .int 0, .int 0, .int 0])), (ka, aI cI 301 (upd (fun _ => 0) 0 0)), (kb, aI cI 301 (upd (fun _ => 0) 0 0)), (kc, aI cI 301 (upd (fun _ => 0) 0 0))] sz) (fun (_ : Unit) => [(tk, .inr (7, [.ref ka, .ref kb, .ref kc, .int 1, .int 0, .int 0, .int 0, .int 0])), (ka, aI cI 301 (upd (fun _ => 0) 0 0)), (kb, aI cI 301 (upd (fun _ => 0) 0 0)), (kc, aI cI 301 (upd (fun _ => 0) 0 0))])) (va_A [(tk, .inr (7, [.ref ka, .ref kb, .ref kc, .int 1, .int (-1), .int 0, .int 0, .int 0])), (ka, aI cI 301 (upd (fun _ => 0) 0 0)), (kb, aI cI 301 (upd (fun _ => 0) 0 0)), (kc, aI cI 301 (upd (fun _ => 0) 0 0))] sz)) 0 0 (va_A [(tk, .inr (7, [.ref ka, .ref kb, .ref kc, .int 1, .int (-1), .int 0, .int 0, .int 0])), (ka, aI cI 301 (upd (fun _ => 0) 0 0)), (kb, aI cI 301 (upd (fun _ => 0) 0 0)), (kc, aI cI 301 (upd (fun _ => 0) 0 0))] sz) := by
  refine Met.ofW (cc := cX7_advance) (maxL := 1) (ret := none) (by decide) rfl ?_
  intro pp_ ee_ ss_ mm_ args below meth cc_ s₁ B hml hv
  obtain ⟨rfl, hsz, hP, hE, hD0⟩ := hv
  have hx := B.exec
  have hb := B.bytes
  have hr := B.returns
  have hts := atoms_spec (ws := wsX7_advance) B.pre
  have hown : ss_.vm.findClass RX7 = some mm_.cls := findClass_of_methodNamed B.named
  have hlocks := B.notSynchronized
  have hK := hE.1
  have hiX7 : ∀ w ∈ wsX70, w ∈ wsX7_advance := by decide +kernel
  subst hsz
  have hD := hD0.self (sz := ss_.heap.size)
  generalize hAe : va_A [(tk, .inr (7, [.ref ka, .ref kb, .ref kc, .int 1, .int (-1), .int 0, .int 0, .int 0])), (ka, aI cI 301 (upd (fun _ => 0) 0 0)), (kb, aI cI 301 (upd (fun _ => 0) 0 0)), (kc, aI cI 301 (upd (fun _ => 0) 0 0))] ss_.heap.size = A at hD ⊢
  have hA : ∀ q : Nat, ss_.heap.size ≤ q → A q := fun q h => by rw [← hAe]; exact Or.inr h
  have hS : va_S A ss_.heap ss_.heap [] := va_S.rf
  have hP : va_P (dC, dI) vwCl [(tk, .inr (7, [.ref ka, .ref kb, .ref kc, .int 1, .int (-1), .int 0, .int 0, .int 0])), (ka, aI cI 301 (upd (fun _ => 0) 0 0)), (kb, aI cI 301 (upd (fun _ => 0) 0 0)), (kc, aI cI 301 (upd (fun _ => 0) 0 0))] ss_.heap := hP
  have hl := lv_entry ([.ref tk]) (n := 1) (Nat.le_of_ble_eq_true rfl)
  rw [lg_entry_eq]
  generalize (lg_sl ([.ref tk]) ++ List.replicate (1 - (lg_sl ([.ref tk])).length) Slot.unset).toArray = ls at hl ⊢
  have hl : lv_has ls 1 [(0, .ref tk)] := hl
  refine lv_aload_n hx hb dX7_advance_0 rfl (lv_at hl 0 rfl) ?_
  refine va_get (D := (dC, dI)) (ci := 7) (v := .int (-1)) (C := RX7) (T := TX7) (N := 8) hx hb hts hiX7 hown hK hP 0 rfl rfl 4 (by decide) (hts (.fieldLink RX7 65 "WatchedPrograms$Tokens" "at" "I") (by decide +kernel)) (fun _ h9 => h9) rfl dX7_advance_1 ?_
  refine lv_iconst (v := 1) hx hb dX7_advance_4 (by decide) ?_
  refine lv_iadd hx hb dX7_advance_5 ?_
  refine zi (y := 0) (by decide) ?_
  refine lv_aload_n hx hb dX7_advance_6 rfl (lv_at hl 0 rfl) ?_
  refine va_get (D := (dC, dI)) (ci := 7) (v := .int 1) (C := RX7) (T := TX7) (N := 8) hx hb hts hiX7 hown hK hP 0 rfl rfl 3 (by decide) (hts (.fieldLink RX7 21 "WatchedPrograms$Tokens" "many" "I") (by decide +kernel)) (fun _ h9 => h9) rfl dX7_advance_7 ?_
  refine lv_icmp_lt (tgt := 14) hx hb dX7_advance_10 (by decide) (fun _ => ?_) (fun c_1 => absurd (by decide) c_1)
  refine lv_aload_n hx hb dX7_advance_14 rfl (lv_at hl 0 rfl) ?_
  refine lv_dup hx hb dX7_advance_15 rfl ?_
  refine va_get (D := (dC, dI)) (ci := 7) (v := .int (-1)) (C := RX7) (T := TX7) (N := 8) hx hb hts hiX7 hown hK hP 0 rfl rfl 4 (by decide) (hts (.fieldLink RX7 65 "WatchedPrograms$Tokens" "at" "I") (by decide +kernel)) (fun _ h9 => h9) rfl dX7_advance_16 ?_
  refine lv_iconst (v := 1) hx hb dX7_advance_19 (by decide) ?_
  refine lv_iadd hx hb dX7_advance_20 ?_
  refine zi (y := 0) (by decide) ?_
  refine va_put (D := (dC, dI)) (ci := 7) (v := .int 0) (ty := .int) (C := RX7) (T := TX7) (N := 8) hx hb hts hiX7 tyX7 tyX7_ok nmX7 hown hK hP hD hS 0 rfl rfl 4 (by decide) (hts (.fieldLink RX7 65 "WatchedPrograms$Tokens" "at" "I") (by decide +kernel)) (fun _ h9 => h9) rfl (by decide +kernel) rfl rfl (Nat.le_of_ble_eq_true rfl) dX7_advance_21 (fun H locs hP hD hS => ?_)
  have hP : va_P (dC, dI) vwCl [(tk, .inr (7, [.ref ka, .ref kb, .ref kc, .int 1, .int 0, .int 0, .int 0, .int 0])), (ka, aI cI 301 (upd (fun _ => 0) 0 0)), (kb, aI cI 301 (upd (fun _ => 0) 0 0)), (kc, aI cI 301 (upd (fun _ => 0) 0 0))] H := hP
  have hD : va_D A [(tk, .inr (7, [.ref ka, .ref kb, .ref kc, .int 1, .int 0, .int 0, .int 0, .int 0])), (ka, aI cI 301 (upd (fun _ => 0) 0 0)), (kb, aI cI 301 (upd (fun _ => 0) 0 0)), (kc, aI cI 301 (upd (fun _ => 0) 0 0))] := hD
  refine lv_aload_n hx hb dX7_advance_24 rfl (lv_at hl 0 rfl) ?_
  refine lv_aload_n hx hb dX7_advance_25 rfl (lv_at hl 0 rfl) ?_
  refine va_get (D := (dC, dI)) (ci := 7) (v := .ref ka) (C := RX7) (T := TX7) (N := 8) hx hb hts hiX7 hown hK hP 0 rfl rfl 0 (by decide) (hts (.fieldLink RX7 9 "WatchedPrograms$Tokens" "kinds" "[I") (by decide +kernel)) (fun _ h9 => h9) rfl dX7_advance_26 ?_
  refine lv_aload_n hx hb dX7_advance_29 rfl (lv_at hl 0 rfl) ?_
  refine va_get (D := (dC, dI)) (ci := 7) (v := .int 0) (C := RX7) (T := TX7) (N := 8) hx hb hts hiX7 hown hK hP 0 rfl rfl 4 (by decide) (hts (.fieldLink RX7 65 "WatchedPrograms$Tokens" "at" "I") (by decide +kernel)) (fun _ h9 => h9) rfl dX7_advance_30 ?_
  refine va_iald hx hb hK hP 1 0 rfl rfl (by unfold vp_in; decide) dX7_advance_33 ?_
  refine zi (y := 0) (by rfl) ?_
  refine va_put (D := (dC, dI)) (ci := 7) (v := .int 0) (ty := .int) (C := RX7) (T := TX7) (N := 8) hx hb hts hiX7 tyX7 tyX7_ok nmX7 hown hK hP hD hS 0 rfl rfl 5 (by decide) (hts (.fieldLink RX7 70 "WatchedPrograms$Tokens" "kind" "I") (by decide +kernel)) (fun _ h9 => h9) rfl (by decide +kernel) rfl rfl (Nat.le_of_ble_eq_true rfl) dX7_advance_34 (fun H locs hP hD hS => ?_)
  have hP : va_P (dC, dI) vwCl [(tk, .inr (7, [.ref ka, .ref kb, .ref kc, .int 1, .int 0, .int 0, .int 0, .int 0])), (ka, aI cI 301 (upd (fun _ => 0) 0 0)), (kb, aI cI 301 (upd (fun _ => 0) 0 0)), (kc, aI cI 301 (upd (fun _ => 0) 0 0))] H := hP
  have hD : va_D A [(tk, .inr (7, [.ref ka, .ref kb, .ref kc, .int 1, .int 0, .int 0, .int 0, .int 0])), (ka, aI cI 301 (upd (fun _ => 0) 0 0)), (kb, aI cI 301 (upd (fun _ => 0) 0 0)), (kc, aI cI 301 (upd (fun _ => 0) 0 0))] := hD
  refine lv_aload_n hx hb dX7_advance_37 rfl (lv_at hl 0 rfl) ?_
  refine lv_aload_n hx hb dX7_advance_38 rfl (lv_at hl 0 rfl) ?_
  refine va_get (D := (dC, dI)) (ci := 7) (v := .ref kb) (C := RX7) (T := TX7) (N := 8) hx hb hts hiX7 hown hK hP 0 rfl rfl 1 (by decide) (hts (.fieldLink RX7 15 "WatchedPrograms$Tokens" "values" "[I") (by decide +kernel)) (fun _ h9 => h9) rfl dX7_advance_39 ?_
  refine lv_aload_n hx hb dX7_advance_42 rfl (lv_at hl 0 rfl) ?_
  refine va_get (D := (dC, dI)) (ci := 7) (v := .int 0) (C := RX7) (T := TX7) (N := 8) hx hb hts hiX7 hown hK hP 0 rfl rfl 4 (by decide) (hts (.fieldLink RX7 65 "WatchedPrograms$Tokens" "at" "I") (by decide +kernel)) (fun _ h9 => h9) rfl dX7_advance_43 ?_
  refine va_iald hx hb hK hP 2 0 rfl rfl (by unfold vp_in; decide) dX7_advance_46 ?_
  refine zi (y := 0) (by rfl) ?_
  refine va_put (D := (dC, dI)) (ci := 7) (v := .int 0) (ty := .int) (C := RX7) (T := TX7) (N := 8) hx hb hts hiX7 tyX7 tyX7_ok nmX7 hown hK hP hD hS 0 rfl rfl 6 (by decide) (hts (.fieldLink RX7 73 "WatchedPrograms$Tokens" "value" "I") (by decide +kernel)) (fun _ h9 => h9) rfl (by decide +kernel) rfl rfl (Nat.le_of_ble_eq_true rfl) dX7_advance_47 (fun H locs hP hD hS => ?_)
  have hP : va_P (dC, dI) vwCl [(tk, .inr (7, [.ref ka, .ref kb, .ref kc, .int 1, .int 0, .int 0, .int 0, .int 0])), (ka, aI cI 301 (upd (fun _ => 0) 0 0)), (kb, aI cI 301 (upd (fun _ => 0) 0 0)), (kc, aI cI 301 (upd (fun _ => 0) 0 0))] H := hP
  have hD : va_D A [(tk, .inr (7, [.ref ka, .ref kb, .ref kc, .int 1, .int 0, .int 0, .int 0, .int 0])), (ka, aI cI 301 (upd (fun _ => 0) 0 0)), (kb, aI cI 301 (upd (fun _ => 0) 0 0)), (kc, aI cI 301 (upd (fun _ => 0) 0 0))] := hD
  refine lv_aload_n hx hb dX7_advance_50 rfl (lv_at hl 0 rfl) ?_
  refine lv_aload_n hx hb dX7_advance_51 rfl (lv_at hl 0 rfl) ?_
  refine va_get (D := (dC, dI)) (ci := 7) (v := .ref kc) (C := RX7) (T := TX7) (N := 8) hx hb hts hiX7 hown hK hP 0 rfl rfl 2 (by decide) (hts (.fieldLink RX7 18 "WatchedPrograms$Tokens" "places" "[I") (by decide +kernel)) (fun _ h9 => h9) rfl dX7_advance_52 ?_
  refine lv_aload_n hx hb dX7_advance_55 rfl (lv_at hl 0 rfl) ?_
  refine va_get (D := (dC, dI)) (ci := 7) (v := .int 0) (C := RX7) (T := TX7) (N := 8) hx hb hts hiX7 hown hK hP 0 rfl rfl 4 (by decide) (hts (.fieldLink RX7 65 "WatchedPrograms$Tokens" "at" "I") (by decide +kernel)) (fun _ h9 => h9) rfl dX7_advance_56 ?_
  refine va_iald hx hb hK hP 3 0 rfl rfl (by unfold vp_in; decide) dX7_advance_59 ?_
  refine zi (y := 0) (by rfl) ?_
  refine va_put (D := (dC, dI)) (ci := 7) (v := .int 0) (ty := .int) (C := RX7) (T := TX7) (N := 8) hx hb hts hiX7 tyX7 tyX7_ok nmX7 hown hK hP hD hS 0 rfl rfl 7 (by decide) (hts (.fieldLink RX7 76 "WatchedPrograms$Tokens" "place" "I") (by decide +kernel)) (fun _ h9 => h9) rfl (by decide +kernel) rfl rfl (Nat.le_of_ble_eq_true rfl) dX7_advance_60 (fun H locs hP hD hS => ?_)
  have hP : va_P (dC, dI) vwCl [(tk, .inr (7, [.ref ka, .ref kb, .ref kc, .int 1, .int 0, .int 0, .int 0, .int 0])), (ka, aI cI 301 (upd (fun _ => 0) 0 0)), (kb, aI cI 301 (upd (fun _ => 0) 0 0)), (kc, aI cI 301 (upd (fun _ => 0) 0 0))] H := hP
  have hD : va_D A [(tk, .inr (7, [.ref ka, .ref kb, .ref kc, .int 1, .int 0, .int 0, .int 0, .int 0])), (ka, aI cI 301 (upd (fun _ => 0) 0 0)), (kb, aI cI 301 (upd (fun _ => 0) 0 0)), (kc, aI cI 301 (upd (fun _ => 0) 0 0))] := hD
  have hP9 := hP.sub (ws' := [(tk, .inr (7, [.ref ka, .ref kb, .ref kc, .int 1, .int 0, .int 0, .int 0, .int 0])), (ka, aI cI 301 (upd (fun _ => 0) 0 0)), (kb, aI cI 301 (upd (fun _ => 0) 0 0)), (kc, aI cI 301 (upd (fun _ => 0) 0 0))]) [0, 1, 2, 3] rfl
  have hD9 := hD.sub (ws' := [(tk, .inr (7, [.ref ka, .ref kb, .ref kc, .int 1, .int 0, .int 0, .int 0, .int 0])), (ka, aI cI 301 (upd (fun _ => 0) 0 0)), (kb, aI cI 301 (upd (fun _ => 0) 0 0)), (kc, aI cI 301 (upd (fun _ => 0) 0 0))]) [0, 1, 2, 3] (by decide) rfl
  exact W.vret hx hb hr (fun tt_ ht hW => ⟨⟨(), rfl, trivial, by rw [ht]; exact hP9, hD9⟩, hS.F ht⟩) hS.2.2 dX7_advance_63
set_option maxHeartbeats 1000000 in
set_option maxRecDepth 100000 in
theorem c_cut (l : Launch) (dC : Nat → ClassId) (dI : Nat → Nat → Nat) (cI cJ cS : ClassId) (sz : Nat) (tk : Nat) (x2 : Nat) (ka : Nat) (kb : Nat) (kc : Nat) (xb : Nat)  : Met l yX7_cut wsX7_cut ({ frames := 1, cells := 0, slots := 0, locals := 23 }) (va_Pc [.ref tk, .ref x2] (PE dC dI cI cJ cS [(tk, .inr (7, [.ref ka, .ref kb, .ref kc, .int 0, .int 0, .int 0, .int 0, .int 0])), (ka, aI cI 301 (fun _ => 0)), (kb, aI cI 301 (fun _ => 0)), (kc, aI cI 301 (fun _ => 0)), (x2, .inr (6, [.ref xb, .int 0]))] sz)) (va_Qv (fun (_ : Unit) => True) (BE dC dI (va_A [(tk, .inr (7, [.ref ka, .ref kb, .ref kc, .int 0, .int 0, .int 0, .int 0, .int 0])), (ka, aI cI 301 (fun _ => 0)), (kb, aI cI 301 (fun _ => 0)), (kc, aI cI 301 (fun _ => 0)), (x2, .inr (6, [.ref xb, .int 0]))] sz) (fun (_ : Unit) => [(x2, .inr (6, [.ref xb, .int 0])), (tk, .inr (7, [.ref ka, .ref kb, .ref kc, .int 1, .int 0, .int 0, .int 0, .int 0])), (ka, aI cI 301 (upd (fun _ => 0) 0 0)), (kb, aI cI 301 (upd (fun _ => 0) 0 0)), (kc, aI cI 301 (upd (fun _ => 0) 0 0))])) (va_A [(tk, .inr (7, [.ref ka, .ref kb, .ref kc, .int 0, .int 0, .int 0, .int 0, .int 0])), (ka, aI cI 301 (fun _ => 0)), (kb, aI cI 301 (fun _ => 0)), (kc, aI cI 301 (fun _ => 0)), (x2, .inr (6, [.ref xb, .int 0]))] sz)) 0 0 (va_A [(tk, .inr (7, [.ref ka, .ref kb, .ref kc, .int 0, .int 0, .int 0, .int 0, .int 0])), (ka, aI cI 301 (fun _ => 0)), (kb, aI cI 301 (fun _ => 0)), (kc, aI cI 301 (fun _ => 0)), (x2, .inr (6, [.ref xb, .int 0]))] sz) := by
  refine Met.ofW (cc := cX7_cut) (maxL := 5) (ret := none) (by decide) rfl ?_
  intro pp_ ee_ ss_ mm_ args below meth cc_ s₁ B hml hv
  obtain ⟨rfl, hsz, hP, hE, hD0⟩ := hv
  have hx := B.exec
  have hb := B.bytes
  have hr := B.returns
  have hts := atoms_spec (ws := wsX7_cut) B.pre
  have hown : ss_.vm.findClass RX7 = some mm_.cls := findClass_of_methodNamed B.named
  have hlocks := B.notSynchronized
  have hK := hE.1
  have hiX6 : ∀ w ∈ wsX60, w ∈ wsX7_cut := by decide +kernel
  have hiX7 : ∀ w ∈ wsX70, w ∈ wsX7_cut := by decide +kernel
  subst hsz
  have hD := hD0.self (sz := ss_.heap.size)
  generalize hAe : va_A [(tk, .inr (7, [.ref ka, .ref kb, .ref kc, .int 0, .int 0, .int 0, .int 0, .int 0])), (ka, aI cI 301 (fun _ => 0)), (kb, aI cI 301 (fun _ => 0)), (kc, aI cI 301 (fun _ => 0)), (x2, .inr (6, [.ref xb, .int 0]))] ss_.heap.size = A at hD ⊢
  have hA : ∀ q : Nat, ss_.heap.size ≤ q → A q := fun q h => by rw [← hAe]; exact Or.inr h
  have hS : va_S A ss_.heap ss_.heap [] := va_S.rf
  have hP : va_P (dC, dI) vwCl [(tk, .inr (7, [.ref ka, .ref kb, .ref kc, .int 0, .int 0, .int 0, .int 0, .int 0])), (ka, aI cI 301 (fun _ => 0)), (kb, aI cI 301 (fun _ => 0)), (kc, aI cI 301 (fun _ => 0)), (x2, .inr (6, [.ref xb, .int 0]))] ss_.heap := hP
  have hl := lv_entry ([.ref tk, .ref x2]) (n := 5) (Nat.le_of_ble_eq_true rfl)
  rw [lg_entry_eq]
  generalize (lg_sl ([.ref tk, .ref x2]) ++ List.replicate (5 - (lg_sl ([.ref tk, .ref x2])).length) Slot.unset).toArray = ls at hl ⊢
  have hl : lv_has ls 5 [(0, .ref tk), (1, .ref x2)] := hl
  refine lv_aload_n hx hb dX7_cut_0 rfl (lv_at hl 0 rfl) ?_
  refine lv_iconst (v := 0) hx hb dX7_cut_1 (by decide) ?_
  refine va_put (D := (dC, dI)) (ci := 7) (v := .int 0) (ty := .int) (C := RX7) (T := TX7) (N := 8) hx hb hts hiX7 tyX7 tyX7_ok nmX7 hown hK hP hD hS 0 rfl rfl 3 (by decide) (hts (.fieldLink RX7 21 "WatchedPrograms$Tokens" "many" "I") (by decide +kernel)) (fun _ h9 => h9) rfl (by decide +kernel) rfl rfl (Nat.le_of_ble_eq_true rfl) dX7_cut_2 (fun H locs hP hD hS => ?_)
  have hP : va_P (dC, dI) vwCl [(tk, .inr (7, [.ref ka, .ref kb, .ref kc, .int 0, .int 0, .int 0, .int 0, .int 0])), (ka, aI cI 301 (fun _ => 0)), (kb, aI cI 301 (fun _ => 0)), (kc, aI cI 301 (fun _ => 0)), (x2, .inr (6, [.ref xb, .int 0]))] H := hP
  have hD : va_D A [(tk, .inr (7, [.ref ka, .ref kb, .ref kc, .int 0, .int 0, .int 0, .int 0, .int 0])), (ka, aI cI 301 (fun _ => 0)), (kb, aI cI 301 (fun _ => 0)), (kc, aI cI 301 (fun _ => 0)), (x2, .inr (6, [.ref xb, .int 0]))] := hD
  refine lv_iconst (v := 0) hx hb dX7_cut_5 (by decide) ?_
  refine lv_istore_n (lv' := [(2, .int 0), (0, .ref tk), (1, .ref x2)]) hx hb dX7_cut_6 rfl hl (by decide) rfl (fun ls hl => ?_)
  refine lv_iload_n hx hb dX7_cut_7 rfl (lv_at hl 0 rfl) ?_
  refine lv_aload_n hx hb dX7_cut_8 rfl (lv_at hl 2 rfl) ?_
  refine va_get (D := (dC, dI)) (ci := 6) (v := .int 0) (C := RX6) (T := TX6) (N := 2) hx hb hts hiX6 hown hK hP 4 rfl rfl 1 (by decide) (hts (.fieldLink RX7 25 "WatchedPrograms$Text" "length" "I") (by decide +kernel)) (fun _ h9 => h9) rfl dX7_cut_9 ?_
  refine lv_icmp_ge (tgt := 101) hx hb dX7_cut_12 (by decide) (fun _ => ?_) (fun c_1 => absurd (by decide) c_1)
  refine lv_aload_n hx hb dX7_cut_101 rfl (lv_at hl 1 rfl) ?_
  refine lv_iconst (v := 0) hx hb dX7_cut_102 (by decide) ?_
  refine lv_iconst (v := 0) hx hb dX7_cut_103 (by decide) ?_
  refine lv_aload_n hx hb dX7_cut_104 rfl (lv_at hl 2 rfl) ?_
  refine va_get (D := (dC, dI)) (ci := 6) (v := .int 0) (C := RX6) (T := TX6) (N := 2) hx hb hts hiX6 hown hK hP 4 rfl rfl 1 (by decide) (hts (.fieldLink RX7 25 "WatchedPrograms$Text" "length" "I") (by decide +kernel)) (fun _ h9 => h9) rfl dX7_cut_105 ?_
  have hFc := va_free (wc := [(tk, .inr (7, [.ref ka, .ref kb, .ref kc, .int 0, .int 0, .int 0, .int 0, .int 0])), (ka, aI cI 301 (fun _ => 0)), (kb, aI cI 301 (fun _ => 0)), (kc, aI cI 301 (fun _ => 0))]) hD hS hA [0, 1, 2, 3] rfl
  refine zCv (wr := [(x2, .inr (6, [.ref xb, .int 0]))]) hP hD hS hFc [0, 1, 2, 3] [4] rfl rfl (by decide) (by decide) (va_runV (As := [.int 0, .int 0, .int 0]) (rest := []) ⟨hx, hb, hml, hown, hts⟩ (c_tadd l dC dI cI cJ cS H.size tk ka kb kc ) (cwV 3 hts gX7_cut_X7_add rfl rfl rfl (by decide +kernel) ⟨Nat.le_of_ble_eq_true rfl, Nat.le_of_ble_eq_true rfl⟩) (preEV (hP.sub (ws' := [(tk, .inr (7, [.ref ka, .ref kb, .ref kc, .int 0, .int 0, .int 0, .int 0, .int 0])), (ka, aI cI 301 (fun _ => 0)), (kb, aI cI 301 (fun _ => 0)), (kc, aI cI 301 (fun _ => 0))]) [0, 1, 2, 3] rfl) hE (hD.sub (ws' := [(tk, .inr (7, [.ref ka, .ref kb, .ref kc, .int 0, .int 0, .int 0, .int 0, .int 0])), (ka, aI cI 301 (fun _ => 0)), (kb, aI cI 301 (fun _ => 0)), (kc, aI cI 301 (fun _ => 0))]) [0, 1, 2, 3] (by decide) rfl) 0 (ci := 7) rfl rfl) rfl rfl hl.1 rfl (lv_room (Nat.le_of_ble_eq_true rfl)) dX7_cut_108 ⟨by decide +kernel, by decide +kernel⟩) (fun u_4 H locs hr_3 hP hD hS => ?_)
  try dsimp only at hr_3
  have hP : va_P (dC, dI) vwCl [(x2, .inr (6, [.ref xb, .int 0])), (tk, .inr (7, [.ref ka, .ref kb, .ref kc, .int 1, .int 0, .int 0, .int 0, .int 0])), (ka, aI cI 301 (upd (fun _ => 0) 0 0)), (kb, aI cI 301 (upd (fun _ => 0) 0 0)), (kc, aI cI 301 (upd (fun _ => 0) 0 0))] H := hP
  have hD : va_D A [(x2, .inr (6, [.ref xb, .int 0])), (tk, .inr (7, [.ref ka, .ref kb, .ref kc, .int 1, .int 0, .int 0, .int 0, .int 0])), (ka, aI cI 301 (upd (fun _ => 0) 0 0)), (kb, aI cI 301 (upd (fun _ => 0) 0 0)), (kc, aI cI 301 (upd (fun _ => 0) 0 0))] := hD
  refine lv_aload_n hx hb dX7_cut_111 rfl (lv_at hl 1 rfl) ?_
  refine lv_iconst (v := (-1)) hx hb dX7_cut_112 (by decide) ?_
  refine va_put (D := (dC, dI)) (ci := 7) (v := .int (-1)) (ty := .int) (C := RX7) (T := TX7) (N := 8) hx hb hts hiX7 tyX7 tyX7_ok nmX7 hown hK hP hD hS 1 rfl rfl 4 (by decide) (hts (.fieldLink RX7 65 "WatchedPrograms$Tokens" "at" "I") (by decide +kernel)) (fun _ h9 => h9) rfl (by decide +kernel) rfl rfl (Nat.le_of_ble_eq_true rfl) dX7_cut_113 (fun H locs hP hD hS => ?_)
  have hP : va_P (dC, dI) vwCl [(x2, .inr (6, [.ref xb, .int 0])), (tk, .inr (7, [.ref ka, .ref kb, .ref kc, .int 1, .int (-1), .int 0, .int 0, .int 0])), (ka, aI cI 301 (upd (fun _ => 0) 0 0)), (kb, aI cI 301 (upd (fun _ => 0) 0 0)), (kc, aI cI 301 (upd (fun _ => 0) 0 0))] H := hP
  have hD : va_D A [(x2, .inr (6, [.ref xb, .int 0])), (tk, .inr (7, [.ref ka, .ref kb, .ref kc, .int 1, .int (-1), .int 0, .int 0, .int 0])), (ka, aI cI 301 (upd (fun _ => 0) 0 0)), (kb, aI cI 301 (upd (fun _ => 0) 0 0)), (kc, aI cI 301 (upd (fun _ => 0) 0 0))] := hD
  refine lv_aload_n hx hb dX7_cut_116 rfl (lv_at hl 1 rfl) ?_
  have hFc := va_free (wc := [(tk, .inr (7, [.ref ka, .ref kb, .ref kc, .int 1, .int (-1), .int 0, .int 0, .int 0])), (ka, aI cI 301 (upd (fun _ => 0) 0 0)), (kb, aI cI 301 (upd (fun _ => 0) 0 0)), (kc, aI cI 301 (upd (fun _ => 0) 0 0))]) hD hS hA [1, 2, 3, 4] rfl
  refine zCv (wr := [(x2, .inr (6, [.ref xb, .int 0]))]) hP hD hS hFc [1, 2, 3, 4] [0] rfl rfl (by decide) (by decide) (va_runV (As := []) (rest := []) ⟨hx, hb, hml, hown, hts⟩ (c_tadvance l dC dI cI cJ cS H.size tk ka kb kc ) (cwV 0 hts gX7_cut_X7_advance rfl rfl rfl (by decide +kernel) ⟨Nat.le_of_ble_eq_true rfl, Nat.le_of_ble_eq_true rfl⟩) (preEV (hP.sub (ws' := [(tk, .inr (7, [.ref ka, .ref kb, .ref kc, .int 1, .int (-1), .int 0, .int 0, .int 0])), (ka, aI cI 301 (upd (fun _ => 0) 0 0)), (kb, aI cI 301 (upd (fun _ => 0) 0 0)), (kc, aI cI 301 (upd (fun _ => 0) 0 0))]) [1, 2, 3, 4] rfl) hE (hD.sub (ws' := [(tk, .inr (7, [.ref ka, .ref kb, .ref kc, .int 1, .int (-1), .int 0, .int 0, .int 0])), (ka, aI cI 301 (upd (fun _ => 0) 0 0)), (kb, aI cI 301 (upd (fun _ => 0) 0 0)), (kc, aI cI 301 (upd (fun _ => 0) 0 0))]) [1, 2, 3, 4] (by decide) rfl) 0 (ci := 7) rfl rfl) rfl rfl hl.1 rfl (lv_room (Nat.le_of_ble_eq_true rfl)) dX7_cut_117 ⟨by decide +kernel, by decide +kernel⟩) (fun u_7 H locs hr_6 hP hD hS => ?_)
  try dsimp only at hr_6
  have hP : va_P (dC, dI) vwCl [(x2, .inr (6, [.ref xb, .int 0])), (tk, .inr (7, [.ref ka, .ref kb, .ref kc, .int 1, .int 0, .int 0, .int 0, .int 0])), (ka, aI cI 301 (upd (fun _ => 0) 0 0)), (kb, aI cI 301 (upd (fun _ => 0) 0 0)), (kc, aI cI 301 (upd (fun _ => 0) 0 0))] H := hP
  have hD : va_D A [(x2, .inr (6, [.ref xb, .int 0])), (tk, .inr (7, [.ref ka, .ref kb, .ref kc, .int 1, .int 0, .int 0, .int 0, .int 0])), (ka, aI cI 301 (upd (fun _ => 0) 0 0)), (kb, aI cI 301 (upd (fun _ => 0) 0 0)), (kc, aI cI 301 (upd (fun _ => 0) 0 0))] := hD
  have hP9 := hP.sub (ws' := [(x2, .inr (6, [.ref xb, .int 0])), (tk, .inr (7, [.ref ka, .ref kb, .ref kc, .int 1, .int 0, .int 0, .int 0, .int 0])), (ka, aI cI 301 (upd (fun _ => 0) 0 0)), (kb, aI cI 301 (upd (fun _ => 0) 0 0)), (kc, aI cI 301 (upd (fun _ => 0) 0 0))]) [0, 1, 2, 3, 4] rfl
  have hD9 := hD.sub (ws' := [(x2, .inr (6, [.ref xb, .int 0])), (tk, .inr (7, [.ref ka, .ref kb, .ref kc, .int 1, .int 0, .int 0, .int 0, .int 0])), (ka, aI cI 301 (upd (fun _ => 0) 0 0)), (kb, aI cI 301 (upd (fun _ => 0) 0 0)), (kc, aI cI 301 (upd (fun _ => 0) 0 0))]) [0, 1, 2, 3, 4] (by decide) rfl
  exact W.vret hx hb hr (fun tt_ ht hW => ⟨⟨(), rfl, trivial, by rw [ht]; exact hP9, hD9⟩, hS.F ht⟩) hS.2.2 dX7_cut_120
set_option maxHeartbeats 1000000 in
set_option maxRecDepth 100000 in
theorem c_begins (l : Launch) (dC : Nat → ClassId) (dI : Nat → Nat → Nat) (cI cJ cS : ClassId) (x3 : Nat) (tk : Nat) (pp : Nat) (ka : Nat) (kb : Nat) (kc : Nat)  : Met l yX3_beginsStatement wsX3_beginsStatement ({ frames := 0, cells := 0, slots := 0, locals := 0 }) (va_Pc [.ref x3] (PR dC dI cI cJ cS [(x3, .inr (3, [.ref tk, .ref pp, .int 0, .int 0])), (tk, .inr (7, [.ref ka, .ref kb, .ref kc, .int 1, .int 0, .int 0, .int 0, .int 0]))])) (vp_Si (fun r : Int32 => r = 0)) 0 0 (fun _ => False) := by
  refine Met.ofW (cc := cX3_beginsStatement) (maxL := 2) (ret := (some .boolean)) (by decide) rfl ?_
  intro pp_ ee_ ss_ mm_ args below meth cc_ s₁ B hml hv
  obtain ⟨rfl, hP, hE⟩ := hv
  have hx := B.exec
  have hb := B.bytes
  have hr := B.returns
  have hts := atoms_spec (ws := wsX3_beginsStatement) B.pre
  have hown : ss_.vm.findClass RX3 = some mm_.cls := findClass_of_methodNamed B.named
  have hlocks := B.notSynchronized
  have hK := hE.1
  have hiX3 : ∀ w ∈ wsX30, w ∈ wsX3_beginsStatement := by decide +kernel
  have hiX7 : ∀ w ∈ wsX70, w ∈ wsX3_beginsStatement := by decide +kernel
  have hP : va_P (dC, dI) vwCl [(x3, .inr (3, [.ref tk, .ref pp, .int 0, .int 0])), (tk, .inr (7, [.ref ka, .ref kb, .ref kc, .int 1, .int 0, .int 0, .int 0, .int 0]))] ss_.heap := hP
  have hl := lv_entry ([.ref x3]) (n := 2) (Nat.le_of_ble_eq_true rfl)
  rw [lg_entry_eq]
  generalize (lg_sl ([.ref x3]) ++ List.replicate (2 - (lg_sl ([.ref x3])).length) Slot.unset).toArray = ls at hl ⊢
  have hl : lv_has ls 2 [(0, .ref x3)] := hl
  refine lv_aload_n hx hb dX3_beginsStatement_0 rfl (lv_at hl 0 rfl) ?_
  refine va_get (D := (dC, dI)) (ci := 3) (v := .ref tk) (C := RX3) (T := TX3) (N := 4) hx hb hts hiX3 hown hK hP 0 rfl rfl 0 (by decide) (hts (.fieldLink RX3 12 "WatchedPrograms$Parser" "tokens" "LWatchedPrograms$Tokens;") (by decide +kernel)) (fun _ h9 => h9) rfl dX3_beginsStatement_1 ?_
  refine va_get (D := (dC, dI)) (ci := 7) (v := .int 0) (C := RX7) (T := TX7) (N := 8) hx hb hts hiX7 hown hK hP 1 rfl rfl 5 (by decide) (hts (.fieldLink RX3 36 "WatchedPrograms$Tokens" "kind" "I") (by decide +kernel)) (fun _ h9 => h9) rfl dX3_beginsStatement_4 ?_
  refine lv_istore_n (lv' := [(1, .int 0), (0, .ref x3)]) hx hb dX3_beginsStatement_7 rfl hl (by decide) rfl (fun ls hl => ?_)
  refine lv_iload_n hx hb dX3_beginsStatement_8 rfl (lv_at hl 0 rfl) ?_
  refine lv_iconst (v := 2) hx hb dX3_beginsStatement_9 (by decide) ?_
  refine lv_icmp_eq (tgt := 29) hx hb dX3_beginsStatement_10 (by decide) (fun c_1 => absurd c_1 (by decide)) (fun _ => ?_)
  refine lv_iload_n hx hb dX3_beginsStatement_13 rfl (lv_at hl 0 rfl) ?_
  refine lv_iconst (v := 4) hx hb dX3_beginsStatement_14 (by decide) ?_
  refine lv_icmp_eq (tgt := 29) hx hb dX3_beginsStatement_15 (by decide) (fun c_2 => absurd c_2 (by decide)) (fun _ => ?_)
  refine lv_iload_n hx hb dX3_beginsStatement_18 rfl (lv_at hl 0 rfl) ?_
  refine lv_iconst (v := 5) hx hb dX3_beginsStatement_19 (by decide) ?_
  refine lv_icmp_eq (tgt := 29) hx hb dX3_beginsStatement_20 (by decide) (fun c_3 => absurd c_3 (by decide)) (fun _ => ?_)
  refine lv_iload_n hx hb dX3_beginsStatement_23 rfl (lv_at hl 0 rfl) ?_
  refine lv_bipush (v := 7) hx hb dX3_beginsStatement_24 (by decide) ?_
  refine lv_icmp_ne (tgt := 33) hx hb dX3_beginsStatement_26 (by decide) (fun _ => ?_) (fun c_4 => absurd c_4 (by decide))
  refine lv_iconst (v := 0) hx hb dX3_beginsStatement_33 (by decide) ?_
  exact W.zret (v := 0) hx hb hr (by decide) (fun tt_ ht hW => ⟨_, rfl, rfl, ht⟩) (fun _ h => by cases h) dX3_beginsStatement_34
set_option maxHeartbeats 1000000 in
set_option maxRecDepth 100000 in
theorem c_takeStatements (l : Launch) (dC : Nat → ClassId) (dI : Nat → Nat → Nat) (cI cJ cS : ClassId) (x3 : Nat) (tk : Nat) (pp : Nat) (ka : Nat) (kb : Nat) (kc : Nat)  : Met l yX3_takeStatements wsX3_takeStatements ({ frames := 1, cells := 0, slots := 0, locals := 21 }) (va_Pc [.ref x3, .int (-1), .int 0] (PR dC dI cI cJ cS [(x3, .inr (3, [.ref tk, .ref pp, .int 0, .int 0])), (tk, .inr (7, [.ref ka, .ref kb, .ref kc, .int 1, .int 0, .int 0, .int 0, .int 0]))])) (vp_Si (fun r : Int32 => r = 1)) 0 0 (fun _ => False) := by
  refine Met.ofW (cc := cX3_takeStatements) (maxL := 4) (ret := (some .boolean)) (by decide) rfl ?_
  intro pp_ ee_ ss_ mm_ args below meth cc_ s₁ B hml hv
  obtain ⟨rfl, hP, hE⟩ := hv
  have hx := B.exec
  have hb := B.bytes
  have hr := B.returns
  have hts := atoms_spec (ws := wsX3_takeStatements) B.pre
  have hown : ss_.vm.findClass RX3 = some mm_.cls := findClass_of_methodNamed B.named
  have hlocks := B.notSynchronized
  have hK := hE.1
  have hP : va_P (dC, dI) vwCl [(x3, .inr (3, [.ref tk, .ref pp, .int 0, .int 0])), (tk, .inr (7, [.ref ka, .ref kb, .ref kc, .int 1, .int 0, .int 0, .int 0, .int 0]))] ss_.heap := hP
  have hl := lv_entry ([.ref x3, .int (-1), .int 0]) (n := 4) (Nat.le_of_ble_eq_true rfl)
  rw [lg_entry_eq]
  generalize (lg_sl ([.ref x3, .int (-1), .int 0]) ++ List.replicate (4 - (lg_sl ([.ref x3, .int (-1), .int 0])).length) Slot.unset).toArray = ls at hl ⊢
  have hl : lv_has ls 4 [(0, .ref x3), (1, .int (-1)), (2, .int 0)] := hl
  refine lv_iconst (v := 0) hx hb dX3_takeStatements_0 (by decide) ?_
  refine lv_istore_n (lv' := [(3, .int 0), (0, .ref x3), (1, .int (-1)), (2, .int 0)]) hx hb dX3_takeStatements_1 rfl hl (by decide) rfl (fun ls hl => ?_)
  refine lv_iload_n hx hb dX3_takeStatements_2 rfl (lv_at hl 0 rfl) ?_
  refine lv_bipush (v := 30) hx hb dX3_takeStatements_3 (by decide) ?_
  refine lv_icmp_gt (tgt := 42) hx hb dX3_takeStatements_5 (by decide) (fun c_1 => absurd c_1 (by decide)) (fun _ => ?_)
  refine lv_aload_n hx hb dX3_takeStatements_8 rfl (lv_at hl 1 rfl) ?_
  refine vp_callSi (va_Run.run (va_runV (As := []) (rest := []) ⟨hx, hb, hml, hown, hts⟩ (c_begins l dC dI cI cJ cS  x3 tk pp ka kb kc ) (cwV 0 hts gX3_takeStatements_X3_beginsStatement rfl rfl rfl (by decide +kernel) ⟨Nat.le_of_ble_eq_true rfl, Nat.le_of_ble_eq_true rfl⟩) (preRV (hP.sub (ws' := [(x3, .inr (3, [.ref tk, .ref pp, .int 0, .int 0])), (tk, .inr (7, [.ref ka, .ref kb, .ref kc, .int 1, .int 0, .int 0, .int 0, .int 0]))]) [0, 1] rfl) hE 0 (ci := 3) rfl rfl) rfl rfl hl.1 rfl (lv_room (Nat.le_of_ble_eq_true rfl)) dX3_takeStatements_9 ⟨by decide +kernel, by decide +kernel⟩)) (fun r_2 hr_3 => ?_)
  obtain rfl := hr_3
  refine lv_if_eq (tgt := 42) hx hb dX3_takeStatements_12 (by decide) (fun _ => ?_) (fun c_4 => absurd (by decide) c_4)
  refine lv_iconst (v := 1) hx hb dX3_takeStatements_42 (by decide) ?_
  exact W.zret (v := 1) hx hb hr (by decide) (fun tt_ ht hW => ⟨_, rfl, rfl, ht⟩) (fun _ h => by cases h) dX3_takeStatements_43
set_option maxHeartbeats 1000000 in
set_option maxRecDepth 100000 in
theorem c_parse (l : Launch) (dC : Nat → ClassId) (dI : Nat → Nat → Nat) (cI cJ cS : ClassId) (sz : Nat) (x3 : Nat) (x2 : Nat) (xb : Nat) (tk : Nat) (pp : Nat) (ka : Nat) (kb : Nat) (kc : Nat) (pps : Nat) (ppc : Nat)  : Met l yX3_parse wsX3_parse ({ frames := 2, cells := 0, slots := 0, locals := 47 }) (va_Pc [.ref x3, .ref x2] (PE dC dI cI cJ cS [(x2, .inr (6, [.ref xb, .int 0])), (x3, .inr (3, [.ref tk, .ref pp, .int 0, .int 0])), (tk, .inr (7, [.ref ka, .ref kb, .ref kc, .int 0, .int 0, .int 0, .int 0, .int 0])), (ka, aI cI 301 (fun _ => 0)), (kb, aI cI 301 (fun _ => 0)), (kc, aI cI 301 (fun _ => 0)), (pp, .inr (4, [.ref pps, .ref ppc, .int 0, .int 0, .int 0, .int 0]))] sz)) (va_Qi (fun (r : Int32) (_ : Unit) => r = (-1)) (BE dC dI (va_A [(x2, .inr (6, [.ref xb, .int 0])), (x3, .inr (3, [.ref tk, .ref pp, .int 0, .int 0])), (tk, .inr (7, [.ref ka, .ref kb, .ref kc, .int 0, .int 0, .int 0, .int 0, .int 0])), (ka, aI cI 301 (fun _ => 0)), (kb, aI cI 301 (fun _ => 0)), (kc, aI cI 301 (fun _ => 0)), (pp, .inr (4, [.ref pps, .ref ppc, .int 0, .int 0, .int 0, .int 0]))] sz) (fun (_ : Unit) => [(x3, .inr (3, [.ref tk, .ref pp, .int 0, .int 0])), (pp, .inr (4, [.ref pps, .ref ppc, .int 0, .int 0, .int 0, .int 0])), (x2, .inr (6, [.ref xb, .int 0])), (tk, .inr (7, [.ref ka, .ref kb, .ref kc, .int 1, .int 0, .int 0, .int 0, .int 0])), (ka, aI cI 301 (upd (fun _ => 0) 0 0)), (kb, aI cI 301 (upd (fun _ => 0) 0 0)), (kc, aI cI 301 (upd (fun _ => 0) 0 0))])) (va_A [(x2, .inr (6, [.ref xb, .int 0])), (x3, .inr (3, [.ref tk, .ref pp, .int 0, .int 0])), (tk, .inr (7, [.ref ka, .ref kb, .ref kc, .int 0, .int 0, .int 0, .int 0, .int 0])), (ka, aI cI 301 (fun _ => 0)), (kb, aI cI 301 (fun _ => 0)), (kc, aI cI 301 (fun _ => 0)), (pp, .inr (4, [.ref pps, .ref ppc, .int 0, .int 0, .int 0, .int 0]))] sz)) 0 0 (va_A [(x2, .inr (6, [.ref xb, .int 0])), (x3, .inr (3, [.ref tk, .ref pp, .int 0, .int 0])), (tk, .inr (7, [.ref ka, .ref kb, .ref kc, .int 0, .int 0, .int 0, .int 0, .int 0])), (ka, aI cI 301 (fun _ => 0)), (kb, aI cI 301 (fun _ => 0)), (kc, aI cI 301 (fun _ => 0)), (pp, .inr (4, [.ref pps, .ref ppc, .int 0, .int 0, .int 0, .int 0]))] sz) := by
  refine Met.ofW (cc := cX3_parse) (maxL := 3) (ret := (some .int)) (by decide) rfl ?_
  intro pp_ ee_ ss_ mm_ args below meth cc_ s₁ B hml hv
  obtain ⟨rfl, hsz, hP, hE, hD0⟩ := hv
  have hx := B.exec
  have hb := B.bytes
  have hr := B.returns
  have hts := atoms_spec (ws := wsX3_parse) B.pre
  have hown : ss_.vm.findClass RX3 = some mm_.cls := findClass_of_methodNamed B.named
  have hlocks := B.notSynchronized
  have hK := hE.1
  have hiX3 : ∀ w ∈ wsX30, w ∈ wsX3_parse := by decide +kernel
  have hiX7 : ∀ w ∈ wsX70, w ∈ wsX3_parse := by decide +kernel
  subst hsz
  have hD := hD0.self (sz := ss_.heap.size)
  generalize hAe : va_A [(x2, .inr (6, [.ref xb, .int 0])), (x3, .inr (3, [.ref tk, .ref pp, .int 0, .int 0])), (tk, .inr (7, [.ref ka, .ref kb, .ref kc, .int 0, .int 0, .int 0, .int 0, .int 0])), (ka, aI cI 301 (fun _ => 0)), (kb, aI cI 301 (fun _ => 0)), (kc, aI cI 301 (fun _ => 0)), (pp, .inr (4, [.ref pps, .ref ppc, .int 0, .int 0, .int 0, .int 0]))] ss_.heap.size = A at hD ⊢
  have hA : ∀ q : Nat, ss_.heap.size ≤ q → A q := fun q h => by rw [← hAe]; exact Or.inr h
  have hS : va_S A ss_.heap ss_.heap [] := va_S.rf
  have hP : va_P (dC, dI) vwCl [(x2, .inr (6, [.ref xb, .int 0])), (x3, .inr (3, [.ref tk, .ref pp, .int 0, .int 0])), (tk, .inr (7, [.ref ka, .ref kb, .ref kc, .int 0, .int 0, .int 0, .int 0, .int 0])), (ka, aI cI 301 (fun _ => 0)), (kb, aI cI 301 (fun _ => 0)), (kc, aI cI 301 (fun _ => 0)), (pp, .inr (4, [.ref pps, .ref ppc, .int 0, .int 0, .int 0, .int 0]))] ss_.heap := hP
  have hl := lv_entry ([.ref x3, .ref x2]) (n := 3) (Nat.le_of_ble_eq_true rfl)
  rw [lg_entry_eq]
  generalize (lg_sl ([.ref x3, .ref x2]) ++ List.replicate (3 - (lg_sl ([.ref x3, .ref x2])).length) Slot.unset).toArray = ls at hl ⊢
  have hl : lv_has ls 3 [(0, .ref x3), (1, .ref x2)] := hl
  refine lv_aload_n hx hb dX3_parse_0 rfl (lv_at hl 0 rfl) ?_
  refine va_get (D := (dC, dI)) (ci := 3) (v := .ref pp) (C := RX3) (T := TX3) (N := 4) hx hb hts hiX3 hown hK hP 1 rfl rfl 1 (by decide) (hts (.fieldLink RX3 21 "WatchedPrograms$Parser" "program" "LWatchedPrograms$Program;") (by decide +kernel)) (fun _ h9 => h9) rfl dX3_parse_1 ?_
  have hFc := va_free (wc := [(pp, .inr (4, [.ref pps, .ref ppc, .int 0, .int 0, .int 0, .int 0]))]) hD hS hA [6] rfl
  refine zCv (wr := [(x2, .inr (6, [.ref xb, .int 0])), (x3, .inr (3, [.ref tk, .ref pp, .int 0, .int 0])), (tk, .inr (7, [.ref ka, .ref kb, .ref kc, .int 0, .int 0, .int 0, .int 0, .int 0])), (ka, aI cI 301 (fun _ => 0)), (kb, aI cI 301 (fun _ => 0)), (kc, aI cI 301 (fun _ => 0))]) hP hD hS hFc [6] [0, 1, 2, 3, 4, 5] rfl rfl (by decide) (by decide) (va_runV (As := []) (rest := []) ⟨hx, hb, hml, hown, hts⟩ (c_preset l dC dI cI cJ cS ss_.heap.size pp pps ppc ) (cwV 0 hts gX3_parse_X4_reset rfl rfl rfl (by decide +kernel) ⟨Nat.le_of_ble_eq_true rfl, Nat.le_of_ble_eq_true rfl⟩) (preEV (hP.sub (ws' := [(pp, .inr (4, [.ref pps, .ref ppc, .int 0, .int 0, .int 0, .int 0]))]) [6] rfl) hE (hD.sub (ws' := [(pp, .inr (4, [.ref pps, .ref ppc, .int 0, .int 0, .int 0, .int 0]))]) [6] (by decide) rfl) 0 (ci := 4) rfl rfl) rfl rfl hl.1 rfl (lv_room (Nat.le_of_ble_eq_true rfl)) dX3_parse_4 ⟨by decide +kernel, by decide +kernel⟩) (fun u_3 H locs hr_2 hP hD hS => ?_)
  try dsimp only at hr_2
  have hP : va_P (dC, dI) vwCl [(x2, .inr (6, [.ref xb, .int 0])), (x3, .inr (3, [.ref tk, .ref pp, .int 0, .int 0])), (tk, .inr (7, [.ref ka, .ref kb, .ref kc, .int 0, .int 0, .int 0, .int 0, .int 0])), (ka, aI cI 301 (fun _ => 0)), (kb, aI cI 301 (fun _ => 0)), (kc, aI cI 301 (fun _ => 0)), (pp, .inr (4, [.ref pps, .ref ppc, .int 0, .int 0, .int 0, .int 0]))] H := hP
  have hD : va_D A [(x2, .inr (6, [.ref xb, .int 0])), (x3, .inr (3, [.ref tk, .ref pp, .int 0, .int 0])), (tk, .inr (7, [.ref ka, .ref kb, .ref kc, .int 0, .int 0, .int 0, .int 0, .int 0])), (ka, aI cI 301 (fun _ => 0)), (kb, aI cI 301 (fun _ => 0)), (kc, aI cI 301 (fun _ => 0)), (pp, .inr (4, [.ref pps, .ref ppc, .int 0, .int 0, .int 0, .int 0]))] := hD
  refine lv_aload_n hx hb dX3_parse_7 rfl (lv_at hl 0 rfl) ?_
  refine va_get (D := (dC, dI)) (ci := 3) (v := .ref tk) (C := RX3) (T := TX3) (N := 4) hx hb hts hiX3 hown hK hP 1 rfl rfl 0 (by decide) (hts (.fieldLink RX3 12 "WatchedPrograms$Parser" "tokens" "LWatchedPrograms$Tokens;") (by decide +kernel)) (fun _ h9 => h9) rfl dX3_parse_8 ?_
  refine lv_aload_n hx hb dX3_parse_11 rfl (lv_at hl 1 rfl) ?_
  have hFc := va_free (wc := [(tk, .inr (7, [.ref ka, .ref kb, .ref kc, .int 0, .int 0, .int 0, .int 0, .int 0])), (ka, aI cI 301 (fun _ => 0)), (kb, aI cI 301 (fun _ => 0)), (kc, aI cI 301 (fun _ => 0)), (x2, .inr (6, [.ref xb, .int 0]))]) hD hS hA [2, 3, 4, 5, 0] rfl
  refine zCv (wr := [(x3, .inr (3, [.ref tk, .ref pp, .int 0, .int 0])), (pp, .inr (4, [.ref pps, .ref ppc, .int 0, .int 0, .int 0, .int 0]))]) hP hD hS hFc [2, 3, 4, 5, 0] [1, 6] rfl rfl (by decide) (by decide) (va_runV (As := [.ref x2]) (rest := []) ⟨hx, hb, hml, hown, hts⟩ (c_cut l dC dI cI cJ cS H.size tk x2 ka kb kc xb ) (cwV 1 hts gX3_parse_X7_cut rfl rfl rfl (by decide +kernel) ⟨Nat.le_of_ble_eq_true rfl, Nat.le_of_ble_eq_true rfl⟩) (preEV (hP.sub (ws' := [(tk, .inr (7, [.ref ka, .ref kb, .ref kc, .int 0, .int 0, .int 0, .int 0, .int 0])), (ka, aI cI 301 (fun _ => 0)), (kb, aI cI 301 (fun _ => 0)), (kc, aI cI 301 (fun _ => 0)), (x2, .inr (6, [.ref xb, .int 0]))]) [2, 3, 4, 5, 0] rfl) hE (hD.sub (ws' := [(tk, .inr (7, [.ref ka, .ref kb, .ref kc, .int 0, .int 0, .int 0, .int 0, .int 0])), (ka, aI cI 301 (fun _ => 0)), (kb, aI cI 301 (fun _ => 0)), (kc, aI cI 301 (fun _ => 0)), (x2, .inr (6, [.ref xb, .int 0]))]) [2, 3, 4, 5, 0] (by decide) rfl) 0 (ci := 7) rfl rfl) rfl rfl hl.1 rfl (lv_room (Nat.le_of_ble_eq_true rfl)) dX3_parse_12 ⟨by decide +kernel, by decide +kernel⟩) (fun u_6 H locs hr_5 hP hD hS => ?_)
  try dsimp only at hr_5
  have hP : va_P (dC, dI) vwCl [(x3, .inr (3, [.ref tk, .ref pp, .int 0, .int 0])), (pp, .inr (4, [.ref pps, .ref ppc, .int 0, .int 0, .int 0, .int 0])), (x2, .inr (6, [.ref xb, .int 0])), (tk, .inr (7, [.ref ka, .ref kb, .ref kc, .int 1, .int 0, .int 0, .int 0, .int 0])), (ka, aI cI 301 (upd (fun _ => 0) 0 0)), (kb, aI cI 301 (upd (fun _ => 0) 0 0)), (kc, aI cI 301 (upd (fun _ => 0) 0 0))] H := hP
  have hD : va_D A [(x3, .inr (3, [.ref tk, .ref pp, .int 0, .int 0])), (pp, .inr (4, [.ref pps, .ref ppc, .int 0, .int 0, .int 0, .int 0])), (x2, .inr (6, [.ref xb, .int 0])), (tk, .inr (7, [.ref ka, .ref kb, .ref kc, .int 1, .int 0, .int 0, .int 0, .int 0])), (ka, aI cI 301 (upd (fun _ => 0) 0 0)), (kb, aI cI 301 (upd (fun _ => 0) 0 0)), (kc, aI cI 301 (upd (fun _ => 0) 0 0))] := hD
  refine lv_aload_n hx hb dX3_parse_15 rfl (lv_at hl 0 rfl) ?_
  refine lv_iconst (v := (-1)) hx hb dX3_parse_16 (by decide) ?_
  refine lv_iconst (v := 0) hx hb dX3_parse_17 (by decide) ?_
  refine vp_callSi (va_Run.run (va_runV (As := [.int (-1), .int 0]) (rest := []) ⟨hx, hb, hml, hown, hts⟩ (c_takeStatements l dC dI cI cJ cS  x3 tk pp ka kb kc ) (cwV 2 hts gX3_parse_X3_takeStatements rfl rfl rfl (by decide +kernel) ⟨Nat.le_of_ble_eq_true rfl, Nat.le_of_ble_eq_true rfl⟩) (preRV (hP.sub (ws' := [(x3, .inr (3, [.ref tk, .ref pp, .int 0, .int 0])), (tk, .inr (7, [.ref ka, .ref kb, .ref kc, .int 1, .int 0, .int 0, .int 0, .int 0]))]) [0, 3] rfl) hE 0 (ci := 3) rfl rfl) rfl rfl hl.1 rfl (lv_room (Nat.le_of_ble_eq_true rfl)) dX3_parse_18 ⟨by decide +kernel, by decide +kernel⟩)) (fun r_7 hr_8 => ?_)
  obtain rfl := hr_8
  refine lv_if_eq (tgt := 38) hx hb dX3_parse_21 (by decide) (fun c_9 => absurd c_9 (by decide)) (fun _ => ?_)
  refine lv_aload_n hx hb dX3_parse_24 rfl (lv_at hl 0 rfl) ?_
  refine va_get (D := (dC, dI)) (ci := 3) (v := .ref tk) (C := RX3) (T := TX3) (N := 4) hx hb hts hiX3 hown hK hP 0 rfl rfl 0 (by decide) (hts (.fieldLink RX3 12 "WatchedPrograms$Parser" "tokens" "LWatchedPrograms$Tokens;") (by decide +kernel)) (fun _ h9 => h9) rfl dX3_parse_25 ?_
  refine va_get (D := (dC, dI)) (ci := 7) (v := .int 0) (C := RX7) (T := TX7) (N := 8) hx hb hts hiX7 hown hK hP 3 rfl rfl 5 (by decide) (hts (.fieldLink RX3 36 "WatchedPrograms$Tokens" "kind" "I") (by decide +kernel)) (fun _ h9 => h9) rfl dX3_parse_28 ?_
  refine lv_if_ne (tgt := 38) hx hb dX3_parse_31 (by decide) (fun c_10 => absurd (by decide) c_10) (fun _ => ?_)
  refine lv_iconst (v := 1) hx hb dX3_parse_34 (by decide) ?_
  refine lv_goto (tgt := 39) hx hb dX3_parse_35 (by decide) ?_
  refine lv_istore_n (lv' := [(2, .int 1), (0, .ref x3), (1, .ref x2)]) hx hb dX3_parse_39 rfl hl (by decide) rfl (fun ls hl => ?_)
  refine lv_iload_n hx hb dX3_parse_40 rfl (lv_at hl 0 rfl) ?_
  refine lv_if_eq (tgt := 48) hx hb dX3_parse_41 (by decide) (fun c_11 => absurd c_11 (by decide)) (fun _ => ?_)
  refine lv_iconst (v := (-1)) hx hb dX3_parse_44 (by decide) ?_
  refine lv_goto (tgt := 55) hx hb dX3_parse_45 (by decide) ?_
  have hP9 := hP.sub (ws' := [(x3, .inr (3, [.ref tk, .ref pp, .int 0, .int 0])), (pp, .inr (4, [.ref pps, .ref ppc, .int 0, .int 0, .int 0, .int 0])), (x2, .inr (6, [.ref xb, .int 0])), (tk, .inr (7, [.ref ka, .ref kb, .ref kc, .int 1, .int 0, .int 0, .int 0, .int 0])), (ka, aI cI 301 (upd (fun _ => 0) 0 0)), (kb, aI cI 301 (upd (fun _ => 0) 0 0)), (kc, aI cI 301 (upd (fun _ => 0) 0 0))]) [0, 1, 2, 3, 4, 5, 6] rfl
  have hD9 := hD.sub (ws' := [(x3, .inr (3, [.ref tk, .ref pp, .int 0, .int 0])), (pp, .inr (4, [.ref pps, .ref ppc, .int 0, .int 0, .int 0, .int 0])), (x2, .inr (6, [.ref xb, .int 0])), (tk, .inr (7, [.ref ka, .ref kb, .ref kc, .int 1, .int 0, .int 0, .int 0, .int 0])), (ka, aI cI 301 (upd (fun _ => 0) 0 0)), (kb, aI cI 301 (upd (fun _ => 0) 0 0)), (kc, aI cI 301 (upd (fun _ => 0) 0 0))]) [0, 1, 2, 3, 4, 5, 6] (by decide) rfl
  exact W.iret (v := (-1)) hx hb hr (fun tt_ ht hW => ⟨⟨_, (), rfl, rfl, by rw [ht]; exact hP9, hD9⟩, hS.F ht⟩) hS.2.2 dX3_parse_55
