set_option maxHeartbeats 1000000 in
set_option maxRecDepth 100000 in
theorem m_in (l : Launch) (dC : Nat → ClassId) (dI : Nat → Nat → Nat) (cI cJ cS : ClassId) (v : Int32) (a : Int32) (b : Int32)  : Met l yX10_in wsX10_in ({ frames := 0, cells := 0, slots := 0, locals := 0 }) (va_Pc [.int v, .int a, .int b] (PR dC dI cI cJ cS [])) (vp_Si (fun r : Int32 => r = bI (inR v a b))) 0 0 (fun _ => False) := by
  refine Met.ofW (cc := cX10_in) (maxL := 3) (ret := (some .boolean)) (by decide) rfl ?_
  intro pp_ ee_ ss_ mm_ args below meth cc_ s₁ B hml hv
  obtain ⟨rfl, hP, hE⟩ := hv
  have hx := B.exec
  have hb := B.bytes
  have hr := B.returns
  have hts := atoms_spec (ws := wsX10_in) B.pre
  have hown : ss_.vm.findClass RX10 = some mm_.cls := findClass_of_methodNamed B.named
  have hlocks := B.notSynchronized
  have hK := hE.1
  have hP : va_P (dC, dI) vwCl [] ss_.heap := hP
  have hl := lv_entry ([.int v, .int a, .int b]) (n := 3) (Nat.le_of_ble_eq_true rfl)
  rw [lg_entry_eq]
  generalize (lg_sl ([.int v, .int a, .int b]) ++ List.replicate (3 - (lg_sl ([.int v, .int a, .int b])).length) Slot.unset).toArray = ls at hl ⊢
  have hl : lv_has ls 3 [(0, .int v), (1, .int a), (2, .int b)] := hl
  refine lv_iload_n hx hb dX10_in_0 rfl (lv_at hl 0 rfl) ?_
  refine lv_iload_n hx hb dX10_in_1 rfl (lv_at hl 1 rfl) ?_
  refine lv_icmp_lt (tgt := 14) hx hb dX10_in_2 (by decide) (fun c_1 => ?_) (fun c_1 => ?_)
  · refine lv_iconst (v := 0) hx hb dX10_in_14 (by decide) ?_
    exact W.zret (v := 0) hx hb hr (by decide) (fun tt_ ht hW => ⟨_, rfl, (bI_f (by (simp only [inR, Int32.lt_iff_toInt_lt, Int32.le_iff_toInt_le, ← Int32.toInt_inj, tI_0, tI_1, tI_2, tI_3, tI_4, tI_5, tI_6, tI_7, tI_8, tI_20, tI_30, tI_300, tI_400, tI_4095, tI_4096, tI_m1, tI_m2, tI_m3, tI_m9] at c_1 ⊢ <;> omega))).symm, ht⟩) (fun _ h => by cases h) dX10_in_15
  · refine lv_iload_n hx hb dX10_in_5 rfl (lv_at hl 0 rfl) ?_
    refine lv_iload_n hx hb dX10_in_6 rfl (lv_at hl 2 rfl) ?_
    refine lv_icmp_gt (tgt := 14) hx hb dX10_in_7 (by decide) (fun c_2 => ?_) (fun c_2 => ?_)
    · refine lv_iconst (v := 0) hx hb dX10_in_14 (by decide) ?_
      exact W.zret (v := 0) hx hb hr (by decide) (fun tt_ ht hW => ⟨_, rfl, (bI_f (by (simp only [inR, Int32.lt_iff_toInt_lt, Int32.le_iff_toInt_le, ← Int32.toInt_inj, tI_0, tI_1, tI_2, tI_3, tI_4, tI_5, tI_6, tI_7, tI_8, tI_20, tI_30, tI_300, tI_400, tI_4095, tI_4096, tI_m1, tI_m2, tI_m3, tI_m9] at c_1 c_2 ⊢ <;> omega))).symm, ht⟩) (fun _ h => by cases h) dX10_in_15
    · refine lv_iconst (v := 1) hx hb dX10_in_10 (by decide) ?_
      refine lv_goto (tgt := 15) hx hb dX10_in_11 (by decide) ?_
      exact W.zret (v := 1) hx hb hr (by decide) (fun tt_ ht hW => ⟨_, rfl, (bI_t (by (simp only [inR, Int32.lt_iff_toInt_lt, Int32.le_iff_toInt_le, ← Int32.toInt_inj, tI_0, tI_1, tI_2, tI_3, tI_4, tI_5, tI_6, tI_7, tI_8, tI_20, tI_30, tI_300, tI_400, tI_4095, tI_4096, tI_m1, tI_m2, tI_m3, tI_m9] at c_1 c_2 ⊢ <;> omega))).symm, ht⟩) (fun _ h => by cases h) dX10_in_15
set_option maxHeartbeats 1000000 in
set_option maxRecDepth 100000 in
theorem m_isWithin (l : Launch) (dC : Nat → ClassId) (dI : Nat → Nat → Nat) (cI cJ cS : ClassId) (w : Int32)  : Met l yX10_isWithin wsX10_isWithin ({ frames := 0, cells := 0, slots := 0, locals := 0 }) (va_Pc [.int 0, .int w] (PR dC dI cI cJ cS [])) (vp_Si (fun r : Int32 => r = 1)) 0 0 (fun _ => False) := by
  refine Met.ofW (cc := cX10_isWithin) (maxL := 2) (ret := (some .boolean)) (by decide) rfl ?_
  intro pp_ ee_ ss_ mm_ args below meth cc_ s₁ B hml hv
  obtain ⟨rfl, hP, hE⟩ := hv
  have hx := B.exec
  have hb := B.bytes
  have hr := B.returns
  have hts := atoms_spec (ws := wsX10_isWithin) B.pre
  have hown : ss_.vm.findClass RX10 = some mm_.cls := findClass_of_methodNamed B.named
  have hlocks := B.notSynchronized
  have hK := hE.1
  have hP : va_P (dC, dI) vwCl [] ss_.heap := hP
  have hl := lv_entry ([.int 0, .int w]) (n := 2) (Nat.le_of_ble_eq_true rfl)
  rw [lg_entry_eq]
  generalize (lg_sl ([.int 0, .int w]) ++ List.replicate (2 - (lg_sl ([.int 0, .int w])).length) Slot.unset).toArray = ls at hl ⊢
  have hl : lv_has ls 2 [(0, .int 0), (1, .int w)] := hl
  refine lv_iload_n hx hb dX10_isWithin_0 rfl (lv_at hl 0 rfl) ?_
  refine lv_iload_n hx hb dX10_isWithin_1 rfl (lv_at hl 1 rfl) ?_
  refine lv_iconst (v := (-1)) hx hb dX10_isWithin_2 (by decide) ?_
  refine lv_ixor hx hb dX10_isWithin_3 ?_
  refine lv_iand hx hb dX10_isWithin_4 ?_
  refine zi (y := 0) (Int32.zero_and) ?_
  refine lv_if_ne (tgt := 12) hx hb dX10_isWithin_5 (by decide) (fun c_1 => absurd (by decide) c_1) (fun _ => ?_)
  refine lv_iconst (v := 1) hx hb dX10_isWithin_8 (by decide) ?_
  refine lv_goto (tgt := 13) hx hb dX10_isWithin_9 (by decide) ?_
  exact W.zret (v := 1) hx hb hr (by decide) (fun tt_ ht hW => ⟨_, rfl, rfl, ht⟩) (fun _ h => by cases h) dX10_isWithin_13
set_option maxHeartbeats 1000000 in
set_option maxRecDepth 100000 in
theorem m_least (l : Launch) (dC : Nat → ClassId) (dI : Nat → Nat → Nat) (cI cJ cS : ClassId)   : Met l yX10_least wsX10_least ({ frames := 0, cells := 0, slots := 0, locals := 0 }) (va_Pc [.int 0, .int 20] (PR dC dI cI cJ cS [])) (vp_Si (fun r : Int32 => r = 0)) 0 0 (fun _ => False) := by
  refine Met.ofW (cc := cX10_least) (maxL := 2) (ret := (some .int)) (by decide) rfl ?_
  intro pp_ ee_ ss_ mm_ args below meth cc_ s₁ B hml hv
  obtain ⟨rfl, hP, hE⟩ := hv
  have hx := B.exec
  have hb := B.bytes
  have hr := B.returns
  have hts := atoms_spec (ws := wsX10_least) B.pre
  have hown : ss_.vm.findClass RX10 = some mm_.cls := findClass_of_methodNamed B.named
  have hlocks := B.notSynchronized
  have hK := hE.1
  have hP : va_P (dC, dI) vwCl [] ss_.heap := hP
  have hl := lv_entry ([.int 0, .int 20]) (n := 2) (Nat.le_of_ble_eq_true rfl)
  rw [lg_entry_eq]
  generalize (lg_sl ([.int 0, .int 20]) ++ List.replicate (2 - (lg_sl ([.int 0, .int 20])).length) Slot.unset).toArray = ls at hl ⊢
  have hl : lv_has ls 2 [(0, .int 0), (1, .int 20)] := hl
  refine lv_iload_n hx hb dX10_least_0 rfl (lv_at hl 0 rfl) ?_
  refine lv_iload_n hx hb dX10_least_1 rfl (lv_at hl 1 rfl) ?_
  refine lv_icmp_ge (tgt := 9) hx hb dX10_least_2 (by decide) (fun c_1 => absurd c_1 (by decide)) (fun _ => ?_)
  refine lv_iload_n hx hb dX10_least_5 rfl (lv_at hl 0 rfl) ?_
  refine lv_goto (tgt := 10) hx hb dX10_least_6 (by decide) ?_
  exact W.iret (v := 0) hx hb hr (fun tt_ ht hW => ⟨_, rfl, rfl, ht⟩) (fun _ h => by cases h) dX10_least_10
set_option maxHeartbeats 1000000 in
set_option maxRecDepth 100000 in
theorem m_ones (l : Launch) (dC : Nat → ClassId) (dI : Nat → Nat → Nat) (cI cJ cS : ClassId)   : Met l yX10_ones wsX10_ones ({ frames := 0, cells := 0, slots := 0, locals := 0 }) (va_Pc [.int 0] (PR dC dI cI cJ cS [])) (vp_Si (fun r : Int32 => r = 0)) 0 0 (fun _ => False) := by
  refine Met.ofW (cc := cX10_ones) (maxL := 3) (ret := (some .int)) (by decide) rfl ?_
  intro pp_ ee_ ss_ mm_ args below meth cc_ s₁ B hml hv
  obtain ⟨rfl, hP, hE⟩ := hv
  have hx := B.exec
  have hb := B.bytes
  have hr := B.returns
  have hts := atoms_spec (ws := wsX10_ones) B.pre
  have hown : ss_.vm.findClass RX10 = some mm_.cls := findClass_of_methodNamed B.named
  have hlocks := B.notSynchronized
  have hK := hE.1
  have hP : va_P (dC, dI) vwCl [] ss_.heap := hP
  have hl := lv_entry ([.int 0]) (n := 3) (Nat.le_of_ble_eq_true rfl)
  rw [lg_entry_eq]
  generalize (lg_sl ([.int 0]) ++ List.replicate (3 - (lg_sl ([.int 0])).length) Slot.unset).toArray = ls at hl ⊢
  have hl : lv_has ls 3 [(0, .int 0)] := hl
  refine lv_iconst (v := 0) hx hb dX10_ones_0 (by decide) ?_
  refine lv_istore_n (lv' := [(1, .int 0), (0, .int 0)]) hx hb dX10_ones_1 rfl hl (by decide) rfl (fun ls hl => ?_)
  refine lv_iconst (v := 0) hx hb dX10_ones_2 (by decide) ?_
  refine lv_istore_n (lv' := [(2, .int 0), (1, .int 0), (0, .int 0)]) hx hb dX10_ones_3 rfl hl (by decide) rfl (fun ls hl => ?_)
  refine lv_iload_n hx hb dX10_ones_4 rfl (lv_at hl 0 rfl) ?_
  refine lv_bipush (v := 8) hx hb dX10_ones_5 (by decide) ?_
  refine lv_icmp_ge (tgt := 24) hx hb dX10_ones_7 (by decide) (fun c_1 => absurd c_1 (by decide)) (fun _ => ?_)
  refine lv_iload_n hx hb dX10_ones_10 rfl (lv_at hl 1 rfl) ?_
  refine lv_iload_n hx hb dX10_ones_11 rfl (lv_at hl 2 rfl) ?_
  refine lv_iload_n hx hb dX10_ones_12 rfl (lv_at hl 0 rfl) ?_
  refine lv_ishr hx hb dX10_ones_13 ?_
  refine zi (y := 0) (by decide) ?_
  refine lv_iconst (v := 1) hx hb dX10_ones_14 (by decide) ?_
  refine lv_iand hx hb dX10_ones_15 ?_
  refine zi (y := 0) (by decide) ?_
  refine lv_iadd hx hb dX10_ones_16 ?_
  refine zi (y := 0) (by decide) ?_
  refine lv_istore_n (lv' := [(1, .int 0), (2, .int 0), (0, .int 0)]) hx hb dX10_ones_17 rfl hl (by decide) rfl (fun ls hl => ?_)
  refine lv_iinc (v := 1) (lv' := [(2, .int 1), (1, .int 0), (0, .int 0)]) hx hb dX10_ones_18 hl (k := 1) rfl (by decide) (by decide) rfl (fun ls hl => ?_)
  refine lv_goto (tgt := 4) hx hb dX10_ones_21 (by decide) ?_
  refine lv_iload_n hx hb dX10_ones_4 rfl (lv_at hl 0 rfl) ?_
  refine lv_bipush (v := 8) hx hb dX10_ones_5 (by decide) ?_
  refine lv_icmp_ge (tgt := 24) hx hb dX10_ones_7 (by decide) (fun c_2 => absurd c_2 (by decide)) (fun _ => ?_)
  refine lv_iload_n hx hb dX10_ones_10 rfl (lv_at hl 1 rfl) ?_
  refine lv_iload_n hx hb dX10_ones_11 rfl (lv_at hl 2 rfl) ?_
  refine lv_iload_n hx hb dX10_ones_12 rfl (lv_at hl 0 rfl) ?_
  refine lv_ishr hx hb dX10_ones_13 ?_
  refine zi (y := 0) (by decide) ?_
  refine lv_iconst (v := 1) hx hb dX10_ones_14 (by decide) ?_
  refine lv_iand hx hb dX10_ones_15 ?_
  refine zi (y := 0) (by decide) ?_
  refine lv_iadd hx hb dX10_ones_16 ?_
  refine zi (y := 0) (by decide) ?_
  refine lv_istore_n (lv' := [(1, .int 0), (2, .int 1), (0, .int 0)]) hx hb dX10_ones_17 rfl hl (by decide) rfl (fun ls hl => ?_)
  refine lv_iinc (v := 2) (lv' := [(2, .int 2), (1, .int 0), (0, .int 0)]) hx hb dX10_ones_18 hl (k := 1) rfl (by decide) (by decide) rfl (fun ls hl => ?_)
  refine lv_goto (tgt := 4) hx hb dX10_ones_21 (by decide) ?_
  refine lv_iload_n hx hb dX10_ones_4 rfl (lv_at hl 0 rfl) ?_
  refine lv_bipush (v := 8) hx hb dX10_ones_5 (by decide) ?_
  refine lv_icmp_ge (tgt := 24) hx hb dX10_ones_7 (by decide) (fun c_3 => absurd c_3 (by decide)) (fun _ => ?_)
  refine lv_iload_n hx hb dX10_ones_10 rfl (lv_at hl 1 rfl) ?_
  refine lv_iload_n hx hb dX10_ones_11 rfl (lv_at hl 2 rfl) ?_
  refine lv_iload_n hx hb dX10_ones_12 rfl (lv_at hl 0 rfl) ?_
  refine lv_ishr hx hb dX10_ones_13 ?_
  refine zi (y := 0) (by decide) ?_
  refine lv_iconst (v := 1) hx hb dX10_ones_14 (by decide) ?_
  refine lv_iand hx hb dX10_ones_15 ?_
  refine zi (y := 0) (by decide) ?_
  refine lv_iadd hx hb dX10_ones_16 ?_
  refine zi (y := 0) (by decide) ?_
  refine lv_istore_n (lv' := [(1, .int 0), (2, .int 2), (0, .int 0)]) hx hb dX10_ones_17 rfl hl (by decide) rfl (fun ls hl => ?_)
  refine lv_iinc (v := 3) (lv' := [(2, .int 3), (1, .int 0), (0, .int 0)]) hx hb dX10_ones_18 hl (k := 1) rfl (by decide) (by decide) rfl (fun ls hl => ?_)
  refine lv_goto (tgt := 4) hx hb dX10_ones_21 (by decide) ?_
  refine lv_iload_n hx hb dX10_ones_4 rfl (lv_at hl 0 rfl) ?_
  refine lv_bipush (v := 8) hx hb dX10_ones_5 (by decide) ?_
  refine lv_icmp_ge (tgt := 24) hx hb dX10_ones_7 (by decide) (fun c_4 => absurd c_4 (by decide)) (fun _ => ?_)
  refine lv_iload_n hx hb dX10_ones_10 rfl (lv_at hl 1 rfl) ?_
  refine lv_iload_n hx hb dX10_ones_11 rfl (lv_at hl 2 rfl) ?_
  refine lv_iload_n hx hb dX10_ones_12 rfl (lv_at hl 0 rfl) ?_
  refine lv_ishr hx hb dX10_ones_13 ?_
  refine zi (y := 0) (by decide) ?_
  refine lv_iconst (v := 1) hx hb dX10_ones_14 (by decide) ?_
  refine lv_iand hx hb dX10_ones_15 ?_
  refine zi (y := 0) (by decide) ?_
  refine lv_iadd hx hb dX10_ones_16 ?_
  refine zi (y := 0) (by decide) ?_
  refine lv_istore_n (lv' := [(1, .int 0), (2, .int 3), (0, .int 0)]) hx hb dX10_ones_17 rfl hl (by decide) rfl (fun ls hl => ?_)
  refine lv_iinc (v := 4) (lv' := [(2, .int 4), (1, .int 0), (0, .int 0)]) hx hb dX10_ones_18 hl (k := 1) rfl (by decide) (by decide) rfl (fun ls hl => ?_)
  refine lv_goto (tgt := 4) hx hb dX10_ones_21 (by decide) ?_
  refine lv_iload_n hx hb dX10_ones_4 rfl (lv_at hl 0 rfl) ?_
  refine lv_bipush (v := 8) hx hb dX10_ones_5 (by decide) ?_
  refine lv_icmp_ge (tgt := 24) hx hb dX10_ones_7 (by decide) (fun c_5 => absurd c_5 (by decide)) (fun _ => ?_)
  refine lv_iload_n hx hb dX10_ones_10 rfl (lv_at hl 1 rfl) ?_
  refine lv_iload_n hx hb dX10_ones_11 rfl (lv_at hl 2 rfl) ?_
  refine lv_iload_n hx hb dX10_ones_12 rfl (lv_at hl 0 rfl) ?_
  refine lv_ishr hx hb dX10_ones_13 ?_
  refine zi (y := 0) (by decide) ?_
  refine lv_iconst (v := 1) hx hb dX10_ones_14 (by decide) ?_
  refine lv_iand hx hb dX10_ones_15 ?_
  refine zi (y := 0) (by decide) ?_
  refine lv_iadd hx hb dX10_ones_16 ?_
  refine zi (y := 0) (by decide) ?_
  refine lv_istore_n (lv' := [(1, .int 0), (2, .int 4), (0, .int 0)]) hx hb dX10_ones_17 rfl hl (by decide) rfl (fun ls hl => ?_)
  refine lv_iinc (v := 5) (lv' := [(2, .int 5), (1, .int 0), (0, .int 0)]) hx hb dX10_ones_18 hl (k := 1) rfl (by decide) (by decide) rfl (fun ls hl => ?_)
  refine lv_goto (tgt := 4) hx hb dX10_ones_21 (by decide) ?_
  refine lv_iload_n hx hb dX10_ones_4 rfl (lv_at hl 0 rfl) ?_
  refine lv_bipush (v := 8) hx hb dX10_ones_5 (by decide) ?_
  refine lv_icmp_ge (tgt := 24) hx hb dX10_ones_7 (by decide) (fun c_6 => absurd c_6 (by decide)) (fun _ => ?_)
  refine lv_iload_n hx hb dX10_ones_10 rfl (lv_at hl 1 rfl) ?_
  refine lv_iload_n hx hb dX10_ones_11 rfl (lv_at hl 2 rfl) ?_
  refine lv_iload_n hx hb dX10_ones_12 rfl (lv_at hl 0 rfl) ?_
  refine lv_ishr hx hb dX10_ones_13 ?_
  refine zi (y := 0) (by decide) ?_
  refine lv_iconst (v := 1) hx hb dX10_ones_14 (by decide) ?_
  refine lv_iand hx hb dX10_ones_15 ?_
  refine zi (y := 0) (by decide) ?_
  refine lv_iadd hx hb dX10_ones_16 ?_
  refine zi (y := 0) (by decide) ?_
  refine lv_istore_n (lv' := [(1, .int 0), (2, .int 5), (0, .int 0)]) hx hb dX10_ones_17 rfl hl (by decide) rfl (fun ls hl => ?_)
  refine lv_iinc (v := 6) (lv' := [(2, .int 6), (1, .int 0), (0, .int 0)]) hx hb dX10_ones_18 hl (k := 1) rfl (by decide) (by decide) rfl (fun ls hl => ?_)
  refine lv_goto (tgt := 4) hx hb dX10_ones_21 (by decide) ?_
  refine lv_iload_n hx hb dX10_ones_4 rfl (lv_at hl 0 rfl) ?_
  refine lv_bipush (v := 8) hx hb dX10_ones_5 (by decide) ?_
  refine lv_icmp_ge (tgt := 24) hx hb dX10_ones_7 (by decide) (fun c_7 => absurd c_7 (by decide)) (fun _ => ?_)
  refine lv_iload_n hx hb dX10_ones_10 rfl (lv_at hl 1 rfl) ?_
  refine lv_iload_n hx hb dX10_ones_11 rfl (lv_at hl 2 rfl) ?_
  refine lv_iload_n hx hb dX10_ones_12 rfl (lv_at hl 0 rfl) ?_
  refine lv_ishr hx hb dX10_ones_13 ?_
  refine zi (y := 0) (by decide) ?_
  refine lv_iconst (v := 1) hx hb dX10_ones_14 (by decide) ?_
  refine lv_iand hx hb dX10_ones_15 ?_
  refine zi (y := 0) (by decide) ?_
  refine lv_iadd hx hb dX10_ones_16 ?_
  refine zi (y := 0) (by decide) ?_
  refine lv_istore_n (lv' := [(1, .int 0), (2, .int 6), (0, .int 0)]) hx hb dX10_ones_17 rfl hl (by decide) rfl (fun ls hl => ?_)
  refine lv_iinc (v := 7) (lv' := [(2, .int 7), (1, .int 0), (0, .int 0)]) hx hb dX10_ones_18 hl (k := 1) rfl (by decide) (by decide) rfl (fun ls hl => ?_)
  refine lv_goto (tgt := 4) hx hb dX10_ones_21 (by decide) ?_
  refine lv_iload_n hx hb dX10_ones_4 rfl (lv_at hl 0 rfl) ?_
  refine lv_bipush (v := 8) hx hb dX10_ones_5 (by decide) ?_
  refine lv_icmp_ge (tgt := 24) hx hb dX10_ones_7 (by decide) (fun c_8 => absurd c_8 (by decide)) (fun _ => ?_)
  refine lv_iload_n hx hb dX10_ones_10 rfl (lv_at hl 1 rfl) ?_
  refine lv_iload_n hx hb dX10_ones_11 rfl (lv_at hl 2 rfl) ?_
  refine lv_iload_n hx hb dX10_ones_12 rfl (lv_at hl 0 rfl) ?_
  refine lv_ishr hx hb dX10_ones_13 ?_
  refine zi (y := 0) (by decide) ?_
  refine lv_iconst (v := 1) hx hb dX10_ones_14 (by decide) ?_
  refine lv_iand hx hb dX10_ones_15 ?_
  refine zi (y := 0) (by decide) ?_
  refine lv_iadd hx hb dX10_ones_16 ?_
  refine zi (y := 0) (by decide) ?_
  refine lv_istore_n (lv' := [(1, .int 0), (2, .int 7), (0, .int 0)]) hx hb dX10_ones_17 rfl hl (by decide) rfl (fun ls hl => ?_)
  refine lv_iinc (v := 8) (lv' := [(2, .int 8), (1, .int 0), (0, .int 0)]) hx hb dX10_ones_18 hl (k := 1) rfl (by decide) (by decide) rfl (fun ls hl => ?_)
  refine lv_goto (tgt := 4) hx hb dX10_ones_21 (by decide) ?_
  refine lv_iload_n hx hb dX10_ones_4 rfl (lv_at hl 0 rfl) ?_
  refine lv_bipush (v := 8) hx hb dX10_ones_5 (by decide) ?_
  refine lv_icmp_ge (tgt := 24) hx hb dX10_ones_7 (by decide) (fun _ => ?_) (fun c_9 => absurd (by decide) c_9)
  refine lv_iload_n hx hb dX10_ones_24 rfl (lv_at hl 1 rfl) ?_
  exact W.iret (v := 0) hx hb hr (fun tt_ ht hW => ⟨_, rfl, rfl, ht⟩) (fun _ h => by cases h) dX10_ones_25
set_option maxHeartbeats 1000000 in
set_option maxRecDepth 100000 in
theorem m_isAsked (l : Launch) (dC : Nat → ClassId) (dI : Nat → Nat → Nat) (cI cJ cS : ClassId) (mm : Nat) (w : Int32) (t : Int32) (lev : Nat) (txt : Nat) (stm : Nat) (sm : Nat) (sgn : Nat) (vls : Nat) (opn : Nat) (opp : Nat) (bke : Nat) (bko : Nat) (bkl : Nat) (cel : Nat) (tap : Nat) (tpl : Nat) (rtp : Nat) (rlv : Nat) (sen : Nat) (hpo : Nat) (hpm : Nat) (bgn : Nat) (chn : Nat) (sgt : Nat) (rsd : Nat)  : Met l yX10_isAsked wsX10_isAsked ({ frames := 1, cells := 0, slots := 0, locals := 22 }) (va_Pc [.ref mm, .int w, .int t] (PR dC dI cI cJ cS [(mm, .inr (10, [.int 0, .ref lev, .ref txt, .int 0, .int 0, .int 0, .int 0, .int 0, .int 0, .int 0, .int 0, .ref stm, .ref sm, .int 0, .ref sgn, .ref vls, .ref opn, .ref opp, .ref bke, .ref bko, .ref bkl, .ref cel, .int 0, .int 0, .ref tap, .ref tpl, .int 0, .int 0, .ref rtp, .ref rlv, .int 0, .ref sen, .ref hpo, .ref hpm, .ref bgn, .ref chn, .ref sgt, .int 0, .int 0, .ref rsd]))])) (vp_Si (fun r : Int32 => r = bI (inR w 0 3 ∧ inR t 0 1))) 0 0 (fun _ => False) := by
  refine Met.ofW (cc := cX10_isAsked) (maxL := 3) (ret := (some .boolean)) (by decide) rfl ?_
  intro pp_ ee_ ss_ mm_ args below meth cc_ s₁ B hml hv
  obtain ⟨rfl, hP, hE⟩ := hv
  have hx := B.exec
  have hb := B.bytes
  have hr := B.returns
  have hts := atoms_spec (ws := wsX10_isAsked) B.pre
  have hown : ss_.vm.findClass RX10 = some mm_.cls := findClass_of_methodNamed B.named
  have hlocks := B.notSynchronized
  have hK := hE.1
  have hP : va_P (dC, dI) vwCl [(mm, .inr (10, [.int 0, .ref lev, .ref txt, .int 0, .int 0, .int 0, .int 0, .int 0, .int 0, .int 0, .int 0, .ref stm, .ref sm, .int 0, .ref sgn, .ref vls, .ref opn, .ref opp, .ref bke, .ref bko, .ref bkl, .ref cel, .int 0, .int 0, .ref tap, .ref tpl, .int 0, .int 0, .ref rtp, .ref rlv, .int 0, .ref sen, .ref hpo, .ref hpm, .ref bgn, .ref chn, .ref sgt, .int 0, .int 0, .ref rsd]))] ss_.heap := hP
  have hl := lv_entry ([.ref mm, .int w, .int t]) (n := 3) (Nat.le_of_ble_eq_true rfl)
  rw [lg_entry_eq]
  generalize (lg_sl ([.ref mm, .int w, .int t]) ++ List.replicate (3 - (lg_sl ([.ref mm, .int w, .int t])).length) Slot.unset).toArray = ls at hl ⊢
  have hl : lv_has ls 3 [(0, .ref mm), (1, .int w), (2, .int t)] := hl
  refine lv_iload_n hx hb dX10_isAsked_0 rfl (lv_at hl 1 rfl) ?_
  refine lv_iconst (v := 0) hx hb dX10_isAsked_1 (by decide) ?_
  refine lv_iconst (v := 3) hx hb dX10_isAsked_2 (by decide) ?_
  refine vp_callSi (va_Run.run (va_runS (As := [.int w, .int 0, .int 3]) (rest := []) ⟨hx, hb, hml, hown, hts⟩ (m_in l dC dI cI cJ cS  w 0 3 ) (va_cwS 3 hts gX10_isAsked_X10_in rfl rfl rfl (by decide +kernel) ⟨Nat.le_of_ble_eq_true rfl, Nat.le_of_ble_eq_true rfl⟩) (preR (hP.sub (ws' := []) [] rfl) hE) rfl rfl hl.1 rfl (lv_room (Nat.le_of_ble_eq_true rfl)) dX10_isAsked_3 ⟨by decide +kernel, by decide +kernel⟩)) (fun r_1 hr_2 => ?_)
  refine lv_if_eq (tgt := 22) hx hb dX10_isAsked_6 (by decide) (fun c_3 => ?_) (fun c_3 => ?_)
  · have k_4 : ¬ (inR w 0 3) := bI_0 hr_2 c_3
    refine lv_iconst (v := 0) hx hb dX10_isAsked_22 (by decide) ?_
    exact W.zret (v := 0) hx hb hr (by decide) (fun tt_ ht hW => ⟨_, rfl, (bI_f (by (simp only [inR, Int32.lt_iff_toInt_lt, Int32.le_iff_toInt_le, ← Int32.toInt_inj, tI_0, tI_1, tI_2, tI_3, tI_4, tI_5, tI_6, tI_7, tI_8, tI_20, tI_30, tI_300, tI_400, tI_4095, tI_4096, tI_m1, tI_m2, tI_m3, tI_m9] at k_4 ⊢ <;> omega))).symm, ht⟩) (fun _ h => by cases h) dX10_isAsked_23
  · have k_5 : inR w 0 3 := bI_1 hr_2 c_3
    refine lv_iload_n hx hb dX10_isAsked_9 rfl (lv_at hl 2 rfl) ?_
    refine lv_iconst (v := 0) hx hb dX10_isAsked_10 (by decide) ?_
    refine lv_iconst (v := 1) hx hb dX10_isAsked_11 (by decide) ?_
    refine vp_callSi (va_Run.run (va_runS (As := [.int t, .int 0, .int 1]) (rest := []) ⟨hx, hb, hml, hown, hts⟩ (m_in l dC dI cI cJ cS  t 0 1 ) (va_cwS 3 hts gX10_isAsked_X10_in rfl rfl rfl (by decide +kernel) ⟨Nat.le_of_ble_eq_true rfl, Nat.le_of_ble_eq_true rfl⟩) (preR (hP.sub (ws' := []) [] rfl) hE) rfl rfl hl.1 rfl (lv_room (Nat.le_of_ble_eq_true rfl)) dX10_isAsked_12 ⟨by decide +kernel, by decide +kernel⟩)) (fun r_6 hr_7 => ?_)
    refine lv_if_eq (tgt := 22) hx hb dX10_isAsked_15 (by decide) (fun c_8 => ?_) (fun c_8 => ?_)
    · have k_9 : ¬ (inR t 0 1) := bI_0 hr_7 c_8
      refine lv_iconst (v := 0) hx hb dX10_isAsked_22 (by decide) ?_
      exact W.zret (v := 0) hx hb hr (by decide) (fun tt_ ht hW => ⟨_, rfl, (bI_f (by (simp only [inR, Int32.lt_iff_toInt_lt, Int32.le_iff_toInt_le, ← Int32.toInt_inj, tI_0, tI_1, tI_2, tI_3, tI_4, tI_5, tI_6, tI_7, tI_8, tI_20, tI_30, tI_300, tI_400, tI_4095, tI_4096, tI_m1, tI_m2, tI_m3, tI_m9] at k_5 k_9 ⊢ <;> omega))).symm, ht⟩) (fun _ h => by cases h) dX10_isAsked_23
    · have k_10 : inR t 0 1 := bI_1 hr_7 c_8
      refine lv_iconst (v := 1) hx hb dX10_isAsked_18 (by decide) ?_
      refine lv_goto (tgt := 23) hx hb dX10_isAsked_19 (by decide) ?_
      exact W.zret (v := 1) hx hb hr (by decide) (fun tt_ ht hW => ⟨_, rfl, (bI_t (by (simp only [inR, Int32.lt_iff_toInt_lt, Int32.le_iff_toInt_le, ← Int32.toInt_inj, tI_0, tI_1, tI_2, tI_3, tI_4, tI_5, tI_6, tI_7, tI_8, tI_20, tI_30, tI_300, tI_400, tI_4095, tI_4096, tI_m1, tI_m2, tI_m3, tI_m9] at k_5 k_10 ⊢ <;> omega))).symm, ht⟩) (fun _ h => by cases h) dX10_isAsked_23
set_option maxHeartbeats 1000000 in
set_option maxRecDepth 100000 in
theorem m_cells0 (l : Launch) (dC : Nat → ClassId) (dI : Nat → Nat → Nat) (cI cJ cS : ClassId) (mm : Nat) (w : Int32) (lev : Nat) (txt : Nat) (stm : Nat) (sm : Nat) (sgn : Nat) (vls : Nat) (opn : Nat) (opp : Nat) (bke : Nat) (bko : Nat) (bkl : Nat) (cel : Nat) (tap : Nat) (tpl : Nat) (rtp : Nat) (rlv : Nat) (sen : Nat) (hpo : Nat) (hpm : Nat) (bgn : Nat) (chn : Nat) (sgt : Nat) (sc : Int32) (hp : Int32) (rsd : Nat)  : Met l yX10_cells wsX10_cells ({ frames := 1, cells := 0, slots := 0, locals := 21 }) (va_Pc [.ref mm, .int w, .int 0] (PR dC dI cI cJ cS [(mm, .inr (10, [.int 0, .ref lev, .ref txt, .int 0, .int 0, .int 0, .int 0, .int 0, .int 0, .int 0, .int 0, .ref stm, .ref sm, .int 0, .ref sgn, .ref vls, .ref opn, .ref opp, .ref bke, .ref bko, .ref bkl, .ref cel, .int 0, .int 0, .ref tap, .ref tpl, .int 0, .int 0, .ref rtp, .ref rlv, .int 0, .ref sen, .ref hpo, .ref hpm, .ref bgn, .ref chn, .ref sgt, .int sc, .int hp, .ref rsd])), (lev, aI cI 6 (fun _ => 0))])) (vp_Si (fun r : Int32 => r = 0)) 0 0 (fun _ => False) := by
  refine Met.ofW (cc := cX10_cells) (maxL := 5) (ret := (some .int)) (by decide) rfl ?_
  intro pp_ ee_ ss_ mm_ args below meth cc_ s₁ B hml hv
  obtain ⟨rfl, hP, hE⟩ := hv
  have hx := B.exec
  have hb := B.bytes
  have hr := B.returns
  have hts := atoms_spec (ws := wsX10_cells) B.pre
  have hown : ss_.vm.findClass RX10 = some mm_.cls := findClass_of_methodNamed B.named
  have hlocks := B.notSynchronized
  have hK := hE.1
  have hiX10 : ∀ w ∈ wsX100, w ∈ wsX10_cells := by decide +kernel
  have hP : va_P (dC, dI) vwCl [(mm, .inr (10, [.int 0, .ref lev, .ref txt, .int 0, .int 0, .int 0, .int 0, .int 0, .int 0, .int 0, .int 0, .ref stm, .ref sm, .int 0, .ref sgn, .ref vls, .ref opn, .ref opp, .ref bke, .ref bko, .ref bkl, .ref cel, .int 0, .int 0, .ref tap, .ref tpl, .int 0, .int 0, .ref rtp, .ref rlv, .int 0, .ref sen, .ref hpo, .ref hpm, .ref bgn, .ref chn, .ref sgt, .int sc, .int hp, .ref rsd])), (lev, aI cI 6 (fun _ => 0))] ss_.heap := hP
  have hl := lv_entry ([.ref mm, .int w, .int 0]) (n := 5) (Nat.le_of_ble_eq_true rfl)
  rw [lg_entry_eq]
  generalize (lg_sl ([.ref mm, .int w, .int 0]) ++ List.replicate (5 - (lg_sl ([.ref mm, .int w, .int 0])).length) Slot.unset).toArray = ls at hl ⊢
  have hl : lv_has ls 5 [(0, .ref mm), (1, .int w), (2, .int 0)] := hl
  refine lv_iconst (v := 0) hx hb dX10_cells_0 (by decide) ?_
  refine lv_istore_n (lv' := [(3, .int 0), (0, .ref mm), (1, .int w), (2, .int 0)]) hx hb dX10_cells_1 rfl hl (by decide) rfl (fun ls hl => ?_)
  refine lv_iconst (v := 0) hx hb dX10_cells_2 (by decide) ?_
  refine lv_istore (lv' := [(4, .int 0), (3, .int 0), (0, .ref mm), (1, .int w), (2, .int 0)]) hx hb dX10_cells_3 hl (by decide) rfl (fun ls hl => ?_)
  refine lv_iload hx hb dX10_cells_5 (lv_at hl 0 rfl) ?_
  refine lv_bipush (v := 6) hx hb dX10_cells_7 (by decide) ?_
  refine lv_icmp_ge (tgt := 41) hx hb dX10_cells_9 (by decide) (fun c_1 => absurd c_1 (by decide)) (fun _ => ?_)
  refine lv_iload_n hx hb dX10_cells_12 rfl (lv_at hl 1 rfl) ?_
  refine lv_aload_n hx hb dX10_cells_13 rfl (lv_at hl 2 rfl) ?_
  refine va_get (D := (dC, dI)) (ci := 10) (v := .ref lev) (C := RX10) (T := TX10) (N := 40) hx hb hts hiX10 hown hK hP 0 rfl rfl 1 (by decide) (hts (.fieldLink RX10 7 "WatchedProgramsModel" "level" "[I") (by decide +kernel)) (fun _ h9 => h9) rfl dX10_cells_14 ?_
  refine lv_iload hx hb dX10_cells_17 (lv_at hl 0 rfl) ?_
  refine va_iald hx hb hK hP 1 0 rfl rfl (by unfold vp_in; decide) dX10_cells_19 ?_
  refine zi (y := 0) (by rfl) ?_
  refine lv_iload_n hx hb dX10_cells_20 rfl (lv_at hl 3 rfl) ?_
  refine vp_callSi (va_Run.run (va_runS (As := [.int 0, .int w]) (rest := [.int 0]) ⟨hx, hb, hml, hown, hts⟩ (m_isWithin l dC dI cI cJ cS  w ) (va_cwS 2 hts gX10_cells_X10_isWithin rfl rfl rfl (by decide +kernel) ⟨Nat.le_of_ble_eq_true rfl, Nat.le_of_ble_eq_true rfl⟩) (preR (hP.sub (ws' := []) [] rfl) hE) rfl rfl hl.1 rfl (lv_room (Nat.le_of_ble_eq_true rfl)) dX10_cells_21 ⟨by decide +kernel, by decide +kernel⟩)) (fun r_2 hr_3 => ?_)
  obtain rfl := hr_3
  refine lv_iload_n hx hb dX10_cells_24 rfl (lv_at hl 4 rfl) ?_
  refine lv_icmp_ne (tgt := 32) hx hb dX10_cells_25 (by decide) (fun _ => ?_) (fun c_4 => absurd c_4 (by decide))
  refine lv_iconst (v := 0) hx hb dX10_cells_32 (by decide) ?_
  refine lv_iadd hx hb dX10_cells_33 ?_
  refine zi (y := 0) (by decide) ?_
  refine lv_istore_n (lv' := [(3, .int 0), (4, .int 0), (0, .ref mm), (1, .int w), (2, .int 0)]) hx hb dX10_cells_34 rfl hl (by decide) rfl (fun ls hl => ?_)
  refine lv_iinc (v := 1) (lv' := [(4, .int 1), (3, .int 0), (0, .ref mm), (1, .int w), (2, .int 0)]) hx hb dX10_cells_35 hl (k := 1) rfl (by decide) (by decide) rfl (fun ls hl => ?_)
  refine lv_goto (tgt := 5) hx hb dX10_cells_38 (by decide) ?_
  refine lv_iload hx hb dX10_cells_5 (lv_at hl 0 rfl) ?_
  refine lv_bipush (v := 6) hx hb dX10_cells_7 (by decide) ?_
  refine lv_icmp_ge (tgt := 41) hx hb dX10_cells_9 (by decide) (fun c_5 => absurd c_5 (by decide)) (fun _ => ?_)
  refine lv_iload_n hx hb dX10_cells_12 rfl (lv_at hl 1 rfl) ?_
  refine lv_aload_n hx hb dX10_cells_13 rfl (lv_at hl 2 rfl) ?_
  refine va_get (D := (dC, dI)) (ci := 10) (v := .ref lev) (C := RX10) (T := TX10) (N := 40) hx hb hts hiX10 hown hK hP 0 rfl rfl 1 (by decide) (hts (.fieldLink RX10 7 "WatchedProgramsModel" "level" "[I") (by decide +kernel)) (fun _ h9 => h9) rfl dX10_cells_14 ?_
  refine lv_iload hx hb dX10_cells_17 (lv_at hl 0 rfl) ?_
  refine va_iald hx hb hK hP 1 0 rfl rfl (by unfold vp_in; decide) dX10_cells_19 ?_
  refine zi (y := 0) (by rfl) ?_
  refine lv_iload_n hx hb dX10_cells_20 rfl (lv_at hl 3 rfl) ?_
  refine vp_callSi (va_Run.run (va_runS (As := [.int 0, .int w]) (rest := [.int 0]) ⟨hx, hb, hml, hown, hts⟩ (m_isWithin l dC dI cI cJ cS  w ) (va_cwS 2 hts gX10_cells_X10_isWithin rfl rfl rfl (by decide +kernel) ⟨Nat.le_of_ble_eq_true rfl, Nat.le_of_ble_eq_true rfl⟩) (preR (hP.sub (ws' := []) [] rfl) hE) rfl rfl hl.1 rfl (lv_room (Nat.le_of_ble_eq_true rfl)) dX10_cells_21 ⟨by decide +kernel, by decide +kernel⟩)) (fun r_6 hr_7 => ?_)
  obtain rfl := hr_7
  refine lv_iload_n hx hb dX10_cells_24 rfl (lv_at hl 4 rfl) ?_
  refine lv_icmp_ne (tgt := 32) hx hb dX10_cells_25 (by decide) (fun _ => ?_) (fun c_8 => absurd c_8 (by decide))
  refine lv_iconst (v := 0) hx hb dX10_cells_32 (by decide) ?_
  refine lv_iadd hx hb dX10_cells_33 ?_
  refine zi (y := 0) (by decide) ?_
  refine lv_istore_n (lv' := [(3, .int 0), (4, .int 1), (0, .ref mm), (1, .int w), (2, .int 0)]) hx hb dX10_cells_34 rfl hl (by decide) rfl (fun ls hl => ?_)
  refine lv_iinc (v := 2) (lv' := [(4, .int 2), (3, .int 0), (0, .ref mm), (1, .int w), (2, .int 0)]) hx hb dX10_cells_35 hl (k := 1) rfl (by decide) (by decide) rfl (fun ls hl => ?_)
  refine lv_goto (tgt := 5) hx hb dX10_cells_38 (by decide) ?_
  refine lv_iload hx hb dX10_cells_5 (lv_at hl 0 rfl) ?_
  refine lv_bipush (v := 6) hx hb dX10_cells_7 (by decide) ?_
  refine lv_icmp_ge (tgt := 41) hx hb dX10_cells_9 (by decide) (fun c_9 => absurd c_9 (by decide)) (fun _ => ?_)
  refine lv_iload_n hx hb dX10_cells_12 rfl (lv_at hl 1 rfl) ?_
  refine lv_aload_n hx hb dX10_cells_13 rfl (lv_at hl 2 rfl) ?_
  refine va_get (D := (dC, dI)) (ci := 10) (v := .ref lev) (C := RX10) (T := TX10) (N := 40) hx hb hts hiX10 hown hK hP 0 rfl rfl 1 (by decide) (hts (.fieldLink RX10 7 "WatchedProgramsModel" "level" "[I") (by decide +kernel)) (fun _ h9 => h9) rfl dX10_cells_14 ?_
  refine lv_iload hx hb dX10_cells_17 (lv_at hl 0 rfl) ?_
  refine va_iald hx hb hK hP 1 0 rfl rfl (by unfold vp_in; decide) dX10_cells_19 ?_
  refine zi (y := 0) (by rfl) ?_
  refine lv_iload_n hx hb dX10_cells_20 rfl (lv_at hl 3 rfl) ?_
  refine vp_callSi (va_Run.run (va_runS (As := [.int 0, .int w]) (rest := [.int 0]) ⟨hx, hb, hml, hown, hts⟩ (m_isWithin l dC dI cI cJ cS  w ) (va_cwS 2 hts gX10_cells_X10_isWithin rfl rfl rfl (by decide +kernel) ⟨Nat.le_of_ble_eq_true rfl, Nat.le_of_ble_eq_true rfl⟩) (preR (hP.sub (ws' := []) [] rfl) hE) rfl rfl hl.1 rfl (lv_room (Nat.le_of_ble_eq_true rfl)) dX10_cells_21 ⟨by decide +kernel, by decide +kernel⟩)) (fun r_10 hr_11 => ?_)
  obtain rfl := hr_11
  refine lv_iload_n hx hb dX10_cells_24 rfl (lv_at hl 4 rfl) ?_
  refine lv_icmp_ne (tgt := 32) hx hb dX10_cells_25 (by decide) (fun _ => ?_) (fun c_12 => absurd c_12 (by decide))
  refine lv_iconst (v := 0) hx hb dX10_cells_32 (by decide) ?_
  refine lv_iadd hx hb dX10_cells_33 ?_
  refine zi (y := 0) (by decide) ?_
  refine lv_istore_n (lv' := [(3, .int 0), (4, .int 2), (0, .ref mm), (1, .int w), (2, .int 0)]) hx hb dX10_cells_34 rfl hl (by decide) rfl (fun ls hl => ?_)
  refine lv_iinc (v := 3) (lv' := [(4, .int 3), (3, .int 0), (0, .ref mm), (1, .int w), (2, .int 0)]) hx hb dX10_cells_35 hl (k := 1) rfl (by decide) (by decide) rfl (fun ls hl => ?_)
  refine lv_goto (tgt := 5) hx hb dX10_cells_38 (by decide) ?_
  refine lv_iload hx hb dX10_cells_5 (lv_at hl 0 rfl) ?_
  refine lv_bipush (v := 6) hx hb dX10_cells_7 (by decide) ?_
  refine lv_icmp_ge (tgt := 41) hx hb dX10_cells_9 (by decide) (fun c_13 => absurd c_13 (by decide)) (fun _ => ?_)
  refine lv_iload_n hx hb dX10_cells_12 rfl (lv_at hl 1 rfl) ?_
  refine lv_aload_n hx hb dX10_cells_13 rfl (lv_at hl 2 rfl) ?_
  refine va_get (D := (dC, dI)) (ci := 10) (v := .ref lev) (C := RX10) (T := TX10) (N := 40) hx hb hts hiX10 hown hK hP 0 rfl rfl 1 (by decide) (hts (.fieldLink RX10 7 "WatchedProgramsModel" "level" "[I") (by decide +kernel)) (fun _ h9 => h9) rfl dX10_cells_14 ?_
  refine lv_iload hx hb dX10_cells_17 (lv_at hl 0 rfl) ?_
  refine va_iald hx hb hK hP 1 0 rfl rfl (by unfold vp_in; decide) dX10_cells_19 ?_
  refine zi (y := 0) (by rfl) ?_
  refine lv_iload_n hx hb dX10_cells_20 rfl (lv_at hl 3 rfl) ?_
  refine vp_callSi (va_Run.run (va_runS (As := [.int 0, .int w]) (rest := [.int 0]) ⟨hx, hb, hml, hown, hts⟩ (m_isWithin l dC dI cI cJ cS  w ) (va_cwS 2 hts gX10_cells_X10_isWithin rfl rfl rfl (by decide +kernel) ⟨Nat.le_of_ble_eq_true rfl, Nat.le_of_ble_eq_true rfl⟩) (preR (hP.sub (ws' := []) [] rfl) hE) rfl rfl hl.1 rfl (lv_room (Nat.le_of_ble_eq_true rfl)) dX10_cells_21 ⟨by decide +kernel, by decide +kernel⟩)) (fun r_14 hr_15 => ?_)
  obtain rfl := hr_15
  refine lv_iload_n hx hb dX10_cells_24 rfl (lv_at hl 4 rfl) ?_
  refine lv_icmp_ne (tgt := 32) hx hb dX10_cells_25 (by decide) (fun _ => ?_) (fun c_16 => absurd c_16 (by decide))
  refine lv_iconst (v := 0) hx hb dX10_cells_32 (by decide) ?_
  refine lv_iadd hx hb dX10_cells_33 ?_
  refine zi (y := 0) (by decide) ?_
  refine lv_istore_n (lv' := [(3, .int 0), (4, .int 3), (0, .ref mm), (1, .int w), (2, .int 0)]) hx hb dX10_cells_34 rfl hl (by decide) rfl (fun ls hl => ?_)
  refine lv_iinc (v := 4) (lv' := [(4, .int 4), (3, .int 0), (0, .ref mm), (1, .int w), (2, .int 0)]) hx hb dX10_cells_35 hl (k := 1) rfl (by decide) (by decide) rfl (fun ls hl => ?_)
  refine lv_goto (tgt := 5) hx hb dX10_cells_38 (by decide) ?_
  refine lv_iload hx hb dX10_cells_5 (lv_at hl 0 rfl) ?_
  refine lv_bipush (v := 6) hx hb dX10_cells_7 (by decide) ?_
  refine lv_icmp_ge (tgt := 41) hx hb dX10_cells_9 (by decide) (fun c_17 => absurd c_17 (by decide)) (fun _ => ?_)
  refine lv_iload_n hx hb dX10_cells_12 rfl (lv_at hl 1 rfl) ?_
  refine lv_aload_n hx hb dX10_cells_13 rfl (lv_at hl 2 rfl) ?_
  refine va_get (D := (dC, dI)) (ci := 10) (v := .ref lev) (C := RX10) (T := TX10) (N := 40) hx hb hts hiX10 hown hK hP 0 rfl rfl 1 (by decide) (hts (.fieldLink RX10 7 "WatchedProgramsModel" "level" "[I") (by decide +kernel)) (fun _ h9 => h9) rfl dX10_cells_14 ?_
  refine lv_iload hx hb dX10_cells_17 (lv_at hl 0 rfl) ?_
  refine va_iald hx hb hK hP 1 0 rfl rfl (by unfold vp_in; decide) dX10_cells_19 ?_
  refine zi (y := 0) (by rfl) ?_
  refine lv_iload_n hx hb dX10_cells_20 rfl (lv_at hl 3 rfl) ?_
  refine vp_callSi (va_Run.run (va_runS (As := [.int 0, .int w]) (rest := [.int 0]) ⟨hx, hb, hml, hown, hts⟩ (m_isWithin l dC dI cI cJ cS  w ) (va_cwS 2 hts gX10_cells_X10_isWithin rfl rfl rfl (by decide +kernel) ⟨Nat.le_of_ble_eq_true rfl, Nat.le_of_ble_eq_true rfl⟩) (preR (hP.sub (ws' := []) [] rfl) hE) rfl rfl hl.1 rfl (lv_room (Nat.le_of_ble_eq_true rfl)) dX10_cells_21 ⟨by decide +kernel, by decide +kernel⟩)) (fun r_18 hr_19 => ?_)
  obtain rfl := hr_19
  refine lv_iload_n hx hb dX10_cells_24 rfl (lv_at hl 4 rfl) ?_
  refine lv_icmp_ne (tgt := 32) hx hb dX10_cells_25 (by decide) (fun _ => ?_) (fun c_20 => absurd c_20 (by decide))
  refine lv_iconst (v := 0) hx hb dX10_cells_32 (by decide) ?_
  refine lv_iadd hx hb dX10_cells_33 ?_
  refine zi (y := 0) (by decide) ?_
  refine lv_istore_n (lv' := [(3, .int 0), (4, .int 4), (0, .ref mm), (1, .int w), (2, .int 0)]) hx hb dX10_cells_34 rfl hl (by decide) rfl (fun ls hl => ?_)
  refine lv_iinc (v := 5) (lv' := [(4, .int 5), (3, .int 0), (0, .ref mm), (1, .int w), (2, .int 0)]) hx hb dX10_cells_35 hl (k := 1) rfl (by decide) (by decide) rfl (fun ls hl => ?_)
  refine lv_goto (tgt := 5) hx hb dX10_cells_38 (by decide) ?_
  refine lv_iload hx hb dX10_cells_5 (lv_at hl 0 rfl) ?_
  refine lv_bipush (v := 6) hx hb dX10_cells_7 (by decide) ?_
  refine lv_icmp_ge (tgt := 41) hx hb dX10_cells_9 (by decide) (fun c_21 => absurd c_21 (by decide)) (fun _ => ?_)
  refine lv_iload_n hx hb dX10_cells_12 rfl (lv_at hl 1 rfl) ?_
  refine lv_aload_n hx hb dX10_cells_13 rfl (lv_at hl 2 rfl) ?_
  refine va_get (D := (dC, dI)) (ci := 10) (v := .ref lev) (C := RX10) (T := TX10) (N := 40) hx hb hts hiX10 hown hK hP 0 rfl rfl 1 (by decide) (hts (.fieldLink RX10 7 "WatchedProgramsModel" "level" "[I") (by decide +kernel)) (fun _ h9 => h9) rfl dX10_cells_14 ?_
  refine lv_iload hx hb dX10_cells_17 (lv_at hl 0 rfl) ?_
  refine va_iald hx hb hK hP 1 0 rfl rfl (by unfold vp_in; decide) dX10_cells_19 ?_
  refine zi (y := 0) (by rfl) ?_
  refine lv_iload_n hx hb dX10_cells_20 rfl (lv_at hl 3 rfl) ?_
  refine vp_callSi (va_Run.run (va_runS (As := [.int 0, .int w]) (rest := [.int 0]) ⟨hx, hb, hml, hown, hts⟩ (m_isWithin l dC dI cI cJ cS  w ) (va_cwS 2 hts gX10_cells_X10_isWithin rfl rfl rfl (by decide +kernel) ⟨Nat.le_of_ble_eq_true rfl, Nat.le_of_ble_eq_true rfl⟩) (preR (hP.sub (ws' := []) [] rfl) hE) rfl rfl hl.1 rfl (lv_room (Nat.le_of_ble_eq_true rfl)) dX10_cells_21 ⟨by decide +kernel, by decide +kernel⟩)) (fun r_22 hr_23 => ?_)
  obtain rfl := hr_23
  refine lv_iload_n hx hb dX10_cells_24 rfl (lv_at hl 4 rfl) ?_
  refine lv_icmp_ne (tgt := 32) hx hb dX10_cells_25 (by decide) (fun _ => ?_) (fun c_24 => absurd c_24 (by decide))
  refine lv_iconst (v := 0) hx hb dX10_cells_32 (by decide) ?_
  refine lv_iadd hx hb dX10_cells_33 ?_
  refine zi (y := 0) (by decide) ?_
  refine lv_istore_n (lv' := [(3, .int 0), (4, .int 5), (0, .ref mm), (1, .int w), (2, .int 0)]) hx hb dX10_cells_34 rfl hl (by decide) rfl (fun ls hl => ?_)
  refine lv_iinc (v := 6) (lv' := [(4, .int 6), (3, .int 0), (0, .ref mm), (1, .int w), (2, .int 0)]) hx hb dX10_cells_35 hl (k := 1) rfl (by decide) (by decide) rfl (fun ls hl => ?_)
  refine lv_goto (tgt := 5) hx hb dX10_cells_38 (by decide) ?_
  refine lv_iload hx hb dX10_cells_5 (lv_at hl 0 rfl) ?_
  refine lv_bipush (v := 6) hx hb dX10_cells_7 (by decide) ?_
  refine lv_icmp_ge (tgt := 41) hx hb dX10_cells_9 (by decide) (fun _ => ?_) (fun c_25 => absurd (by decide) c_25)
  refine lv_iload_n hx hb dX10_cells_41 rfl (lv_at hl 1 rfl) ?_
  exact W.iret (v := 0) hx hb hr (fun tt_ ht hW => ⟨_, rfl, rfl, ht⟩) (fun _ h => by cases h) dX10_cells_42
set_option maxHeartbeats 1000000 in
set_option maxRecDepth 100000 in
theorem m_cells1 (l : Launch) (dC : Nat → ClassId) (dI : Nat → Nat → Nat) (cI cJ cS : ClassId) (mm : Nat) (w : Int32) (lev : Nat) (txt : Nat) (stm : Nat) (sm : Nat) (sgn : Nat) (vls : Nat) (opn : Nat) (opp : Nat) (bke : Nat) (bko : Nat) (bkl : Nat) (cel : Nat) (tap : Nat) (tpl : Nat) (rtp : Nat) (rlv : Nat) (sen : Nat) (hpo : Nat) (hpm : Nat) (bgn : Nat) (chn : Nat) (sgt : Nat) (sc : Int32) (hp : Int32) (rsd : Nat)  : Met l yX10_cells wsX10_cells ({ frames := 1, cells := 0, slots := 0, locals := 21 }) (va_Pc [.ref mm, .int w, .int 1] (PR dC dI cI cJ cS [(mm, .inr (10, [.int 0, .ref lev, .ref txt, .int 0, .int 0, .int 0, .int 0, .int 0, .int 0, .int 0, .int 0, .ref stm, .ref sm, .int 0, .ref sgn, .ref vls, .ref opn, .ref opp, .ref bke, .ref bko, .ref bkl, .ref cel, .int 0, .int 0, .ref tap, .ref tpl, .int 0, .int 0, .ref rtp, .ref rlv, .int 0, .ref sen, .ref hpo, .ref hpm, .ref bgn, .ref chn, .ref sgt, .int sc, .int hp, .ref rsd])), (lev, aI cI 6 (fun _ => 0))])) (vp_Si (fun r : Int32 => r = 6)) 0 0 (fun _ => False) := by
  refine Met.ofW (cc := cX10_cells) (maxL := 5) (ret := (some .int)) (by decide) rfl ?_
  intro pp_ ee_ ss_ mm_ args below meth cc_ s₁ B hml hv
  obtain ⟨rfl, hP, hE⟩ := hv
  have hx := B.exec
  have hb := B.bytes
  have hr := B.returns
  have hts := atoms_spec (ws := wsX10_cells) B.pre
  have hown : ss_.vm.findClass RX10 = some mm_.cls := findClass_of_methodNamed B.named
  have hlocks := B.notSynchronized
  have hK := hE.1
  have hiX10 : ∀ w ∈ wsX100, w ∈ wsX10_cells := by decide +kernel
  have hP : va_P (dC, dI) vwCl [(mm, .inr (10, [.int 0, .ref lev, .ref txt, .int 0, .int 0, .int 0, .int 0, .int 0, .int 0, .int 0, .int 0, .ref stm, .ref sm, .int 0, .ref sgn, .ref vls, .ref opn, .ref opp, .ref bke, .ref bko, .ref bkl, .ref cel, .int 0, .int 0, .ref tap, .ref tpl, .int 0, .int 0, .ref rtp, .ref rlv, .int 0, .ref sen, .ref hpo, .ref hpm, .ref bgn, .ref chn, .ref sgt, .int sc, .int hp, .ref rsd])), (lev, aI cI 6 (fun _ => 0))] ss_.heap := hP
  have hl := lv_entry ([.ref mm, .int w, .int 1]) (n := 5) (Nat.le_of_ble_eq_true rfl)
  rw [lg_entry_eq]
  generalize (lg_sl ([.ref mm, .int w, .int 1]) ++ List.replicate (5 - (lg_sl ([.ref mm, .int w, .int 1])).length) Slot.unset).toArray = ls at hl ⊢
  have hl : lv_has ls 5 [(0, .ref mm), (1, .int w), (2, .int 1)] := hl
  refine lv_iconst (v := 0) hx hb dX10_cells_0 (by decide) ?_
  refine lv_istore_n (lv' := [(3, .int 0), (0, .ref mm), (1, .int w), (2, .int 1)]) hx hb dX10_cells_1 rfl hl (by decide) rfl (fun ls hl => ?_)
  refine lv_iconst (v := 0) hx hb dX10_cells_2 (by decide) ?_
  refine lv_istore (lv' := [(4, .int 0), (3, .int 0), (0, .ref mm), (1, .int w), (2, .int 1)]) hx hb dX10_cells_3 hl (by decide) rfl (fun ls hl => ?_)
  refine lv_iload hx hb dX10_cells_5 (lv_at hl 0 rfl) ?_
  refine lv_bipush (v := 6) hx hb dX10_cells_7 (by decide) ?_
  refine lv_icmp_ge (tgt := 41) hx hb dX10_cells_9 (by decide) (fun c_1 => absurd c_1 (by decide)) (fun _ => ?_)
  refine lv_iload_n hx hb dX10_cells_12 rfl (lv_at hl 1 rfl) ?_
  refine lv_aload_n hx hb dX10_cells_13 rfl (lv_at hl 2 rfl) ?_
  refine va_get (D := (dC, dI)) (ci := 10) (v := .ref lev) (C := RX10) (T := TX10) (N := 40) hx hb hts hiX10 hown hK hP 0 rfl rfl 1 (by decide) (hts (.fieldLink RX10 7 "WatchedProgramsModel" "level" "[I") (by decide +kernel)) (fun _ h9 => h9) rfl dX10_cells_14 ?_
  refine lv_iload hx hb dX10_cells_17 (lv_at hl 0 rfl) ?_
  refine va_iald hx hb hK hP 1 0 rfl rfl (by unfold vp_in; decide) dX10_cells_19 ?_
  refine zi (y := 0) (by rfl) ?_
  refine lv_iload_n hx hb dX10_cells_20 rfl (lv_at hl 3 rfl) ?_
  refine vp_callSi (va_Run.run (va_runS (As := [.int 0, .int w]) (rest := [.int 0]) ⟨hx, hb, hml, hown, hts⟩ (m_isWithin l dC dI cI cJ cS  w ) (va_cwS 2 hts gX10_cells_X10_isWithin rfl rfl rfl (by decide +kernel) ⟨Nat.le_of_ble_eq_true rfl, Nat.le_of_ble_eq_true rfl⟩) (preR (hP.sub (ws' := []) [] rfl) hE) rfl rfl hl.1 rfl (lv_room (Nat.le_of_ble_eq_true rfl)) dX10_cells_21 ⟨by decide +kernel, by decide +kernel⟩)) (fun r_2 hr_3 => ?_)
  obtain rfl := hr_3
  refine lv_iload_n hx hb dX10_cells_24 rfl (lv_at hl 4 rfl) ?_
  refine lv_icmp_ne (tgt := 32) hx hb dX10_cells_25 (by decide) (fun c_4 => absurd (by decide) c_4) (fun _ => ?_)
  refine lv_iconst (v := 1) hx hb dX10_cells_28 (by decide) ?_
  refine lv_goto (tgt := 33) hx hb dX10_cells_29 (by decide) ?_
  refine lv_iadd hx hb dX10_cells_33 ?_
  refine zi (y := 1) (by decide) ?_
  refine lv_istore_n (lv' := [(3, .int 1), (4, .int 0), (0, .ref mm), (1, .int w), (2, .int 1)]) hx hb dX10_cells_34 rfl hl (by decide) rfl (fun ls hl => ?_)
  refine lv_iinc (v := 1) (lv' := [(4, .int 1), (3, .int 1), (0, .ref mm), (1, .int w), (2, .int 1)]) hx hb dX10_cells_35 hl (k := 1) rfl (by decide) (by decide) rfl (fun ls hl => ?_)
  refine lv_goto (tgt := 5) hx hb dX10_cells_38 (by decide) ?_
  refine lv_iload hx hb dX10_cells_5 (lv_at hl 0 rfl) ?_
  refine lv_bipush (v := 6) hx hb dX10_cells_7 (by decide) ?_
  refine lv_icmp_ge (tgt := 41) hx hb dX10_cells_9 (by decide) (fun c_5 => absurd c_5 (by decide)) (fun _ => ?_)
  refine lv_iload_n hx hb dX10_cells_12 rfl (lv_at hl 1 rfl) ?_
  refine lv_aload_n hx hb dX10_cells_13 rfl (lv_at hl 2 rfl) ?_
  refine va_get (D := (dC, dI)) (ci := 10) (v := .ref lev) (C := RX10) (T := TX10) (N := 40) hx hb hts hiX10 hown hK hP 0 rfl rfl 1 (by decide) (hts (.fieldLink RX10 7 "WatchedProgramsModel" "level" "[I") (by decide +kernel)) (fun _ h9 => h9) rfl dX10_cells_14 ?_
  refine lv_iload hx hb dX10_cells_17 (lv_at hl 0 rfl) ?_
  refine va_iald hx hb hK hP 1 0 rfl rfl (by unfold vp_in; decide) dX10_cells_19 ?_
  refine zi (y := 0) (by rfl) ?_
  refine lv_iload_n hx hb dX10_cells_20 rfl (lv_at hl 3 rfl) ?_
  refine vp_callSi (va_Run.run (va_runS (As := [.int 0, .int w]) (rest := [.int 1]) ⟨hx, hb, hml, hown, hts⟩ (m_isWithin l dC dI cI cJ cS  w ) (va_cwS 2 hts gX10_cells_X10_isWithin rfl rfl rfl (by decide +kernel) ⟨Nat.le_of_ble_eq_true rfl, Nat.le_of_ble_eq_true rfl⟩) (preR (hP.sub (ws' := []) [] rfl) hE) rfl rfl hl.1 rfl (lv_room (Nat.le_of_ble_eq_true rfl)) dX10_cells_21 ⟨by decide +kernel, by decide +kernel⟩)) (fun r_6 hr_7 => ?_)
  obtain rfl := hr_7
  refine lv_iload_n hx hb dX10_cells_24 rfl (lv_at hl 4 rfl) ?_
  refine lv_icmp_ne (tgt := 32) hx hb dX10_cells_25 (by decide) (fun c_8 => absurd (by decide) c_8) (fun _ => ?_)
  refine lv_iconst (v := 1) hx hb dX10_cells_28 (by decide) ?_
  refine lv_goto (tgt := 33) hx hb dX10_cells_29 (by decide) ?_
  refine lv_iadd hx hb dX10_cells_33 ?_
  refine zi (y := 2) (by decide) ?_
  refine lv_istore_n (lv' := [(3, .int 2), (4, .int 1), (0, .ref mm), (1, .int w), (2, .int 1)]) hx hb dX10_cells_34 rfl hl (by decide) rfl (fun ls hl => ?_)
  refine lv_iinc (v := 2) (lv' := [(4, .int 2), (3, .int 2), (0, .ref mm), (1, .int w), (2, .int 1)]) hx hb dX10_cells_35 hl (k := 1) rfl (by decide) (by decide) rfl (fun ls hl => ?_)
  refine lv_goto (tgt := 5) hx hb dX10_cells_38 (by decide) ?_
  refine lv_iload hx hb dX10_cells_5 (lv_at hl 0 rfl) ?_
  refine lv_bipush (v := 6) hx hb dX10_cells_7 (by decide) ?_
  refine lv_icmp_ge (tgt := 41) hx hb dX10_cells_9 (by decide) (fun c_9 => absurd c_9 (by decide)) (fun _ => ?_)
  refine lv_iload_n hx hb dX10_cells_12 rfl (lv_at hl 1 rfl) ?_
  refine lv_aload_n hx hb dX10_cells_13 rfl (lv_at hl 2 rfl) ?_
  refine va_get (D := (dC, dI)) (ci := 10) (v := .ref lev) (C := RX10) (T := TX10) (N := 40) hx hb hts hiX10 hown hK hP 0 rfl rfl 1 (by decide) (hts (.fieldLink RX10 7 "WatchedProgramsModel" "level" "[I") (by decide +kernel)) (fun _ h9 => h9) rfl dX10_cells_14 ?_
  refine lv_iload hx hb dX10_cells_17 (lv_at hl 0 rfl) ?_
  refine va_iald hx hb hK hP 1 0 rfl rfl (by unfold vp_in; decide) dX10_cells_19 ?_
  refine zi (y := 0) (by rfl) ?_
  refine lv_iload_n hx hb dX10_cells_20 rfl (lv_at hl 3 rfl) ?_
  refine vp_callSi (va_Run.run (va_runS (As := [.int 0, .int w]) (rest := [.int 2]) ⟨hx, hb, hml, hown, hts⟩ (m_isWithin l dC dI cI cJ cS  w ) (va_cwS 2 hts gX10_cells_X10_isWithin rfl rfl rfl (by decide +kernel) ⟨Nat.le_of_ble_eq_true rfl, Nat.le_of_ble_eq_true rfl⟩) (preR (hP.sub (ws' := []) [] rfl) hE) rfl rfl hl.1 rfl (lv_room (Nat.le_of_ble_eq_true rfl)) dX10_cells_21 ⟨by decide +kernel, by decide +kernel⟩)) (fun r_10 hr_11 => ?_)
  obtain rfl := hr_11
  refine lv_iload_n hx hb dX10_cells_24 rfl (lv_at hl 4 rfl) ?_
  refine lv_icmp_ne (tgt := 32) hx hb dX10_cells_25 (by decide) (fun c_12 => absurd (by decide) c_12) (fun _ => ?_)
  refine lv_iconst (v := 1) hx hb dX10_cells_28 (by decide) ?_
  refine lv_goto (tgt := 33) hx hb dX10_cells_29 (by decide) ?_
  refine lv_iadd hx hb dX10_cells_33 ?_
  refine zi (y := 3) (by decide) ?_
  refine lv_istore_n (lv' := [(3, .int 3), (4, .int 2), (0, .ref mm), (1, .int w), (2, .int 1)]) hx hb dX10_cells_34 rfl hl (by decide) rfl (fun ls hl => ?_)
  refine lv_iinc (v := 3) (lv' := [(4, .int 3), (3, .int 3), (0, .ref mm), (1, .int w), (2, .int 1)]) hx hb dX10_cells_35 hl (k := 1) rfl (by decide) (by decide) rfl (fun ls hl => ?_)
  refine lv_goto (tgt := 5) hx hb dX10_cells_38 (by decide) ?_
  refine lv_iload hx hb dX10_cells_5 (lv_at hl 0 rfl) ?_
  refine lv_bipush (v := 6) hx hb dX10_cells_7 (by decide) ?_
  refine lv_icmp_ge (tgt := 41) hx hb dX10_cells_9 (by decide) (fun c_13 => absurd c_13 (by decide)) (fun _ => ?_)
  refine lv_iload_n hx hb dX10_cells_12 rfl (lv_at hl 1 rfl) ?_
  refine lv_aload_n hx hb dX10_cells_13 rfl (lv_at hl 2 rfl) ?_
  refine va_get (D := (dC, dI)) (ci := 10) (v := .ref lev) (C := RX10) (T := TX10) (N := 40) hx hb hts hiX10 hown hK hP 0 rfl rfl 1 (by decide) (hts (.fieldLink RX10 7 "WatchedProgramsModel" "level" "[I") (by decide +kernel)) (fun _ h9 => h9) rfl dX10_cells_14 ?_
  refine lv_iload hx hb dX10_cells_17 (lv_at hl 0 rfl) ?_
  refine va_iald hx hb hK hP 1 0 rfl rfl (by unfold vp_in; decide) dX10_cells_19 ?_
  refine zi (y := 0) (by rfl) ?_
  refine lv_iload_n hx hb dX10_cells_20 rfl (lv_at hl 3 rfl) ?_
  refine vp_callSi (va_Run.run (va_runS (As := [.int 0, .int w]) (rest := [.int 3]) ⟨hx, hb, hml, hown, hts⟩ (m_isWithin l dC dI cI cJ cS  w ) (va_cwS 2 hts gX10_cells_X10_isWithin rfl rfl rfl (by decide +kernel) ⟨Nat.le_of_ble_eq_true rfl, Nat.le_of_ble_eq_true rfl⟩) (preR (hP.sub (ws' := []) [] rfl) hE) rfl rfl hl.1 rfl (lv_room (Nat.le_of_ble_eq_true rfl)) dX10_cells_21 ⟨by decide +kernel, by decide +kernel⟩)) (fun r_14 hr_15 => ?_)
  obtain rfl := hr_15
  refine lv_iload_n hx hb dX10_cells_24 rfl (lv_at hl 4 rfl) ?_
  refine lv_icmp_ne (tgt := 32) hx hb dX10_cells_25 (by decide) (fun c_16 => absurd (by decide) c_16) (fun _ => ?_)
  refine lv_iconst (v := 1) hx hb dX10_cells_28 (by decide) ?_
  refine lv_goto (tgt := 33) hx hb dX10_cells_29 (by decide) ?_
  refine lv_iadd hx hb dX10_cells_33 ?_
  refine zi (y := 4) (by decide) ?_
  refine lv_istore_n (lv' := [(3, .int 4), (4, .int 3), (0, .ref mm), (1, .int w), (2, .int 1)]) hx hb dX10_cells_34 rfl hl (by decide) rfl (fun ls hl => ?_)
  refine lv_iinc (v := 4) (lv' := [(4, .int 4), (3, .int 4), (0, .ref mm), (1, .int w), (2, .int 1)]) hx hb dX10_cells_35 hl (k := 1) rfl (by decide) (by decide) rfl (fun ls hl => ?_)
  refine lv_goto (tgt := 5) hx hb dX10_cells_38 (by decide) ?_
  refine lv_iload hx hb dX10_cells_5 (lv_at hl 0 rfl) ?_
  refine lv_bipush (v := 6) hx hb dX10_cells_7 (by decide) ?_
  refine lv_icmp_ge (tgt := 41) hx hb dX10_cells_9 (by decide) (fun c_17 => absurd c_17 (by decide)) (fun _ => ?_)
  refine lv_iload_n hx hb dX10_cells_12 rfl (lv_at hl 1 rfl) ?_
  refine lv_aload_n hx hb dX10_cells_13 rfl (lv_at hl 2 rfl) ?_
  refine va_get (D := (dC, dI)) (ci := 10) (v := .ref lev) (C := RX10) (T := TX10) (N := 40) hx hb hts hiX10 hown hK hP 0 rfl rfl 1 (by decide) (hts (.fieldLink RX10 7 "WatchedProgramsModel" "level" "[I") (by decide +kernel)) (fun _ h9 => h9) rfl dX10_cells_14 ?_
  refine lv_iload hx hb dX10_cells_17 (lv_at hl 0 rfl) ?_
  refine va_iald hx hb hK hP 1 0 rfl rfl (by unfold vp_in; decide) dX10_cells_19 ?_
  refine zi (y := 0) (by rfl) ?_
  refine lv_iload_n hx hb dX10_cells_20 rfl (lv_at hl 3 rfl) ?_
  refine vp_callSi (va_Run.run (va_runS (As := [.int 0, .int w]) (rest := [.int 4]) ⟨hx, hb, hml, hown, hts⟩ (m_isWithin l dC dI cI cJ cS  w ) (va_cwS 2 hts gX10_cells_X10_isWithin rfl rfl rfl (by decide +kernel) ⟨Nat.le_of_ble_eq_true rfl, Nat.le_of_ble_eq_true rfl⟩) (preR (hP.sub (ws' := []) [] rfl) hE) rfl rfl hl.1 rfl (lv_room (Nat.le_of_ble_eq_true rfl)) dX10_cells_21 ⟨by decide +kernel, by decide +kernel⟩)) (fun r_18 hr_19 => ?_)
  obtain rfl := hr_19
  refine lv_iload_n hx hb dX10_cells_24 rfl (lv_at hl 4 rfl) ?_
  refine lv_icmp_ne (tgt := 32) hx hb dX10_cells_25 (by decide) (fun c_20 => absurd (by decide) c_20) (fun _ => ?_)
  refine lv_iconst (v := 1) hx hb dX10_cells_28 (by decide) ?_
  refine lv_goto (tgt := 33) hx hb dX10_cells_29 (by decide) ?_
  refine lv_iadd hx hb dX10_cells_33 ?_
  refine zi (y := 5) (by decide) ?_
  refine lv_istore_n (lv' := [(3, .int 5), (4, .int 4), (0, .ref mm), (1, .int w), (2, .int 1)]) hx hb dX10_cells_34 rfl hl (by decide) rfl (fun ls hl => ?_)
  refine lv_iinc (v := 5) (lv' := [(4, .int 5), (3, .int 5), (0, .ref mm), (1, .int w), (2, .int 1)]) hx hb dX10_cells_35 hl (k := 1) rfl (by decide) (by decide) rfl (fun ls hl => ?_)
  refine lv_goto (tgt := 5) hx hb dX10_cells_38 (by decide) ?_
  refine lv_iload hx hb dX10_cells_5 (lv_at hl 0 rfl) ?_
  refine lv_bipush (v := 6) hx hb dX10_cells_7 (by decide) ?_
  refine lv_icmp_ge (tgt := 41) hx hb dX10_cells_9 (by decide) (fun c_21 => absurd c_21 (by decide)) (fun _ => ?_)
  refine lv_iload_n hx hb dX10_cells_12 rfl (lv_at hl 1 rfl) ?_
  refine lv_aload_n hx hb dX10_cells_13 rfl (lv_at hl 2 rfl) ?_
  refine va_get (D := (dC, dI)) (ci := 10) (v := .ref lev) (C := RX10) (T := TX10) (N := 40) hx hb hts hiX10 hown hK hP 0 rfl rfl 1 (by decide) (hts (.fieldLink RX10 7 "WatchedProgramsModel" "level" "[I") (by decide +kernel)) (fun _ h9 => h9) rfl dX10_cells_14 ?_
  refine lv_iload hx hb dX10_cells_17 (lv_at hl 0 rfl) ?_
  refine va_iald hx hb hK hP 1 0 rfl rfl (by unfold vp_in; decide) dX10_cells_19 ?_
  refine zi (y := 0) (by rfl) ?_
  refine lv_iload_n hx hb dX10_cells_20 rfl (lv_at hl 3 rfl) ?_
  refine vp_callSi (va_Run.run (va_runS (As := [.int 0, .int w]) (rest := [.int 5]) ⟨hx, hb, hml, hown, hts⟩ (m_isWithin l dC dI cI cJ cS  w ) (va_cwS 2 hts gX10_cells_X10_isWithin rfl rfl rfl (by decide +kernel) ⟨Nat.le_of_ble_eq_true rfl, Nat.le_of_ble_eq_true rfl⟩) (preR (hP.sub (ws' := []) [] rfl) hE) rfl rfl hl.1 rfl (lv_room (Nat.le_of_ble_eq_true rfl)) dX10_cells_21 ⟨by decide +kernel, by decide +kernel⟩)) (fun r_22 hr_23 => ?_)
  obtain rfl := hr_23
  refine lv_iload_n hx hb dX10_cells_24 rfl (lv_at hl 4 rfl) ?_
  refine lv_icmp_ne (tgt := 32) hx hb dX10_cells_25 (by decide) (fun c_24 => absurd (by decide) c_24) (fun _ => ?_)
  refine lv_iconst (v := 1) hx hb dX10_cells_28 (by decide) ?_
  refine lv_goto (tgt := 33) hx hb dX10_cells_29 (by decide) ?_
  refine lv_iadd hx hb dX10_cells_33 ?_
  refine zi (y := 6) (by decide) ?_
  refine lv_istore_n (lv' := [(3, .int 6), (4, .int 5), (0, .ref mm), (1, .int w), (2, .int 1)]) hx hb dX10_cells_34 rfl hl (by decide) rfl (fun ls hl => ?_)
  refine lv_iinc (v := 6) (lv' := [(4, .int 6), (3, .int 6), (0, .ref mm), (1, .int w), (2, .int 1)]) hx hb dX10_cells_35 hl (k := 1) rfl (by decide) (by decide) rfl (fun ls hl => ?_)
  refine lv_goto (tgt := 5) hx hb dX10_cells_38 (by decide) ?_
  refine lv_iload hx hb dX10_cells_5 (lv_at hl 0 rfl) ?_
  refine lv_bipush (v := 6) hx hb dX10_cells_7 (by decide) ?_
  refine lv_icmp_ge (tgt := 41) hx hb dX10_cells_9 (by decide) (fun _ => ?_) (fun c_25 => absurd (by decide) c_25)
  refine lv_iload_n hx hb dX10_cells_41 rfl (lv_at hl 1 rfl) ?_
  exact W.iret (v := 6) hx hb hr (fun tt_ ht hW => ⟨_, rfl, rfl, ht⟩) (fun _ h => by cases h) dX10_cells_42
set_option maxHeartbeats 1000000 in
set_option maxRecDepth 100000 in
theorem m_isOpen (l : Launch) (dC : Nat → ClassId) (dI : Nat → Nat → Nat) (cI cJ cS : ClassId) (mm : Nat) (w : Int32) (o : Int32) (lev : Nat) (txt : Nat) (stm : Nat) (sm : Nat) (sgn : Nat) (vls : Nat) (opn : Nat) (opp : Nat) (bke : Nat) (bko : Nat) (bkl : Nat) (cel : Nat) (tap : Nat) (tpl : Nat) (rtp : Nat) (rlv : Nat) (sen : Nat) (hpo : Nat) (hpm : Nat) (bgn : Nat) (chn : Nat) (sgt : Nat) (rsd : Nat)  : Met l yX10_isOpen wsX10_isOpen ({ frames := 2, cells := 0, slots := 0, locals := 45 }) (va_Pc [.ref mm, .int w, .int o] (PR dC dI cI cJ cS [(mm, .inr (10, [.int 0, .ref lev, .ref txt, .int 0, .int 0, .int 0, .int 0, .int 0, .int 0, .int 0, .int 0, .ref stm, .ref sm, .int 0, .ref sgn, .ref vls, .ref opn, .ref opp, .ref bke, .ref bko, .ref bkl, .ref cel, .int 0, .int 0, .ref tap, .ref tpl, .int 0, .int 0, .ref rtp, .ref rlv, .int 0, .ref sen, .ref hpo, .ref hpm, .ref bgn, .ref chn, .ref sgt, .int 0, .int 0, .ref rsd])), (lev, aI cI 6 (fun _ => 0))])) (vp_Si (fun r : Int32 => r = bI (inR o 0 4095))) 0 0 (fun _ => False) := by
  refine Met.ofW (cc := cX10_isOpen) (maxL := 3) (ret := (some .boolean)) (by decide) rfl ?_
  intro pp_ ee_ ss_ mm_ args below meth cc_ s₁ B hml hv
  obtain ⟨rfl, hP, hE⟩ := hv
  have hx := B.exec
  have hb := B.bytes
  have hr := B.returns
  have hts := atoms_spec (ws := wsX10_isOpen) B.pre
  have hown : ss_.vm.findClass RX10 = some mm_.cls := findClass_of_methodNamed B.named
  have hlocks := B.notSynchronized
  have hK := hE.1
  have hP : va_P (dC, dI) vwCl [(mm, .inr (10, [.int 0, .ref lev, .ref txt, .int 0, .int 0, .int 0, .int 0, .int 0, .int 0, .int 0, .int 0, .ref stm, .ref sm, .int 0, .ref sgn, .ref vls, .ref opn, .ref opp, .ref bke, .ref bko, .ref bkl, .ref cel, .int 0, .int 0, .ref tap, .ref tpl, .int 0, .int 0, .ref rtp, .ref rlv, .int 0, .ref sen, .ref hpo, .ref hpm, .ref bgn, .ref chn, .ref sgt, .int 0, .int 0, .ref rsd])), (lev, aI cI 6 (fun _ => 0))] ss_.heap := hP
  have hl := lv_entry ([.ref mm, .int w, .int o]) (n := 3) (Nat.le_of_ble_eq_true rfl)
  rw [lg_entry_eq]
  generalize (lg_sl ([.ref mm, .int w, .int o]) ++ List.replicate (3 - (lg_sl ([.ref mm, .int w, .int o])).length) Slot.unset).toArray = ls at hl ⊢
  have hl : lv_has ls 3 [(0, .ref mm), (1, .int w), (2, .int o)] := hl
  refine lv_iload_n hx hb dX10_isOpen_0 rfl (lv_at hl 2 rfl) ?_
  refine lv_iconst (v := 0) hx hb dX10_isOpen_1 (by decide) ?_
  refine lv_iconst (v := 1) hx hb dX10_isOpen_2 (by decide) ?_
  refine lv_iconst (v := 2) hx hb dX10_isOpen_3 (by decide) ?_
  refine lv_aload_n hx hb dX10_isOpen_4 rfl (lv_at hl 0 rfl) ?_
  refine lv_iload_n hx hb dX10_isOpen_5 rfl (lv_at hl 1 rfl) ?_
  refine lv_iconst (v := 1) hx hb dX10_isOpen_6 (by decide) ?_
  refine vp_callSi (va_Run.run (va_runV (As := [.int w, .int 1]) (rest := [.int 2, .int 1, .int 0, .int o]) ⟨hx, hb, hml, hown, hts⟩ (m_cells1 l dC dI cI cJ cS  mm w lev txt stm sm sgn vls opn opp bke bko bkl cel tap tpl rtp rlv sen hpo hpm bgn chn sgt 0 0 rsd ) (cwV 2 hts gX10_isOpen_X10_cells rfl rfl rfl (by decide +kernel) ⟨Nat.le_of_ble_eq_true rfl, Nat.le_of_ble_eq_true rfl⟩) (preRV (hP.sub (ws' := [(mm, .inr (10, [.int 0, .ref lev, .ref txt, .int 0, .int 0, .int 0, .int 0, .int 0, .int 0, .int 0, .int 0, .ref stm, .ref sm, .int 0, .ref sgn, .ref vls, .ref opn, .ref opp, .ref bke, .ref bko, .ref bkl, .ref cel, .int 0, .int 0, .ref tap, .ref tpl, .int 0, .int 0, .ref rtp, .ref rlv, .int 0, .ref sen, .ref hpo, .ref hpm, .ref bgn, .ref chn, .ref sgt, .int 0, .int 0, .ref rsd])), (lev, aI cI 6 (fun _ => 0))]) [0, 1] rfl) hE 0 (ci := 10) rfl rfl) rfl rfl hl.1 rfl (lv_room (Nat.le_of_ble_eq_true rfl)) dX10_isOpen_7 ⟨by decide +kernel, by decide +kernel⟩)) (fun r_1 hr_2 => ?_)
  obtain rfl := hr_2
  refine lv_imul hx hb dX10_isOpen_10 ?_
  refine zi (y := 12) (by decide) ?_
  refine lv_ishl hx hb dX10_isOpen_11 ?_
  refine zi (y := 4096) (by decide) ?_
  refine lv_iconst (v := 1) hx hb dX10_isOpen_12 (by decide) ?_
  refine lv_isub hx hb dX10_isOpen_13 ?_
  refine zi (y := 4095) (by decide) ?_
  refine vp_callSi (va_Run.run (va_runS (As := [.int o, .int 0, .int 4095]) (rest := []) ⟨hx, hb, hml, hown, hts⟩ (m_in l dC dI cI cJ cS  o 0 4095 ) (va_cwS 3 hts gX10_isOpen_X10_in rfl rfl rfl (by decide +kernel) ⟨Nat.le_of_ble_eq_true rfl, Nat.le_of_ble_eq_true rfl⟩) (preR (hP.sub (ws' := []) [] rfl) hE) rfl rfl hl.1 rfl (lv_room (Nat.le_of_ble_eq_true rfl)) dX10_isOpen_14 ⟨by decide +kernel, by decide +kernel⟩)) (fun r_3 hr_4 => ?_)
  exact W.zret (v := r_3) hx hb hr (bI_nar hr_4) (fun tt_ ht hW => ⟨_, rfl, hr_4, ht⟩) (fun _ h => by cases h) dX10_isOpen_17
set_option maxHeartbeats 1000000 in
set_option maxRecDepth 100000 in
theorem m_level (l : Launch) (dC : Nat → ClassId) (dI : Nat → Nat → Nat) (cI cJ cS : ClassId) (sz : Nat) (mm : Nat) (c : Int32) (v : Int32) (lev : Nat) (txt : Nat) (stm : Nat) (sm : Nat) (sgn : Nat) (vls : Nat) (opn : Nat) (opp : Nat) (bke : Nat) (bko : Nat) (bkl : Nat) (cel : Nat) (tap : Nat) (tpl : Nat) (rtp : Nat) (rlv : Nat) (sen : Nat) (hpo : Nat) (hpm : Nat) (bgn : Nat) (chn : Nat) (sgt : Nat) (rsd : Nat)  : Met l yX10_level wsX10_level ({ frames := 1, cells := 0, slots := 0, locals := 22 }) (va_Pc [.ref mm, .int c, .int v] (PE dC dI cI cJ cS [(mm, .inr (10, [.int 0, .ref lev, .ref txt, .int 0, .int 0, .int 0, .int 0, .int 0, .int 0, .int 0, .int 0, .ref stm, .ref sm, .int 0, .ref sgn, .ref vls, .ref opn, .ref opp, .ref bke, .ref bko, .ref bkl, .ref cel, .int 0, .int 0, .ref tap, .ref tpl, .int 0, .int 0, .ref rtp, .ref rlv, .int 0, .ref sen, .ref hpo, .ref hpm, .ref bgn, .ref chn, .ref sgt, .int 0, .int 0, .ref rsd])), (lev, aI cI 6 (fun _ => 0))] sz)) (va_Qi (fun (r : Int32) (_ : Unit) => r = okE (inR c 0 5 ∧ inR v 0 3) 0) (BE dC dI (va_A [(mm, .inr (10, [.int 0, .ref lev, .ref txt, .int 0, .int 0, .int 0, .int 0, .int 0, .int 0, .int 0, .int 0, .ref stm, .ref sm, .int 0, .ref sgn, .ref vls, .ref opn, .ref opp, .ref bke, .ref bko, .ref bkl, .ref cel, .int 0, .int 0, .ref tap, .ref tpl, .int 0, .int 0, .ref rtp, .ref rlv, .int 0, .ref sen, .ref hpo, .ref hpm, .ref bgn, .ref chn, .ref sgt, .int 0, .int 0, .ref rsd])), (lev, aI cI 6 (fun _ => 0))] sz) (fun (_ : Unit) => [])) (va_A [(mm, .inr (10, [.int 0, .ref lev, .ref txt, .int 0, .int 0, .int 0, .int 0, .int 0, .int 0, .int 0, .int 0, .ref stm, .ref sm, .int 0, .ref sgn, .ref vls, .ref opn, .ref opp, .ref bke, .ref bko, .ref bkl, .ref cel, .int 0, .int 0, .ref tap, .ref tpl, .int 0, .int 0, .ref rtp, .ref rlv, .int 0, .ref sen, .ref hpo, .ref hpm, .ref bgn, .ref chn, .ref sgt, .int 0, .int 0, .ref rsd])), (lev, aI cI 6 (fun _ => 0))] sz)) 0 0 (va_A [(mm, .inr (10, [.int 0, .ref lev, .ref txt, .int 0, .int 0, .int 0, .int 0, .int 0, .int 0, .int 0, .int 0, .ref stm, .ref sm, .int 0, .ref sgn, .ref vls, .ref opn, .ref opp, .ref bke, .ref bko, .ref bkl, .ref cel, .int 0, .int 0, .ref tap, .ref tpl, .int 0, .int 0, .ref rtp, .ref rlv, .int 0, .ref sen, .ref hpo, .ref hpm, .ref bgn, .ref chn, .ref sgt, .int 0, .int 0, .ref rsd])), (lev, aI cI 6 (fun _ => 0))] sz) := by
  refine Met.ofW (cc := cX10_level) (maxL := 4) (ret := (some .int)) (by decide) rfl ?_
  intro pp_ ee_ ss_ mm_ args below meth cc_ s₁ B hml hv
  obtain ⟨rfl, hsz, hP, hE, hD0⟩ := hv
  have hx := B.exec
  have hb := B.bytes
  have hr := B.returns
  have hts := atoms_spec (ws := wsX10_level) B.pre
  have hown : ss_.vm.findClass RX10 = some mm_.cls := findClass_of_methodNamed B.named
  have hlocks := B.notSynchronized
  have hK := hE.1
  have hiX10 : ∀ w ∈ wsX100, w ∈ wsX10_level := by decide +kernel
  subst hsz
  have hD := hD0.self (sz := ss_.heap.size)
  generalize hAe : va_A [(mm, .inr (10, [.int 0, .ref lev, .ref txt, .int 0, .int 0, .int 0, .int 0, .int 0, .int 0, .int 0, .int 0, .ref stm, .ref sm, .int 0, .ref sgn, .ref vls, .ref opn, .ref opp, .ref bke, .ref bko, .ref bkl, .ref cel, .int 0, .int 0, .ref tap, .ref tpl, .int 0, .int 0, .ref rtp, .ref rlv, .int 0, .ref sen, .ref hpo, .ref hpm, .ref bgn, .ref chn, .ref sgt, .int 0, .int 0, .ref rsd])), (lev, aI cI 6 (fun _ => 0))] ss_.heap.size = A at hD ⊢
  have hA : ∀ q : Nat, ss_.heap.size ≤ q → A q := fun q h => by rw [← hAe]; exact Or.inr h
  have hS : va_S A ss_.heap ss_.heap [] := va_S.rf
  have hP : va_P (dC, dI) vwCl [(mm, .inr (10, [.int 0, .ref lev, .ref txt, .int 0, .int 0, .int 0, .int 0, .int 0, .int 0, .int 0, .int 0, .ref stm, .ref sm, .int 0, .ref sgn, .ref vls, .ref opn, .ref opp, .ref bke, .ref bko, .ref bkl, .ref cel, .int 0, .int 0, .ref tap, .ref tpl, .int 0, .int 0, .ref rtp, .ref rlv, .int 0, .ref sen, .ref hpo, .ref hpm, .ref bgn, .ref chn, .ref sgt, .int 0, .int 0, .ref rsd])), (lev, aI cI 6 (fun _ => 0))] ss_.heap := hP
  have hl := lv_entry ([.ref mm, .int c, .int v]) (n := 4) (Nat.le_of_ble_eq_true rfl)
  rw [lg_entry_eq]
  generalize (lg_sl ([.ref mm, .int c, .int v]) ++ List.replicate (4 - (lg_sl ([.ref mm, .int c, .int v])).length) Slot.unset).toArray = ls at hl ⊢
  have hl : lv_has ls 4 [(0, .ref mm), (1, .int c), (2, .int v)] := hl
  refine lv_aload_n hx hb dX10_level_0 rfl (lv_at hl 0 rfl) ?_
  refine lv_iconst (v := 0) hx hb dX10_level_1 (by decide) ?_
  refine va_put (D := (dC, dI)) (ci := 10) (v := .int 0) (ty := .int) (C := RX10) (T := TX10) (N := 40) hx hb hts hiX10 tyX10 tyX10_ok nmX10 hown hK hP hD hS 0 rfl rfl 0 (by decide) (hts (.fieldLink RX10 80 "WatchedProgramsModel" "thrown" "I") (by decide +kernel)) (fun _ h9 => h9) rfl (by decide +kernel) rfl rfl (Nat.le_of_ble_eq_true rfl) dX10_level_2 (fun H locs hP hD hS => ?_)
  have hP : va_P (dC, dI) vwCl [(mm, .inr (10, [.int 0, .ref lev, .ref txt, .int 0, .int 0, .int 0, .int 0, .int 0, .int 0, .int 0, .int 0, .ref stm, .ref sm, .int 0, .ref sgn, .ref vls, .ref opn, .ref opp, .ref bke, .ref bko, .ref bkl, .ref cel, .int 0, .int 0, .ref tap, .ref tpl, .int 0, .int 0, .ref rtp, .ref rlv, .int 0, .ref sen, .ref hpo, .ref hpm, .ref bgn, .ref chn, .ref sgt, .int 0, .int 0, .ref rsd])), (lev, aI cI 6 (fun _ => 0))] H := hP
  have hD : va_D A [(mm, .inr (10, [.int 0, .ref lev, .ref txt, .int 0, .int 0, .int 0, .int 0, .int 0, .int 0, .int 0, .int 0, .ref stm, .ref sm, .int 0, .ref sgn, .ref vls, .ref opn, .ref opp, .ref bke, .ref bko, .ref bkl, .ref cel, .int 0, .int 0, .ref tap, .ref tpl, .int 0, .int 0, .ref rtp, .ref rlv, .int 0, .ref sen, .ref hpo, .ref hpm, .ref bgn, .ref chn, .ref sgt, .int 0, .int 0, .ref rsd])), (lev, aI cI 6 (fun _ => 0))] := hD
  refine lv_iload_n hx hb dX10_level_5 rfl (lv_at hl 1 rfl) ?_
  refine lv_iconst (v := 0) hx hb dX10_level_6 (by decide) ?_
  refine lv_iconst (v := 5) hx hb dX10_level_7 (by decide) ?_
  refine vp_callSi (va_Run.run (va_runS (As := [.int c, .int 0, .int 5]) (rest := []) ⟨hx, hb, hml, hown, hts⟩ (m_in l dC dI cI cJ cS  c 0 5 ) (va_cwS 3 hts gX10_level_X10_in rfl rfl rfl (by decide +kernel) ⟨Nat.le_of_ble_eq_true rfl, Nat.le_of_ble_eq_true rfl⟩) (preR (hP.sub (ws' := []) [] rfl) hE) rfl rfl hl.1 rfl (lv_room (Nat.le_of_ble_eq_true rfl)) dX10_level_8 ⟨by decide +kernel, by decide +kernel⟩)) (fun r_1 hr_2 => ?_)
  refine lv_if_eq (tgt := 23) hx hb dX10_level_11 (by decide) (fun c_3 => ?_) (fun c_3 => ?_)
  · have k_4 : ¬ (inR c 0 5) := bI_0 hr_2 c_3
    refine lv_iconst (v := (-1)) hx hb dX10_level_23 (by decide) ?_
    have hP9 := hP.sub (ws' := []) [] rfl
    have hD9 := hD.sub (ws' := []) [] (by decide) rfl
    exact W.iret (v := (-1)) hx hb hr (fun tt_ ht hW => ⟨⟨_, (), rfl, (by rw [okE, if_neg (by simp only [inR, Int32.lt_iff_toInt_lt, Int32.le_iff_toInt_le, ← Int32.toInt_inj, tI_0, tI_1, tI_2, tI_3, tI_4, tI_5, tI_6, tI_7, tI_8, tI_20, tI_30, tI_300, tI_400, tI_4095, tI_4096, tI_m1, tI_m2, tI_m3, tI_m9] at k_4 ⊢ <;> omega)]), by rw [ht]; exact hP9, hD9⟩, hS.F ht⟩) hS.2.2 dX10_level_24
  · have k_5 : inR c 0 5 := bI_1 hr_2 c_3
    refine lv_iload_n hx hb dX10_level_14 rfl (lv_at hl 2 rfl) ?_
    refine lv_iconst (v := 0) hx hb dX10_level_15 (by decide) ?_
    refine lv_iconst (v := 3) hx hb dX10_level_16 (by decide) ?_
    refine vp_callSi (va_Run.run (va_runS (As := [.int v, .int 0, .int 3]) (rest := []) ⟨hx, hb, hml, hown, hts⟩ (m_in l dC dI cI cJ cS  v 0 3 ) (va_cwS 3 hts gX10_level_X10_in rfl rfl rfl (by decide +kernel) ⟨Nat.le_of_ble_eq_true rfl, Nat.le_of_ble_eq_true rfl⟩) (preR (hP.sub (ws' := []) [] rfl) hE) rfl rfl hl.1 rfl (lv_room (Nat.le_of_ble_eq_true rfl)) dX10_level_17 ⟨by decide +kernel, by decide +kernel⟩)) (fun r_6 hr_7 => ?_)
    refine lv_if_ne (tgt := 25) hx hb dX10_level_20 (by decide) (fun c_8 => ?_) (fun c_8 => ?_)
    · have k_9 : inR v 0 3 := bI_1 hr_7 c_8
      refine lv_aload_n hx hb dX10_level_25 rfl (lv_at hl 0 rfl) ?_
      refine va_get (D := (dC, dI)) (ci := 10) (v := .ref lev) (C := RX10) (T := TX10) (N := 40) hx hb hts hiX10 hown hK hP 0 rfl rfl 1 (by decide) (hts (.fieldLink RX10 7 "WatchedProgramsModel" "level" "[I") (by decide +kernel)) (fun _ h9 => h9) rfl dX10_level_26 ?_
      refine lv_iload_n hx hb dX10_level_29 rfl (lv_at hl 1 rfl) ?_
      refine va_iald hx hb hK hP 1 0 rfl rfl (vp_in_r 6 k_5 (by decide)) dX10_level_30 ?_
      refine zi (y := 0) (by rfl) ?_
      refine lv_istore_n (lv' := [(3, .int 0), (0, .ref mm), (1, .int c), (2, .int v)]) hx hb dX10_level_31 rfl hl (by decide) rfl (fun ls hl => ?_)
      refine lv_aload_n hx hb dX10_level_32 rfl (lv_at hl 1 rfl) ?_
      refine va_get (D := (dC, dI)) (ci := 10) (v := .ref lev) (C := RX10) (T := TX10) (N := 40) hx hb hts hiX10 hown hK hP 0 rfl rfl 1 (by decide) (hts (.fieldLink RX10 7 "WatchedProgramsModel" "level" "[I") (by decide +kernel)) (fun _ h9 => h9) rfl dX10_level_33 ?_
      refine lv_iload_n hx hb dX10_level_36 rfl (lv_at hl 2 rfl) ?_
      refine lv_iload_n hx hb dX10_level_37 rfl (lv_at hl 3 rfl) ?_
      refine va_iast hx hb hK hP hD hS 1 0 rfl rfl (vp_in_r 6 k_5 (by decide)) dX10_level_38 (fun H locs hP hD hS => ?_)
      have hP : va_P (dC, dI) vwCl [(mm, .inr (10, [.int 0, .ref lev, .ref txt, .int 0, .int 0, .int 0, .int 0, .int 0, .int 0, .int 0, .int 0, .ref stm, .ref sm, .int 0, .ref sgn, .ref vls, .ref opn, .ref opp, .ref bke, .ref bko, .ref bkl, .ref cel, .int 0, .int 0, .ref tap, .ref tpl, .int 0, .int 0, .ref rtp, .ref rlv, .int 0, .ref sen, .ref hpo, .ref hpm, .ref bgn, .ref chn, .ref sgt, .int 0, .int 0, .ref rsd])), (lev, aI cI 6 (upd (fun _ => 0) ((c).toNatClampNeg) v))] H := hP
      have hD : va_D A [(mm, .inr (10, [.int 0, .ref lev, .ref txt, .int 0, .int 0, .int 0, .int 0, .int 0, .int 0, .int 0, .int 0, .ref stm, .ref sm, .int 0, .ref sgn, .ref vls, .ref opn, .ref opp, .ref bke, .ref bko, .ref bkl, .ref cel, .int 0, .int 0, .ref tap, .ref tpl, .int 0, .int 0, .ref rtp, .ref rlv, .int 0, .ref sen, .ref hpo, .ref hpm, .ref bgn, .ref chn, .ref sgt, .int 0, .int 0, .ref rsd])), (lev, aI cI 6 (upd (fun _ => 0) ((c).toNatClampNeg) v))] := hD
      refine lv_iload_n hx hb dX10_level_39 rfl (lv_at hl 0 rfl) ?_
      have hP9 := hP.sub (ws' := []) [] rfl
      have hD9 := hD.sub (ws' := []) [] (by decide) rfl
      exact W.iret (v := 0) hx hb hr (fun tt_ ht hW => ⟨⟨_, (), rfl, (by rw [okE, if_pos (by simp only [inR, Int32.lt_iff_toInt_lt, Int32.le_iff_toInt_le, ← Int32.toInt_inj, tI_0, tI_1, tI_2, tI_3, tI_4, tI_5, tI_6, tI_7, tI_8, tI_20, tI_30, tI_300, tI_400, tI_4095, tI_4096, tI_m1, tI_m2, tI_m3, tI_m9] at k_5 k_9 ⊢ <;> omega)]), by rw [ht]; exact hP9, hD9⟩, hS.F ht⟩) hS.2.2 dX10_level_40
    · have k_10 : ¬ (inR v 0 3) := bI_0 hr_7 c_8
      refine lv_iconst (v := (-1)) hx hb dX10_level_23 (by decide) ?_
      have hP9 := hP.sub (ws' := []) [] rfl
      have hD9 := hD.sub (ws' := []) [] (by decide) rfl
      exact W.iret (v := (-1)) hx hb hr (fun tt_ ht hW => ⟨⟨_, (), rfl, (by rw [okE, if_neg (by simp only [inR, Int32.lt_iff_toInt_lt, Int32.le_iff_toInt_le, ← Int32.toInt_inj, tI_0, tI_1, tI_2, tI_3, tI_4, tI_5, tI_6, tI_7, tI_8, tI_20, tI_30, tI_300, tI_400, tI_4095, tI_4096, tI_m1, tI_m2, tI_m3, tI_m9] at k_5 k_10 ⊢ <;> omega)]), by rw [ht]; exact hP9, hD9⟩, hS.F ht⟩) hS.2.2 dX10_level_24
set_option maxHeartbeats 1000000 in
set_option maxRecDepth 100000 in
theorem m_clear (l : Launch) (dC : Nat → ClassId) (dI : Nat → Nat → Nat) (cI cJ cS : ClassId) (sz : Nat) (mm : Nat) (lev : Nat) (txt : Nat) (stm : Nat) (sm : Nat) (sgn : Nat) (vls : Nat) (opn : Nat) (opp : Nat) (bke : Nat) (bko : Nat) (bkl : Nat) (cel : Nat) (tap : Nat) (tpl : Nat) (rtp : Nat) (rlv : Nat) (sen : Nat) (hpo : Nat) (hpm : Nat) (bgn : Nat) (chn : Nat) (sgt : Nat) (rsd : Nat)  : Met l yX10_clear wsX10_clear ({ frames := 0, cells := 0, slots := 0, locals := 0 }) (va_Pc [.ref mm] (PE dC dI cI cJ cS [(mm, .inr (10, [.int 0, .ref lev, .ref txt, .int 0, .int 0, .int 0, .int 0, .int 0, .int 0, .int 0, .int 0, .ref stm, .ref sm, .int 0, .ref sgn, .ref vls, .ref opn, .ref opp, .ref bke, .ref bko, .ref bkl, .ref cel, .int 0, .int 0, .ref tap, .ref tpl, .int 0, .int 0, .ref rtp, .ref rlv, .int 0, .ref sen, .ref hpo, .ref hpm, .ref bgn, .ref chn, .ref sgt, .int 0, .int 0, .ref rsd]))] sz)) (va_Qi (fun (r : Int32) (_ : Unit) => r = 0) (BE dC dI (va_A [(mm, .inr (10, [.int 0, .ref lev, .ref txt, .int 0, .int 0, .int 0, .int 0, .int 0, .int 0, .int 0, .int 0, .ref stm, .ref sm, .int 0, .ref sgn, .ref vls, .ref opn, .ref opp, .ref bke, .ref bko, .ref bkl, .ref cel, .int 0, .int 0, .ref tap, .ref tpl, .int 0, .int 0, .ref rtp, .ref rlv, .int 0, .ref sen, .ref hpo, .ref hpm, .ref bgn, .ref chn, .ref sgt, .int 0, .int 0, .ref rsd]))] sz) (fun (_ : Unit) => [])) (va_A [(mm, .inr (10, [.int 0, .ref lev, .ref txt, .int 0, .int 0, .int 0, .int 0, .int 0, .int 0, .int 0, .int 0, .ref stm, .ref sm, .int 0, .ref sgn, .ref vls, .ref opn, .ref opp, .ref bke, .ref bko, .ref bkl, .ref cel, .int 0, .int 0, .ref tap, .ref tpl, .int 0, .int 0, .ref rtp, .ref rlv, .int 0, .ref sen, .ref hpo, .ref hpm, .ref bgn, .ref chn, .ref sgt, .int 0, .int 0, .ref rsd]))] sz)) 0 0 (va_A [(mm, .inr (10, [.int 0, .ref lev, .ref txt, .int 0, .int 0, .int 0, .int 0, .int 0, .int 0, .int 0, .int 0, .ref stm, .ref sm, .int 0, .ref sgn, .ref vls, .ref opn, .ref opp, .ref bke, .ref bko, .ref bkl, .ref cel, .int 0, .int 0, .ref tap, .ref tpl, .int 0, .int 0, .ref rtp, .ref rlv, .int 0, .ref sen, .ref hpo, .ref hpm, .ref bgn, .ref chn, .ref sgt, .int 0, .int 0, .ref rsd]))] sz) := by
  refine Met.ofW (cc := cX10_clear) (maxL := 2) (ret := (some .int)) (by decide) rfl ?_
  intro pp_ ee_ ss_ mm_ args below meth cc_ s₁ B hml hv
  obtain ⟨rfl, hsz, hP, hE, hD0⟩ := hv
  have hx := B.exec
  have hb := B.bytes
  have hr := B.returns
  have hts := atoms_spec (ws := wsX10_clear) B.pre
  have hown : ss_.vm.findClass RX10 = some mm_.cls := findClass_of_methodNamed B.named
  have hlocks := B.notSynchronized
  have hK := hE.1
  have hiX10 : ∀ w ∈ wsX100, w ∈ wsX10_clear := by decide +kernel
  subst hsz
  have hD := hD0.self (sz := ss_.heap.size)
  generalize hAe : va_A [(mm, .inr (10, [.int 0, .ref lev, .ref txt, .int 0, .int 0, .int 0, .int 0, .int 0, .int 0, .int 0, .int 0, .ref stm, .ref sm, .int 0, .ref sgn, .ref vls, .ref opn, .ref opp, .ref bke, .ref bko, .ref bkl, .ref cel, .int 0, .int 0, .ref tap, .ref tpl, .int 0, .int 0, .ref rtp, .ref rlv, .int 0, .ref sen, .ref hpo, .ref hpm, .ref bgn, .ref chn, .ref sgt, .int 0, .int 0, .ref rsd]))] ss_.heap.size = A at hD ⊢
  have hA : ∀ q : Nat, ss_.heap.size ≤ q → A q := fun q h => by rw [← hAe]; exact Or.inr h
  have hS : va_S A ss_.heap ss_.heap [] := va_S.rf
  have hP : va_P (dC, dI) vwCl [(mm, .inr (10, [.int 0, .ref lev, .ref txt, .int 0, .int 0, .int 0, .int 0, .int 0, .int 0, .int 0, .int 0, .ref stm, .ref sm, .int 0, .ref sgn, .ref vls, .ref opn, .ref opp, .ref bke, .ref bko, .ref bkl, .ref cel, .int 0, .int 0, .ref tap, .ref tpl, .int 0, .int 0, .ref rtp, .ref rlv, .int 0, .ref sen, .ref hpo, .ref hpm, .ref bgn, .ref chn, .ref sgt, .int 0, .int 0, .ref rsd]))] ss_.heap := hP
  have hl := lv_entry ([.ref mm]) (n := 2) (Nat.le_of_ble_eq_true rfl)
  rw [lg_entry_eq]
  generalize (lg_sl ([.ref mm]) ++ List.replicate (2 - (lg_sl ([.ref mm])).length) Slot.unset).toArray = ls at hl ⊢
  have hl : lv_has ls 2 [(0, .ref mm)] := hl
  refine lv_aload_n hx hb dX10_clear_0 rfl (lv_at hl 0 rfl) ?_
  refine lv_iconst (v := 0) hx hb dX10_clear_1 (by decide) ?_
  refine va_put (D := (dC, dI)) (ci := 10) (v := .int 0) (ty := .int) (C := RX10) (T := TX10) (N := 40) hx hb hts hiX10 tyX10 tyX10_ok nmX10 hown hK hP hD hS 0 rfl rfl 0 (by decide) (hts (.fieldLink RX10 80 "WatchedProgramsModel" "thrown" "I") (by decide +kernel)) (fun _ h9 => h9) rfl (by decide +kernel) rfl rfl (Nat.le_of_ble_eq_true rfl) dX10_clear_2 (fun H locs hP hD hS => ?_)
  have hP : va_P (dC, dI) vwCl [(mm, .inr (10, [.int 0, .ref lev, .ref txt, .int 0, .int 0, .int 0, .int 0, .int 0, .int 0, .int 0, .int 0, .ref stm, .ref sm, .int 0, .ref sgn, .ref vls, .ref opn, .ref opp, .ref bke, .ref bko, .ref bkl, .ref cel, .int 0, .int 0, .ref tap, .ref tpl, .int 0, .int 0, .ref rtp, .ref rlv, .int 0, .ref sen, .ref hpo, .ref hpm, .ref bgn, .ref chn, .ref sgt, .int 0, .int 0, .ref rsd]))] H := hP
  have hD : va_D A [(mm, .inr (10, [.int 0, .ref lev, .ref txt, .int 0, .int 0, .int 0, .int 0, .int 0, .int 0, .int 0, .int 0, .ref stm, .ref sm, .int 0, .ref sgn, .ref vls, .ref opn, .ref opp, .ref bke, .ref bko, .ref bkl, .ref cel, .int 0, .int 0, .ref tap, .ref tpl, .int 0, .int 0, .ref rtp, .ref rlv, .int 0, .ref sen, .ref hpo, .ref hpm, .ref bgn, .ref chn, .ref sgt, .int 0, .int 0, .ref rsd]))] := hD
  refine lv_aload_n hx hb dX10_clear_5 rfl (lv_at hl 0 rfl) ?_
  refine va_get (D := (dC, dI)) (ci := 10) (v := .int 0) (C := RX10) (T := TX10) (N := 40) hx hb hts hiX10 hown hK hP 0 rfl rfl 3 (by decide) (hts (.fieldLink RX10 88 "WatchedProgramsModel" "typed" "I") (by decide +kernel)) (fun _ h9 => h9) rfl dX10_clear_6 ?_
  refine lv_istore_n (lv' := [(1, .int 0), (0, .ref mm)]) hx hb dX10_clear_9 rfl hl (by decide) rfl (fun ls hl => ?_)
  refine lv_aload_n hx hb dX10_clear_10 rfl (lv_at hl 1 rfl) ?_
  refine lv_iconst (v := 0) hx hb dX10_clear_11 (by decide) ?_
  refine va_put (D := (dC, dI)) (ci := 10) (v := .int 0) (ty := .int) (C := RX10) (T := TX10) (N := 40) hx hb hts hiX10 tyX10 tyX10_ok nmX10 hown hK hP hD hS 0 rfl rfl 3 (by decide) (hts (.fieldLink RX10 88 "WatchedProgramsModel" "typed" "I") (by decide +kernel)) (fun _ h9 => h9) rfl (by decide +kernel) rfl rfl (Nat.le_of_ble_eq_true rfl) dX10_clear_12 (fun H locs hP hD hS => ?_)
  have hP : va_P (dC, dI) vwCl [(mm, .inr (10, [.int 0, .ref lev, .ref txt, .int 0, .int 0, .int 0, .int 0, .int 0, .int 0, .int 0, .int 0, .ref stm, .ref sm, .int 0, .ref sgn, .ref vls, .ref opn, .ref opp, .ref bke, .ref bko, .ref bkl, .ref cel, .int 0, .int 0, .ref tap, .ref tpl, .int 0, .int 0, .ref rtp, .ref rlv, .int 0, .ref sen, .ref hpo, .ref hpm, .ref bgn, .ref chn, .ref sgt, .int 0, .int 0, .ref rsd]))] H := hP
  have hD : va_D A [(mm, .inr (10, [.int 0, .ref lev, .ref txt, .int 0, .int 0, .int 0, .int 0, .int 0, .int 0, .int 0, .int 0, .ref stm, .ref sm, .int 0, .ref sgn, .ref vls, .ref opn, .ref opp, .ref bke, .ref bko, .ref bkl, .ref cel, .int 0, .int 0, .ref tap, .ref tpl, .int 0, .int 0, .ref rtp, .ref rlv, .int 0, .ref sen, .ref hpo, .ref hpm, .ref bgn, .ref chn, .ref sgt, .int 0, .int 0, .ref rsd]))] := hD
  refine lv_iload_n hx hb dX10_clear_15 rfl (lv_at hl 0 rfl) ?_
  have hP9 := hP.sub (ws' := []) [] rfl
  have hD9 := hD.sub (ws' := []) [] (by decide) rfl
  exact W.iret (v := 0) hx hb hr (fun tt_ ht hW => ⟨⟨_, (), rfl, rfl, by rw [ht]; exact hP9, hD9⟩, hS.F ht⟩) hS.2.2 dX10_clear_16
set_option maxHeartbeats 1000000 in
set_option maxRecDepth 100000 in
theorem m_tells1 (l : Launch) (dC : Nat → ClassId) (dI : Nat → Nat → Nat) (cI cJ cS : ClassId) (sz : Nat) (mm : Nat) (w : Int32) (n : Int32) (lev : Nat) (txt : Nat) (stm : Nat) (sm : Nat) (sgn : Nat) (vls : Nat) (opn : Nat) (opp : Nat) (bke : Nat) (bko : Nat) (bkl : Nat) (cel : Nat) (tap : Nat) (tpl : Nat) (rtp : Nat) (rlv : Nat) (sen : Nat) (hpo : Nat) (hpm : Nat) (bgn : Nat) (chn : Nat) (sgt : Nat) (sc : Int32) (hp : Int32) (rsd : Nat) (f : Nat → Int32)  : Met l yX10_tells wsX10_tells ({ frames := 1, cells := 0, slots := 0, locals := 21 }) (va_Pc [.ref mm, .int w, .int 1, .int n] (PE dC dI cI cJ cS [(mm, .inr (10, [.int 0, .ref lev, .ref txt, .int 0, .int 0, .int 0, .int 0, .int 0, .int 0, .int 0, .int 0, .ref stm, .ref sm, .int 0, .ref sgn, .ref vls, .ref opn, .ref opp, .ref bke, .ref bko, .ref bkl, .ref cel, .int 0, .int 0, .ref tap, .ref tpl, .int 0, .int 0, .ref rtp, .ref rlv, .int 0, .ref sen, .ref hpo, .ref hpm, .ref bgn, .ref chn, .ref sgt, .int sc, .int hp, .ref rsd])), (lev, aI cI 6 (fun _ => 0)), (cel, aI cI 6 f)] sz)) (va_Qv (fun (fc : Nat → Int32) => True) (BE dC dI (va_A [(mm, .inr (10, [.int 0, .ref lev, .ref txt, .int 0, .int 0, .int 0, .int 0, .int 0, .int 0, .int 0, .int 0, .ref stm, .ref sm, .int 0, .ref sgn, .ref vls, .ref opn, .ref opp, .ref bke, .ref bko, .ref bkl, .ref cel, .int 0, .int 0, .ref tap, .ref tpl, .int 0, .int 0, .ref rtp, .ref rlv, .int 0, .ref sen, .ref hpo, .ref hpm, .ref bgn, .ref chn, .ref sgt, .int sc, .int hp, .ref rsd])), (lev, aI cI 6 (fun _ => 0)), (cel, aI cI 6 f)] sz) (fun (fc : Nat → Int32) => [(mm, .inr (10, [.int 0, .ref lev, .ref txt, .int 0, .int 0, .int 0, .int 0, .int 0, .int 0, .int 0, .int 0, .ref stm, .ref sm, .int 0, .ref sgn, .ref vls, .ref opn, .ref opp, .ref bke, .ref bko, .ref bkl, .ref cel, .int 0, .int 0, .ref tap, .ref tpl, .int 0, .int 0, .ref rtp, .ref rlv, .int 0, .ref sen, .ref hpo, .ref hpm, .ref bgn, .ref chn, .ref sgt, .int sc, .int hp, .ref rsd])), (lev, aI cI 6 (fun _ => 0)), (cel, aI cI 6 fc)])) (va_A [(mm, .inr (10, [.int 0, .ref lev, .ref txt, .int 0, .int 0, .int 0, .int 0, .int 0, .int 0, .int 0, .int 0, .ref stm, .ref sm, .int 0, .ref sgn, .ref vls, .ref opn, .ref opp, .ref bke, .ref bko, .ref bkl, .ref cel, .int 0, .int 0, .ref tap, .ref tpl, .int 0, .int 0, .ref rtp, .ref rlv, .int 0, .ref sen, .ref hpo, .ref hpm, .ref bgn, .ref chn, .ref sgt, .int sc, .int hp, .ref rsd])), (lev, aI cI 6 (fun _ => 0)), (cel, aI cI 6 f)] sz)) 0 0 (va_A [(mm, .inr (10, [.int 0, .ref lev, .ref txt, .int 0, .int 0, .int 0, .int 0, .int 0, .int 0, .int 0, .int 0, .ref stm, .ref sm, .int 0, .ref sgn, .ref vls, .ref opn, .ref opp, .ref bke, .ref bko, .ref bkl, .ref cel, .int 0, .int 0, .ref tap, .ref tpl, .int 0, .int 0, .ref rtp, .ref rlv, .int 0, .ref sen, .ref hpo, .ref hpm, .ref bgn, .ref chn, .ref sgt, .int sc, .int hp, .ref rsd])), (lev, aI cI 6 (fun _ => 0)), (cel, aI cI 6 f)] sz) := by
  refine Met.ofW (cc := cX10_tells) (maxL := 6) (ret := none) (by decide) rfl ?_
  intro pp_ ee_ ss_ mm_ args below meth cc_ s₁ B hml hv
  obtain ⟨rfl, hsz, hP, hE, hD0⟩ := hv
  have hx := B.exec
  have hb := B.bytes
  have hr := B.returns
  have hts := atoms_spec (ws := wsX10_tells) B.pre
  have hown : ss_.vm.findClass RX10 = some mm_.cls := findClass_of_methodNamed B.named
  have hlocks := B.notSynchronized
  have hK := hE.1
  have hiX10 : ∀ w ∈ wsX100, w ∈ wsX10_tells := by decide +kernel
  subst hsz
  have hD := hD0.self (sz := ss_.heap.size)
  generalize hAe : va_A [(mm, .inr (10, [.int 0, .ref lev, .ref txt, .int 0, .int 0, .int 0, .int 0, .int 0, .int 0, .int 0, .int 0, .ref stm, .ref sm, .int 0, .ref sgn, .ref vls, .ref opn, .ref opp, .ref bke, .ref bko, .ref bkl, .ref cel, .int 0, .int 0, .ref tap, .ref tpl, .int 0, .int 0, .ref rtp, .ref rlv, .int 0, .ref sen, .ref hpo, .ref hpm, .ref bgn, .ref chn, .ref sgt, .int sc, .int hp, .ref rsd])), (lev, aI cI 6 (fun _ => 0)), (cel, aI cI 6 f)] ss_.heap.size = A at hD ⊢
  have hA : ∀ q : Nat, ss_.heap.size ≤ q → A q := fun q h => by rw [← hAe]; exact Or.inr h
  have hS : va_S A ss_.heap ss_.heap [] := va_S.rf
  have hP : va_P (dC, dI) vwCl [(mm, .inr (10, [.int 0, .ref lev, .ref txt, .int 0, .int 0, .int 0, .int 0, .int 0, .int 0, .int 0, .int 0, .ref stm, .ref sm, .int 0, .ref sgn, .ref vls, .ref opn, .ref opp, .ref bke, .ref bko, .ref bkl, .ref cel, .int 0, .int 0, .ref tap, .ref tpl, .int 0, .int 0, .ref rtp, .ref rlv, .int 0, .ref sen, .ref hpo, .ref hpm, .ref bgn, .ref chn, .ref sgt, .int sc, .int hp, .ref rsd])), (lev, aI cI 6 (fun _ => 0)), (cel, aI cI 6 f)] ss_.heap := hP
  have hl := lv_entry ([.ref mm, .int w, .int 1, .int n]) (n := 6) (Nat.le_of_ble_eq_true rfl)
  rw [lg_entry_eq]
  generalize (lg_sl ([.ref mm, .int w, .int 1, .int n]) ++ List.replicate (6 - (lg_sl ([.ref mm, .int w, .int 1, .int n])).length) Slot.unset).toArray = ls at hl ⊢
  have hl : lv_has ls 6 [(0, .ref mm), (1, .int w), (2, .int 1), (3, .int n)] := hl
  refine lv_iload_n hx hb dX10_tells_0 rfl (lv_at hl 3 rfl) ?_
  refine lv_istore (lv' := [(4, .int n), (0, .ref mm), (1, .int w), (2, .int 1), (3, .int n)]) hx hb dX10_tells_1 hl (by decide) rfl (fun ls hl => ?_)
  refine lv_iconst (v := 0) hx hb dX10_tells_3 (by decide) ?_
  refine lv_istore (lv' := [(5, .int 0), (4, .int n), (0, .ref mm), (1, .int w), (2, .int 1), (3, .int n)]) hx hb dX10_tells_4 hl (by decide) rfl (fun ls hl => ?_)
  refine lv_iload hx hb dX10_tells_6 (lv_at hl 0 rfl) ?_
  refine lv_bipush (v := 6) hx hb dX10_tells_8 (by decide) ?_
  refine lv_icmp_ge (tgt := 51) hx hb dX10_tells_10 (by decide) (fun c_1 => absurd c_1 (by decide)) (fun _ => ?_)
  refine lv_aload_n hx hb dX10_tells_13 rfl (lv_at hl 2 rfl) ?_
  refine va_get (D := (dC, dI)) (ci := 10) (v := .ref lev) (C := RX10) (T := TX10) (N := 40) hx hb hts hiX10 hown hK hP 0 rfl rfl 1 (by decide) (hts (.fieldLink RX10 7 "WatchedProgramsModel" "level" "[I") (by decide +kernel)) (fun _ h9 => h9) rfl dX10_tells_14 ?_
  refine lv_iload hx hb dX10_tells_17 (lv_at hl 0 rfl) ?_
  refine va_iald hx hb hK hP 1 0 rfl rfl (by unfold vp_in; decide) dX10_tells_19 ?_
  refine zi (y := 0) (by rfl) ?_
  refine lv_iload_n hx hb dX10_tells_20 rfl (lv_at hl 3 rfl) ?_
  refine vp_callSi (va_Run.run (va_runS (As := [.int 0, .int w]) (rest := []) ⟨hx, hb, hml, hown, hts⟩ (m_isWithin l dC dI cI cJ cS  w ) (va_cwS 2 hts gX10_tells_X10_isWithin rfl rfl rfl (by decide +kernel) ⟨Nat.le_of_ble_eq_true rfl, Nat.le_of_ble_eq_true rfl⟩) (preR (hP.sub (ws' := []) [] rfl) hE) rfl rfl hl.1 rfl (lv_room (Nat.le_of_ble_eq_true rfl)) dX10_tells_21 ⟨by decide +kernel, by decide +kernel⟩)) (fun r_2 hr_3 => ?_)
  obtain rfl := hr_3
  refine lv_iload_n hx hb dX10_tells_24 rfl (lv_at hl 4 rfl) ?_
  refine lv_icmp_ne (tgt := 45) hx hb dX10_tells_25 (by decide) (fun c_4 => absurd (by decide) c_4) (fun _ => ?_)
  refine lv_aload_n hx hb dX10_tells_28 rfl (lv_at hl 2 rfl) ?_
  refine va_get (D := (dC, dI)) (ci := 10) (v := .ref cel) (C := RX10) (T := TX10) (N := 40) hx hb hts hiX10 hown hK hP 0 rfl rfl 21 (by decide) (hts (.fieldLink RX10 43 "WatchedProgramsModel" "cell" "[I") (by decide +kernel)) (fun _ h9 => h9) rfl dX10_tells_29 ?_
  refine lv_iload hx hb dX10_tells_32 (lv_at hl 0 rfl) ?_
  refine lv_iload hx hb dX10_tells_34 (lv_at hl 1 rfl) ?_
  refine lv_iconst (v := 3) hx hb dX10_tells_36 (by decide) ?_
  refine lv_iand hx hb dX10_tells_37 ?_
  refine va_iast hx hb hK hP hD hS 2 0 rfl rfl (by unfold vp_in; decide) dX10_tells_38 (fun H locs hP hD hS => ?_)
  have hP : va_P (dC, dI) vwCl [(mm, .inr (10, [.int 0, .ref lev, .ref txt, .int 0, .int 0, .int 0, .int 0, .int 0, .int 0, .int 0, .int 0, .ref stm, .ref sm, .int 0, .ref sgn, .ref vls, .ref opn, .ref opp, .ref bke, .ref bko, .ref bkl, .ref cel, .int 0, .int 0, .ref tap, .ref tpl, .int 0, .int 0, .ref rtp, .ref rlv, .int 0, .ref sen, .ref hpo, .ref hpm, .ref bgn, .ref chn, .ref sgt, .int sc, .int hp, .ref rsd])), (lev, aI cI 6 (fun _ => 0)), (cel, aI cI 6 (upd f 0 (n &&& 3)))] H := hP
  have hD : va_D A [(mm, .inr (10, [.int 0, .ref lev, .ref txt, .int 0, .int 0, .int 0, .int 0, .int 0, .int 0, .int 0, .int 0, .ref stm, .ref sm, .int 0, .ref sgn, .ref vls, .ref opn, .ref opp, .ref bke, .ref bko, .ref bkl, .ref cel, .int 0, .int 0, .ref tap, .ref tpl, .int 0, .int 0, .ref rtp, .ref rlv, .int 0, .ref sen, .ref hpo, .ref hpm, .ref bgn, .ref chn, .ref sgt, .int sc, .int hp, .ref rsd])), (lev, aI cI 6 (fun _ => 0)), (cel, aI cI 6 (upd f 0 (n &&& 3)))] := hD
  refine lv_iload hx hb dX10_tells_39 (lv_at hl 1 rfl) ?_
  refine lv_iconst (v := 2) hx hb dX10_tells_41 (by decide) ?_
  refine lv_ishr hx hb dX10_tells_42 ?_
  refine lv_istore (lv' := [(4, .int (n >>> (2 &&& 31))), (5, .int 0), (0, .ref mm), (1, .int w), (2, .int 1), (3, .int n)]) hx hb dX10_tells_43 hl (by decide) rfl (fun ls hl => ?_)
  refine lv_iinc (v := 1) (lv' := [(5, .int 1), (4, .int (n >>> (2 &&& 31))), (0, .ref mm), (1, .int w), (2, .int 1), (3, .int n)]) hx hb dX10_tells_45 hl (k := 1) rfl (by decide) (by decide) rfl (fun ls hl => ?_)
  refine lv_goto (tgt := 6) hx hb dX10_tells_48 (by decide) ?_
  refine lv_iload hx hb dX10_tells_6 (lv_at hl 0 rfl) ?_
  refine lv_bipush (v := 6) hx hb dX10_tells_8 (by decide) ?_
  refine lv_icmp_ge (tgt := 51) hx hb dX10_tells_10 (by decide) (fun c_5 => absurd c_5 (by decide)) (fun _ => ?_)
  refine lv_aload_n hx hb dX10_tells_13 rfl (lv_at hl 2 rfl) ?_
  refine va_get (D := (dC, dI)) (ci := 10) (v := .ref lev) (C := RX10) (T := TX10) (N := 40) hx hb hts hiX10 hown hK hP 0 rfl rfl 1 (by decide) (hts (.fieldLink RX10 7 "WatchedProgramsModel" "level" "[I") (by decide +kernel)) (fun _ h9 => h9) rfl dX10_tells_14 ?_
  refine lv_iload hx hb dX10_tells_17 (lv_at hl 0 rfl) ?_
  refine va_iald hx hb hK hP 1 0 rfl rfl (by unfold vp_in; decide) dX10_tells_19 ?_
  refine zi (y := 0) (by rfl) ?_
  refine lv_iload_n hx hb dX10_tells_20 rfl (lv_at hl 3 rfl) ?_
  refine vp_callSi (va_Run.run (va_runS (As := [.int 0, .int w]) (rest := []) ⟨hx, hb, hml, hown, hts⟩ (m_isWithin l dC dI cI cJ cS  w ) (va_cwS 2 hts gX10_tells_X10_isWithin rfl rfl rfl (by decide +kernel) ⟨Nat.le_of_ble_eq_true rfl, Nat.le_of_ble_eq_true rfl⟩) (preR (hP.sub (ws' := []) [] rfl) hE) rfl rfl hl.1 rfl (lv_room (Nat.le_of_ble_eq_true rfl)) dX10_tells_21 ⟨by decide +kernel, by decide +kernel⟩)) (fun r_6 hr_7 => ?_)
  obtain rfl := hr_7
  refine lv_iload_n hx hb dX10_tells_24 rfl (lv_at hl 4 rfl) ?_
  refine lv_icmp_ne (tgt := 45) hx hb dX10_tells_25 (by decide) (fun c_8 => absurd (by decide) c_8) (fun _ => ?_)
  refine lv_aload_n hx hb dX10_tells_28 rfl (lv_at hl 2 rfl) ?_
  refine va_get (D := (dC, dI)) (ci := 10) (v := .ref cel) (C := RX10) (T := TX10) (N := 40) hx hb hts hiX10 hown hK hP 0 rfl rfl 21 (by decide) (hts (.fieldLink RX10 43 "WatchedProgramsModel" "cell" "[I") (by decide +kernel)) (fun _ h9 => h9) rfl dX10_tells_29 ?_
  refine lv_iload hx hb dX10_tells_32 (lv_at hl 0 rfl) ?_
  refine lv_iload hx hb dX10_tells_34 (lv_at hl 1 rfl) ?_
  refine lv_iconst (v := 3) hx hb dX10_tells_36 (by decide) ?_
  refine lv_iand hx hb dX10_tells_37 ?_
  refine va_iast hx hb hK hP hD hS 2 0 rfl rfl (by unfold vp_in; decide) dX10_tells_38 (fun H locs hP hD hS => ?_)
  have hP : va_P (dC, dI) vwCl [(mm, .inr (10, [.int 0, .ref lev, .ref txt, .int 0, .int 0, .int 0, .int 0, .int 0, .int 0, .int 0, .int 0, .ref stm, .ref sm, .int 0, .ref sgn, .ref vls, .ref opn, .ref opp, .ref bke, .ref bko, .ref bkl, .ref cel, .int 0, .int 0, .ref tap, .ref tpl, .int 0, .int 0, .ref rtp, .ref rlv, .int 0, .ref sen, .ref hpo, .ref hpm, .ref bgn, .ref chn, .ref sgt, .int sc, .int hp, .ref rsd])), (lev, aI cI 6 (fun _ => 0)), (cel, aI cI 6 (upd (upd f 0 (n &&& 3)) 1 ((n >>> (2 &&& 31)) &&& 3)))] H := hP
  have hD : va_D A [(mm, .inr (10, [.int 0, .ref lev, .ref txt, .int 0, .int 0, .int 0, .int 0, .int 0, .int 0, .int 0, .int 0, .ref stm, .ref sm, .int 0, .ref sgn, .ref vls, .ref opn, .ref opp, .ref bke, .ref bko, .ref bkl, .ref cel, .int 0, .int 0, .ref tap, .ref tpl, .int 0, .int 0, .ref rtp, .ref rlv, .int 0, .ref sen, .ref hpo, .ref hpm, .ref bgn, .ref chn, .ref sgt, .int sc, .int hp, .ref rsd])), (lev, aI cI 6 (fun _ => 0)), (cel, aI cI 6 (upd (upd f 0 (n &&& 3)) 1 ((n >>> (2 &&& 31)) &&& 3)))] := hD
  refine lv_iload hx hb dX10_tells_39 (lv_at hl 1 rfl) ?_
  refine lv_iconst (v := 2) hx hb dX10_tells_41 (by decide) ?_
  refine lv_ishr hx hb dX10_tells_42 ?_
  refine lv_istore (lv' := [(4, .int ((n >>> (2 &&& 31)) >>> (2 &&& 31))), (5, .int 1), (0, .ref mm), (1, .int w), (2, .int 1), (3, .int n)]) hx hb dX10_tells_43 hl (by decide) rfl (fun ls hl => ?_)
  refine lv_iinc (v := 2) (lv' := [(5, .int 2), (4, .int ((n >>> (2 &&& 31)) >>> (2 &&& 31))), (0, .ref mm), (1, .int w), (2, .int 1), (3, .int n)]) hx hb dX10_tells_45 hl (k := 1) rfl (by decide) (by decide) rfl (fun ls hl => ?_)
  refine lv_goto (tgt := 6) hx hb dX10_tells_48 (by decide) ?_
  refine lv_iload hx hb dX10_tells_6 (lv_at hl 0 rfl) ?_
  refine lv_bipush (v := 6) hx hb dX10_tells_8 (by decide) ?_
  refine lv_icmp_ge (tgt := 51) hx hb dX10_tells_10 (by decide) (fun c_9 => absurd c_9 (by decide)) (fun _ => ?_)
  refine lv_aload_n hx hb dX10_tells_13 rfl (lv_at hl 2 rfl) ?_
  refine va_get (D := (dC, dI)) (ci := 10) (v := .ref lev) (C := RX10) (T := TX10) (N := 40) hx hb hts hiX10 hown hK hP 0 rfl rfl 1 (by decide) (hts (.fieldLink RX10 7 "WatchedProgramsModel" "level" "[I") (by decide +kernel)) (fun _ h9 => h9) rfl dX10_tells_14 ?_
  refine lv_iload hx hb dX10_tells_17 (lv_at hl 0 rfl) ?_
  refine va_iald hx hb hK hP 1 0 rfl rfl (by unfold vp_in; decide) dX10_tells_19 ?_
  refine zi (y := 0) (by rfl) ?_
  refine lv_iload_n hx hb dX10_tells_20 rfl (lv_at hl 3 rfl) ?_
  refine vp_callSi (va_Run.run (va_runS (As := [.int 0, .int w]) (rest := []) ⟨hx, hb, hml, hown, hts⟩ (m_isWithin l dC dI cI cJ cS  w ) (va_cwS 2 hts gX10_tells_X10_isWithin rfl rfl rfl (by decide +kernel) ⟨Nat.le_of_ble_eq_true rfl, Nat.le_of_ble_eq_true rfl⟩) (preR (hP.sub (ws' := []) [] rfl) hE) rfl rfl hl.1 rfl (lv_room (Nat.le_of_ble_eq_true rfl)) dX10_tells_21 ⟨by decide +kernel, by decide +kernel⟩)) (fun r_10 hr_11 => ?_)
  obtain rfl := hr_11
  refine lv_iload_n hx hb dX10_tells_24 rfl (lv_at hl 4 rfl) ?_
  refine lv_icmp_ne (tgt := 45) hx hb dX10_tells_25 (by decide) (fun c_12 => absurd (by decide) c_12) (fun _ => ?_)
  refine lv_aload_n hx hb dX10_tells_28 rfl (lv_at hl 2 rfl) ?_
  refine va_get (D := (dC, dI)) (ci := 10) (v := .ref cel) (C := RX10) (T := TX10) (N := 40) hx hb hts hiX10 hown hK hP 0 rfl rfl 21 (by decide) (hts (.fieldLink RX10 43 "WatchedProgramsModel" "cell" "[I") (by decide +kernel)) (fun _ h9 => h9) rfl dX10_tells_29 ?_
  refine lv_iload hx hb dX10_tells_32 (lv_at hl 0 rfl) ?_
  refine lv_iload hx hb dX10_tells_34 (lv_at hl 1 rfl) ?_
  refine lv_iconst (v := 3) hx hb dX10_tells_36 (by decide) ?_
  refine lv_iand hx hb dX10_tells_37 ?_
  refine va_iast hx hb hK hP hD hS 2 0 rfl rfl (by unfold vp_in; decide) dX10_tells_38 (fun H locs hP hD hS => ?_)
  have hP : va_P (dC, dI) vwCl [(mm, .inr (10, [.int 0, .ref lev, .ref txt, .int 0, .int 0, .int 0, .int 0, .int 0, .int 0, .int 0, .int 0, .ref stm, .ref sm, .int 0, .ref sgn, .ref vls, .ref opn, .ref opp, .ref bke, .ref bko, .ref bkl, .ref cel, .int 0, .int 0, .ref tap, .ref tpl, .int 0, .int 0, .ref rtp, .ref rlv, .int 0, .ref sen, .ref hpo, .ref hpm, .ref bgn, .ref chn, .ref sgt, .int sc, .int hp, .ref rsd])), (lev, aI cI 6 (fun _ => 0)), (cel, aI cI 6 (upd (upd (upd f 0 (n &&& 3)) 1 ((n >>> (2 &&& 31)) &&& 3)) 2 (((n >>> (2 &&& 31)) >>> (2 &&& 31)) &&& 3)))] H := hP
  have hD : va_D A [(mm, .inr (10, [.int 0, .ref lev, .ref txt, .int 0, .int 0, .int 0, .int 0, .int 0, .int 0, .int 0, .int 0, .ref stm, .ref sm, .int 0, .ref sgn, .ref vls, .ref opn, .ref opp, .ref bke, .ref bko, .ref bkl, .ref cel, .int 0, .int 0, .ref tap, .ref tpl, .int 0, .int 0, .ref rtp, .ref rlv, .int 0, .ref sen, .ref hpo, .ref hpm, .ref bgn, .ref chn, .ref sgt, .int sc, .int hp, .ref rsd])), (lev, aI cI 6 (fun _ => 0)), (cel, aI cI 6 (upd (upd (upd f 0 (n &&& 3)) 1 ((n >>> (2 &&& 31)) &&& 3)) 2 (((n >>> (2 &&& 31)) >>> (2 &&& 31)) &&& 3)))] := hD
  refine lv_iload hx hb dX10_tells_39 (lv_at hl 1 rfl) ?_
  refine lv_iconst (v := 2) hx hb dX10_tells_41 (by decide) ?_
  refine lv_ishr hx hb dX10_tells_42 ?_
  refine lv_topi (fun z_13 ez_13 => ?_)
  refine lv_istore (lv' := [(4, .int z_13), (5, .int 2), (0, .ref mm), (1, .int w), (2, .int 1), (3, .int n)]) hx hb dX10_tells_43 hl (by decide) rfl (fun ls hl => ?_)
  refine lv_iinc (v := 3) (lv' := [(5, .int 3), (4, .int z_13), (0, .ref mm), (1, .int w), (2, .int 1), (3, .int n)]) hx hb dX10_tells_45 hl (k := 1) rfl (by decide) (by decide) rfl (fun ls hl => ?_)
  refine lv_goto (tgt := 6) hx hb dX10_tells_48 (by decide) ?_
  refine lv_iload hx hb dX10_tells_6 (lv_at hl 0 rfl) ?_
  refine lv_bipush (v := 6) hx hb dX10_tells_8 (by decide) ?_
  refine lv_icmp_ge (tgt := 51) hx hb dX10_tells_10 (by decide) (fun c_14 => absurd c_14 (by decide)) (fun _ => ?_)
  refine lv_aload_n hx hb dX10_tells_13 rfl (lv_at hl 2 rfl) ?_
  refine va_get (D := (dC, dI)) (ci := 10) (v := .ref lev) (C := RX10) (T := TX10) (N := 40) hx hb hts hiX10 hown hK hP 0 rfl rfl 1 (by decide) (hts (.fieldLink RX10 7 "WatchedProgramsModel" "level" "[I") (by decide +kernel)) (fun _ h9 => h9) rfl dX10_tells_14 ?_
  refine lv_iload hx hb dX10_tells_17 (lv_at hl 0 rfl) ?_
  refine va_iald hx hb hK hP 1 0 rfl rfl (by unfold vp_in; decide) dX10_tells_19 ?_
  refine zi (y := 0) (by rfl) ?_
  refine lv_iload_n hx hb dX10_tells_20 rfl (lv_at hl 3 rfl) ?_
  refine vp_callSi (va_Run.run (va_runS (As := [.int 0, .int w]) (rest := []) ⟨hx, hb, hml, hown, hts⟩ (m_isWithin l dC dI cI cJ cS  w ) (va_cwS 2 hts gX10_tells_X10_isWithin rfl rfl rfl (by decide +kernel) ⟨Nat.le_of_ble_eq_true rfl, Nat.le_of_ble_eq_true rfl⟩) (preR (hP.sub (ws' := []) [] rfl) hE) rfl rfl hl.1 rfl (lv_room (Nat.le_of_ble_eq_true rfl)) dX10_tells_21 ⟨by decide +kernel, by decide +kernel⟩)) (fun r_15 hr_16 => ?_)
  obtain rfl := hr_16
  refine lv_iload_n hx hb dX10_tells_24 rfl (lv_at hl 4 rfl) ?_
  refine lv_icmp_ne (tgt := 45) hx hb dX10_tells_25 (by decide) (fun c_17 => absurd (by decide) c_17) (fun _ => ?_)
  refine lv_aload_n hx hb dX10_tells_28 rfl (lv_at hl 2 rfl) ?_
  refine va_get (D := (dC, dI)) (ci := 10) (v := .ref cel) (C := RX10) (T := TX10) (N := 40) hx hb hts hiX10 hown hK hP 0 rfl rfl 21 (by decide) (hts (.fieldLink RX10 43 "WatchedProgramsModel" "cell" "[I") (by decide +kernel)) (fun _ h9 => h9) rfl dX10_tells_29 ?_
  refine lv_iload hx hb dX10_tells_32 (lv_at hl 0 rfl) ?_
  refine lv_iload hx hb dX10_tells_34 (lv_at hl 1 rfl) ?_
  refine lv_iconst (v := 3) hx hb dX10_tells_36 (by decide) ?_
  refine lv_iand hx hb dX10_tells_37 ?_
  refine va_iast hx hb hK hP hD hS 2 0 rfl rfl (by unfold vp_in; decide) dX10_tells_38 (fun H locs hP hD hS => ?_)
  have hP : va_P (dC, dI) vwCl [(mm, .inr (10, [.int 0, .ref lev, .ref txt, .int 0, .int 0, .int 0, .int 0, .int 0, .int 0, .int 0, .int 0, .ref stm, .ref sm, .int 0, .ref sgn, .ref vls, .ref opn, .ref opp, .ref bke, .ref bko, .ref bkl, .ref cel, .int 0, .int 0, .ref tap, .ref tpl, .int 0, .int 0, .ref rtp, .ref rlv, .int 0, .ref sen, .ref hpo, .ref hpm, .ref bgn, .ref chn, .ref sgt, .int sc, .int hp, .ref rsd])), (lev, aI cI 6 (fun _ => 0)), (cel, aI cI 6 (upd (upd (upd (upd f 0 (n &&& 3)) 1 ((n >>> (2 &&& 31)) &&& 3)) 2 (((n >>> (2 &&& 31)) >>> (2 &&& 31)) &&& 3)) 3 (z_13 &&& 3)))] H := hP
  have hD : va_D A [(mm, .inr (10, [.int 0, .ref lev, .ref txt, .int 0, .int 0, .int 0, .int 0, .int 0, .int 0, .int 0, .int 0, .ref stm, .ref sm, .int 0, .ref sgn, .ref vls, .ref opn, .ref opp, .ref bke, .ref bko, .ref bkl, .ref cel, .int 0, .int 0, .ref tap, .ref tpl, .int 0, .int 0, .ref rtp, .ref rlv, .int 0, .ref sen, .ref hpo, .ref hpm, .ref bgn, .ref chn, .ref sgt, .int sc, .int hp, .ref rsd])), (lev, aI cI 6 (fun _ => 0)), (cel, aI cI 6 (upd (upd (upd (upd f 0 (n &&& 3)) 1 ((n >>> (2 &&& 31)) &&& 3)) 2 (((n >>> (2 &&& 31)) >>> (2 &&& 31)) &&& 3)) 3 (z_13 &&& 3)))] := hD
  refine lv_iload hx hb dX10_tells_39 (lv_at hl 1 rfl) ?_
  refine lv_iconst (v := 2) hx hb dX10_tells_41 (by decide) ?_
  refine lv_ishr hx hb dX10_tells_42 ?_
  refine lv_istore (lv' := [(4, .int (z_13 >>> (2 &&& 31))), (5, .int 3), (0, .ref mm), (1, .int w), (2, .int 1), (3, .int n)]) hx hb dX10_tells_43 hl (by decide) rfl (fun ls hl => ?_)
  refine lv_iinc (v := 4) (lv' := [(5, .int 4), (4, .int (z_13 >>> (2 &&& 31))), (0, .ref mm), (1, .int w), (2, .int 1), (3, .int n)]) hx hb dX10_tells_45 hl (k := 1) rfl (by decide) (by decide) rfl (fun ls hl => ?_)
  refine lv_goto (tgt := 6) hx hb dX10_tells_48 (by decide) ?_
  refine lv_iload hx hb dX10_tells_6 (lv_at hl 0 rfl) ?_
  refine lv_bipush (v := 6) hx hb dX10_tells_8 (by decide) ?_
  refine lv_icmp_ge (tgt := 51) hx hb dX10_tells_10 (by decide) (fun c_18 => absurd c_18 (by decide)) (fun _ => ?_)
  refine lv_aload_n hx hb dX10_tells_13 rfl (lv_at hl 2 rfl) ?_
  refine va_get (D := (dC, dI)) (ci := 10) (v := .ref lev) (C := RX10) (T := TX10) (N := 40) hx hb hts hiX10 hown hK hP 0 rfl rfl 1 (by decide) (hts (.fieldLink RX10 7 "WatchedProgramsModel" "level" "[I") (by decide +kernel)) (fun _ h9 => h9) rfl dX10_tells_14 ?_
  refine lv_iload hx hb dX10_tells_17 (lv_at hl 0 rfl) ?_
  refine va_iald hx hb hK hP 1 0 rfl rfl (by unfold vp_in; decide) dX10_tells_19 ?_
  refine zi (y := 0) (by rfl) ?_
  refine lv_iload_n hx hb dX10_tells_20 rfl (lv_at hl 3 rfl) ?_
  refine vp_callSi (va_Run.run (va_runS (As := [.int 0, .int w]) (rest := []) ⟨hx, hb, hml, hown, hts⟩ (m_isWithin l dC dI cI cJ cS  w ) (va_cwS 2 hts gX10_tells_X10_isWithin rfl rfl rfl (by decide +kernel) ⟨Nat.le_of_ble_eq_true rfl, Nat.le_of_ble_eq_true rfl⟩) (preR (hP.sub (ws' := []) [] rfl) hE) rfl rfl hl.1 rfl (lv_room (Nat.le_of_ble_eq_true rfl)) dX10_tells_21 ⟨by decide +kernel, by decide +kernel⟩)) (fun r_19 hr_20 => ?_)
  obtain rfl := hr_20
  refine lv_iload_n hx hb dX10_tells_24 rfl (lv_at hl 4 rfl) ?_
  refine lv_icmp_ne (tgt := 45) hx hb dX10_tells_25 (by decide) (fun c_21 => absurd (by decide) c_21) (fun _ => ?_)
  refine lv_aload_n hx hb dX10_tells_28 rfl (lv_at hl 2 rfl) ?_
  refine va_get (D := (dC, dI)) (ci := 10) (v := .ref cel) (C := RX10) (T := TX10) (N := 40) hx hb hts hiX10 hown hK hP 0 rfl rfl 21 (by decide) (hts (.fieldLink RX10 43 "WatchedProgramsModel" "cell" "[I") (by decide +kernel)) (fun _ h9 => h9) rfl dX10_tells_29 ?_
  refine lv_iload hx hb dX10_tells_32 (lv_at hl 0 rfl) ?_
  refine lv_iload hx hb dX10_tells_34 (lv_at hl 1 rfl) ?_
  refine lv_iconst (v := 3) hx hb dX10_tells_36 (by decide) ?_
  refine lv_iand hx hb dX10_tells_37 ?_
  refine va_iast hx hb hK hP hD hS 2 0 rfl rfl (by unfold vp_in; decide) dX10_tells_38 (fun H locs hP hD hS => ?_)
  have hP : va_P (dC, dI) vwCl [(mm, .inr (10, [.int 0, .ref lev, .ref txt, .int 0, .int 0, .int 0, .int 0, .int 0, .int 0, .int 0, .int 0, .ref stm, .ref sm, .int 0, .ref sgn, .ref vls, .ref opn, .ref opp, .ref bke, .ref bko, .ref bkl, .ref cel, .int 0, .int 0, .ref tap, .ref tpl, .int 0, .int 0, .ref rtp, .ref rlv, .int 0, .ref sen, .ref hpo, .ref hpm, .ref bgn, .ref chn, .ref sgt, .int sc, .int hp, .ref rsd])), (lev, aI cI 6 (fun _ => 0)), (cel, aI cI 6 (upd (upd (upd (upd (upd f 0 (n &&& 3)) 1 ((n >>> (2 &&& 31)) &&& 3)) 2 (((n >>> (2 &&& 31)) >>> (2 &&& 31)) &&& 3)) 3 (z_13 &&& 3)) 4 ((z_13 >>> (2 &&& 31)) &&& 3)))] H := hP
  have hD : va_D A [(mm, .inr (10, [.int 0, .ref lev, .ref txt, .int 0, .int 0, .int 0, .int 0, .int 0, .int 0, .int 0, .int 0, .ref stm, .ref sm, .int 0, .ref sgn, .ref vls, .ref opn, .ref opp, .ref bke, .ref bko, .ref bkl, .ref cel, .int 0, .int 0, .ref tap, .ref tpl, .int 0, .int 0, .ref rtp, .ref rlv, .int 0, .ref sen, .ref hpo, .ref hpm, .ref bgn, .ref chn, .ref sgt, .int sc, .int hp, .ref rsd])), (lev, aI cI 6 (fun _ => 0)), (cel, aI cI 6 (upd (upd (upd (upd (upd f 0 (n &&& 3)) 1 ((n >>> (2 &&& 31)) &&& 3)) 2 (((n >>> (2 &&& 31)) >>> (2 &&& 31)) &&& 3)) 3 (z_13 &&& 3)) 4 ((z_13 >>> (2 &&& 31)) &&& 3)))] := hD
  refine lv_iload hx hb dX10_tells_39 (lv_at hl 1 rfl) ?_
  refine lv_iconst (v := 2) hx hb dX10_tells_41 (by decide) ?_
  refine lv_ishr hx hb dX10_tells_42 ?_
  refine lv_istore (lv' := [(4, .int ((z_13 >>> (2 &&& 31)) >>> (2 &&& 31))), (5, .int 4), (0, .ref mm), (1, .int w), (2, .int 1), (3, .int n)]) hx hb dX10_tells_43 hl (by decide) rfl (fun ls hl => ?_)
  refine lv_iinc (v := 5) (lv' := [(5, .int 5), (4, .int ((z_13 >>> (2 &&& 31)) >>> (2 &&& 31))), (0, .ref mm), (1, .int w), (2, .int 1), (3, .int n)]) hx hb dX10_tells_45 hl (k := 1) rfl (by decide) (by decide) rfl (fun ls hl => ?_)
  refine lv_goto (tgt := 6) hx hb dX10_tells_48 (by decide) ?_
  refine lv_iload hx hb dX10_tells_6 (lv_at hl 0 rfl) ?_
  refine lv_bipush (v := 6) hx hb dX10_tells_8 (by decide) ?_
  refine lv_icmp_ge (tgt := 51) hx hb dX10_tells_10 (by decide) (fun c_22 => absurd c_22 (by decide)) (fun _ => ?_)
  refine lv_aload_n hx hb dX10_tells_13 rfl (lv_at hl 2 rfl) ?_
  refine va_get (D := (dC, dI)) (ci := 10) (v := .ref lev) (C := RX10) (T := TX10) (N := 40) hx hb hts hiX10 hown hK hP 0 rfl rfl 1 (by decide) (hts (.fieldLink RX10 7 "WatchedProgramsModel" "level" "[I") (by decide +kernel)) (fun _ h9 => h9) rfl dX10_tells_14 ?_
  refine lv_iload hx hb dX10_tells_17 (lv_at hl 0 rfl) ?_
  refine va_iald hx hb hK hP 1 0 rfl rfl (by unfold vp_in; decide) dX10_tells_19 ?_
  refine zi (y := 0) (by rfl) ?_
  refine lv_iload_n hx hb dX10_tells_20 rfl (lv_at hl 3 rfl) ?_
  refine vp_callSi (va_Run.run (va_runS (As := [.int 0, .int w]) (rest := []) ⟨hx, hb, hml, hown, hts⟩ (m_isWithin l dC dI cI cJ cS  w ) (va_cwS 2 hts gX10_tells_X10_isWithin rfl rfl rfl (by decide +kernel) ⟨Nat.le_of_ble_eq_true rfl, Nat.le_of_ble_eq_true rfl⟩) (preR (hP.sub (ws' := []) [] rfl) hE) rfl rfl hl.1 rfl (lv_room (Nat.le_of_ble_eq_true rfl)) dX10_tells_21 ⟨by decide +kernel, by decide +kernel⟩)) (fun r_23 hr_24 => ?_)
  obtain rfl := hr_24
  refine lv_iload_n hx hb dX10_tells_24 rfl (lv_at hl 4 rfl) ?_
  refine lv_icmp_ne (tgt := 45) hx hb dX10_tells_25 (by decide) (fun c_25 => absurd (by decide) c_25) (fun _ => ?_)
  refine lv_aload_n hx hb dX10_tells_28 rfl (lv_at hl 2 rfl) ?_
  refine va_get (D := (dC, dI)) (ci := 10) (v := .ref cel) (C := RX10) (T := TX10) (N := 40) hx hb hts hiX10 hown hK hP 0 rfl rfl 21 (by decide) (hts (.fieldLink RX10 43 "WatchedProgramsModel" "cell" "[I") (by decide +kernel)) (fun _ h9 => h9) rfl dX10_tells_29 ?_
  refine lv_iload hx hb dX10_tells_32 (lv_at hl 0 rfl) ?_
  refine lv_iload hx hb dX10_tells_34 (lv_at hl 1 rfl) ?_
  refine lv_iconst (v := 3) hx hb dX10_tells_36 (by decide) ?_
  refine lv_iand hx hb dX10_tells_37 ?_
  refine va_iast hx hb hK hP hD hS 2 0 rfl rfl (by unfold vp_in; decide) dX10_tells_38 (fun H locs hP hD hS => ?_)
  have hP : va_P (dC, dI) vwCl [(mm, .inr (10, [.int 0, .ref lev, .ref txt, .int 0, .int 0, .int 0, .int 0, .int 0, .int 0, .int 0, .int 0, .ref stm, .ref sm, .int 0, .ref sgn, .ref vls, .ref opn, .ref opp, .ref bke, .ref bko, .ref bkl, .ref cel, .int 0, .int 0, .ref tap, .ref tpl, .int 0, .int 0, .ref rtp, .ref rlv, .int 0, .ref sen, .ref hpo, .ref hpm, .ref bgn, .ref chn, .ref sgt, .int sc, .int hp, .ref rsd])), (lev, aI cI 6 (fun _ => 0)), (cel, aI cI 6 (upd (upd (upd (upd (upd (upd f 0 (n &&& 3)) 1 ((n >>> (2 &&& 31)) &&& 3)) 2 (((n >>> (2 &&& 31)) >>> (2 &&& 31)) &&& 3)) 3 (z_13 &&& 3)) 4 ((z_13 >>> (2 &&& 31)) &&& 3)) 5 (((z_13 >>> (2 &&& 31)) >>> (2 &&& 31)) &&& 3)))] H := hP
  have hD : va_D A [(mm, .inr (10, [.int 0, .ref lev, .ref txt, .int 0, .int 0, .int 0, .int 0, .int 0, .int 0, .int 0, .int 0, .ref stm, .ref sm, .int 0, .ref sgn, .ref vls, .ref opn, .ref opp, .ref bke, .ref bko, .ref bkl, .ref cel, .int 0, .int 0, .ref tap, .ref tpl, .int 0, .int 0, .ref rtp, .ref rlv, .int 0, .ref sen, .ref hpo, .ref hpm, .ref bgn, .ref chn, .ref sgt, .int sc, .int hp, .ref rsd])), (lev, aI cI 6 (fun _ => 0)), (cel, aI cI 6 (upd (upd (upd (upd (upd (upd f 0 (n &&& 3)) 1 ((n >>> (2 &&& 31)) &&& 3)) 2 (((n >>> (2 &&& 31)) >>> (2 &&& 31)) &&& 3)) 3 (z_13 &&& 3)) 4 ((z_13 >>> (2 &&& 31)) &&& 3)) 5 (((z_13 >>> (2 &&& 31)) >>> (2 &&& 31)) &&& 3)))] := hD
  refine lv_iload hx hb dX10_tells_39 (lv_at hl 1 rfl) ?_
  refine lv_iconst (v := 2) hx hb dX10_tells_41 (by decide) ?_
  refine lv_ishr hx hb dX10_tells_42 ?_
  refine lv_topi (fun z_26 ez_26 => ?_)
  refine lv_istore (lv' := [(4, .int z_26), (5, .int 5), (0, .ref mm), (1, .int w), (2, .int 1), (3, .int n)]) hx hb dX10_tells_43 hl (by decide) rfl (fun ls hl => ?_)
  refine lv_iinc (v := 6) (lv' := [(5, .int 6), (4, .int z_26), (0, .ref mm), (1, .int w), (2, .int 1), (3, .int n)]) hx hb dX10_tells_45 hl (k := 1) rfl (by decide) (by decide) rfl (fun ls hl => ?_)
  refine lv_goto (tgt := 6) hx hb dX10_tells_48 (by decide) ?_
  refine lv_iload hx hb dX10_tells_6 (lv_at hl 0 rfl) ?_
  refine lv_bipush (v := 6) hx hb dX10_tells_8 (by decide) ?_
  refine lv_icmp_ge (tgt := 51) hx hb dX10_tells_10 (by decide) (fun _ => ?_) (fun c_27 => absurd (by decide) c_27)
  have hP9 := hP.sub (ws' := [(mm, .inr (10, [.int 0, .ref lev, .ref txt, .int 0, .int 0, .int 0, .int 0, .int 0, .int 0, .int 0, .int 0, .ref stm, .ref sm, .int 0, .ref sgn, .ref vls, .ref opn, .ref opp, .ref bke, .ref bko, .ref bkl, .ref cel, .int 0, .int 0, .ref tap, .ref tpl, .int 0, .int 0, .ref rtp, .ref rlv, .int 0, .ref sen, .ref hpo, .ref hpm, .ref bgn, .ref chn, .ref sgt, .int sc, .int hp, .ref rsd])), (lev, aI cI 6 (fun _ => 0)), (cel, aI cI 6 (upd (upd (upd (upd (upd (upd f 0 (n &&& 3)) 1 ((n >>> (2 &&& 31)) &&& 3)) 2 (((n >>> (2 &&& 31)) >>> (2 &&& 31)) &&& 3)) 3 (z_13 &&& 3)) 4 ((z_13 >>> (2 &&& 31)) &&& 3)) 5 (((z_13 >>> (2 &&& 31)) >>> (2 &&& 31)) &&& 3)))]) [0, 1, 2] rfl
  have hD9 := hD.sub (ws' := [(mm, .inr (10, [.int 0, .ref lev, .ref txt, .int 0, .int 0, .int 0, .int 0, .int 0, .int 0, .int 0, .int 0, .ref stm, .ref sm, .int 0, .ref sgn, .ref vls, .ref opn, .ref opp, .ref bke, .ref bko, .ref bkl, .ref cel, .int 0, .int 0, .ref tap, .ref tpl, .int 0, .int 0, .ref rtp, .ref rlv, .int 0, .ref sen, .ref hpo, .ref hpm, .ref bgn, .ref chn, .ref sgt, .int sc, .int hp, .ref rsd])), (lev, aI cI 6 (fun _ => 0)), (cel, aI cI 6 (upd (upd (upd (upd (upd (upd f 0 (n &&& 3)) 1 ((n >>> (2 &&& 31)) &&& 3)) 2 (((n >>> (2 &&& 31)) >>> (2 &&& 31)) &&& 3)) 3 (z_13 &&& 3)) 4 ((z_13 >>> (2 &&& 31)) &&& 3)) 5 (((z_13 >>> (2 &&& 31)) >>> (2 &&& 31)) &&& 3)))]) [0, 1, 2] (by decide) rfl
  exact W.vret hx hb hr (fun tt_ ht hW => ⟨⟨((upd (upd (upd (upd (upd (upd f 0 (n &&& 3)) 1 ((n >>> (2 &&& 31)) &&& 3)) 2 (((n >>> (2 &&& 31)) >>> (2 &&& 31)) &&& 3)) 3 (z_13 &&& 3)) 4 ((z_13 >>> (2 &&& 31)) &&& 3)) 5 (((z_13 >>> (2 &&& 31)) >>> (2 &&& 31)) &&& 3))), rfl, trivial, by rw [ht]; exact hP9, hD9⟩, hS.F ht⟩) hS.2.2 dX10_tells_51
set_option maxHeartbeats 1000000 in
set_option maxRecDepth 100000 in
theorem m_tells0 (l : Launch) (dC : Nat → ClassId) (dI : Nat → Nat → Nat) (cI cJ cS : ClassId) (mm : Nat) (w : Int32) (n : Int32) (lev : Nat) (txt : Nat) (stm : Nat) (sm : Nat) (sgn : Nat) (vls : Nat) (opn : Nat) (opp : Nat) (bke : Nat) (bko : Nat) (bkl : Nat) (cel : Nat) (tap : Nat) (tpl : Nat) (rtp : Nat) (rlv : Nat) (sen : Nat) (hpo : Nat) (hpm : Nat) (bgn : Nat) (chn : Nat) (sgt : Nat) (sc : Int32) (hp : Int32) (rsd : Nat)  : Met l yX10_tells wsX10_tells ({ frames := 1, cells := 0, slots := 0, locals := 21 }) (va_Pc [.ref mm, .int w, .int 0, .int n] (PR dC dI cI cJ cS [(mm, .inr (10, [.int 0, .ref lev, .ref txt, .int 0, .int 0, .int 0, .int 0, .int 0, .int 0, .int 0, .int 0, .ref stm, .ref sm, .int 0, .ref sgn, .ref vls, .ref opn, .ref opp, .ref bke, .ref bko, .ref bkl, .ref cel, .int 0, .int 0, .ref tap, .ref tpl, .int 0, .int 0, .ref rtp, .ref rlv, .int 0, .ref sen, .ref hpo, .ref hpm, .ref bgn, .ref chn, .ref sgt, .int sc, .int hp, .ref rsd])), (lev, aI cI 6 (fun _ => 0))])) (va_Sv (fun _ => True)) 0 0 (fun _ => False) := by
  refine Met.ofW (cc := cX10_tells) (maxL := 6) (ret := none) (by decide) rfl ?_
  intro pp_ ee_ ss_ mm_ args below meth cc_ s₁ B hml hv
  obtain ⟨rfl, hP, hE⟩ := hv
  have hx := B.exec
  have hb := B.bytes
  have hr := B.returns
  have hts := atoms_spec (ws := wsX10_tells) B.pre
  have hown : ss_.vm.findClass RX10 = some mm_.cls := findClass_of_methodNamed B.named
  have hlocks := B.notSynchronized
  have hK := hE.1
  have hiX10 : ∀ w ∈ wsX100, w ∈ wsX10_tells := by decide +kernel
  have hP : va_P (dC, dI) vwCl [(mm, .inr (10, [.int 0, .ref lev, .ref txt, .int 0, .int 0, .int 0, .int 0, .int 0, .int 0, .int 0, .int 0, .ref stm, .ref sm, .int 0, .ref sgn, .ref vls, .ref opn, .ref opp, .ref bke, .ref bko, .ref bkl, .ref cel, .int 0, .int 0, .ref tap, .ref tpl, .int 0, .int 0, .ref rtp, .ref rlv, .int 0, .ref sen, .ref hpo, .ref hpm, .ref bgn, .ref chn, .ref sgt, .int sc, .int hp, .ref rsd])), (lev, aI cI 6 (fun _ => 0))] ss_.heap := hP
  have hl := lv_entry ([.ref mm, .int w, .int 0, .int n]) (n := 6) (Nat.le_of_ble_eq_true rfl)
  rw [lg_entry_eq]
  generalize (lg_sl ([.ref mm, .int w, .int 0, .int n]) ++ List.replicate (6 - (lg_sl ([.ref mm, .int w, .int 0, .int n])).length) Slot.unset).toArray = ls at hl ⊢
  have hl : lv_has ls 6 [(0, .ref mm), (1, .int w), (2, .int 0), (3, .int n)] := hl
  refine lv_iload_n hx hb dX10_tells_0 rfl (lv_at hl 3 rfl) ?_
  refine lv_istore (lv' := [(4, .int n), (0, .ref mm), (1, .int w), (2, .int 0), (3, .int n)]) hx hb dX10_tells_1 hl (by decide) rfl (fun ls hl => ?_)
  refine lv_iconst (v := 0) hx hb dX10_tells_3 (by decide) ?_
  refine lv_istore (lv' := [(5, .int 0), (4, .int n), (0, .ref mm), (1, .int w), (2, .int 0), (3, .int n)]) hx hb dX10_tells_4 hl (by decide) rfl (fun ls hl => ?_)
  refine lv_iload hx hb dX10_tells_6 (lv_at hl 0 rfl) ?_
  refine lv_bipush (v := 6) hx hb dX10_tells_8 (by decide) ?_
  refine lv_icmp_ge (tgt := 51) hx hb dX10_tells_10 (by decide) (fun c_1 => absurd c_1 (by decide)) (fun _ => ?_)
  refine lv_aload_n hx hb dX10_tells_13 rfl (lv_at hl 2 rfl) ?_
  refine va_get (D := (dC, dI)) (ci := 10) (v := .ref lev) (C := RX10) (T := TX10) (N := 40) hx hb hts hiX10 hown hK hP 0 rfl rfl 1 (by decide) (hts (.fieldLink RX10 7 "WatchedProgramsModel" "level" "[I") (by decide +kernel)) (fun _ h9 => h9) rfl dX10_tells_14 ?_
  refine lv_iload hx hb dX10_tells_17 (lv_at hl 0 rfl) ?_
  refine va_iald hx hb hK hP 1 0 rfl rfl (by unfold vp_in; decide) dX10_tells_19 ?_
  refine zi (y := 0) (by rfl) ?_
  refine lv_iload_n hx hb dX10_tells_20 rfl (lv_at hl 3 rfl) ?_
  refine vp_callSi (va_Run.run (va_runS (As := [.int 0, .int w]) (rest := []) ⟨hx, hb, hml, hown, hts⟩ (m_isWithin l dC dI cI cJ cS  w ) (va_cwS 2 hts gX10_tells_X10_isWithin rfl rfl rfl (by decide +kernel) ⟨Nat.le_of_ble_eq_true rfl, Nat.le_of_ble_eq_true rfl⟩) (preR (hP.sub (ws' := []) [] rfl) hE) rfl rfl hl.1 rfl (lv_room (Nat.le_of_ble_eq_true rfl)) dX10_tells_21 ⟨by decide +kernel, by decide +kernel⟩)) (fun r_2 hr_3 => ?_)
  obtain rfl := hr_3
  refine lv_iload_n hx hb dX10_tells_24 rfl (lv_at hl 4 rfl) ?_
  refine lv_icmp_ne (tgt := 45) hx hb dX10_tells_25 (by decide) (fun _ => ?_) (fun c_4 => absurd c_4 (by decide))
  refine lv_iinc (v := 1) (lv' := [(5, .int 1), (4, .int n), (0, .ref mm), (1, .int w), (2, .int 0), (3, .int n)]) hx hb dX10_tells_45 hl (k := 0) rfl (by decide) (by decide) rfl (fun ls hl => ?_)
  refine lv_goto (tgt := 6) hx hb dX10_tells_48 (by decide) ?_
  refine lv_iload hx hb dX10_tells_6 (lv_at hl 0 rfl) ?_
  refine lv_bipush (v := 6) hx hb dX10_tells_8 (by decide) ?_
  refine lv_icmp_ge (tgt := 51) hx hb dX10_tells_10 (by decide) (fun c_5 => absurd c_5 (by decide)) (fun _ => ?_)
  refine lv_aload_n hx hb dX10_tells_13 rfl (lv_at hl 2 rfl) ?_
  refine va_get (D := (dC, dI)) (ci := 10) (v := .ref lev) (C := RX10) (T := TX10) (N := 40) hx hb hts hiX10 hown hK hP 0 rfl rfl 1 (by decide) (hts (.fieldLink RX10 7 "WatchedProgramsModel" "level" "[I") (by decide +kernel)) (fun _ h9 => h9) rfl dX10_tells_14 ?_
  refine lv_iload hx hb dX10_tells_17 (lv_at hl 0 rfl) ?_
  refine va_iald hx hb hK hP 1 0 rfl rfl (by unfold vp_in; decide) dX10_tells_19 ?_
  refine zi (y := 0) (by rfl) ?_
  refine lv_iload_n hx hb dX10_tells_20 rfl (lv_at hl 3 rfl) ?_
  refine vp_callSi (va_Run.run (va_runS (As := [.int 0, .int w]) (rest := []) ⟨hx, hb, hml, hown, hts⟩ (m_isWithin l dC dI cI cJ cS  w ) (va_cwS 2 hts gX10_tells_X10_isWithin rfl rfl rfl (by decide +kernel) ⟨Nat.le_of_ble_eq_true rfl, Nat.le_of_ble_eq_true rfl⟩) (preR (hP.sub (ws' := []) [] rfl) hE) rfl rfl hl.1 rfl (lv_room (Nat.le_of_ble_eq_true rfl)) dX10_tells_21 ⟨by decide +kernel, by decide +kernel⟩)) (fun r_6 hr_7 => ?_)
  obtain rfl := hr_7
  refine lv_iload_n hx hb dX10_tells_24 rfl (lv_at hl 4 rfl) ?_
  refine lv_icmp_ne (tgt := 45) hx hb dX10_tells_25 (by decide) (fun _ => ?_) (fun c_8 => absurd c_8 (by decide))
  refine lv_iinc (v := 2) (lv' := [(5, .int 2), (4, .int n), (0, .ref mm), (1, .int w), (2, .int 0), (3, .int n)]) hx hb dX10_tells_45 hl (k := 0) rfl (by decide) (by decide) rfl (fun ls hl => ?_)
  refine lv_goto (tgt := 6) hx hb dX10_tells_48 (by decide) ?_
  refine lv_iload hx hb dX10_tells_6 (lv_at hl 0 rfl) ?_
  refine lv_bipush (v := 6) hx hb dX10_tells_8 (by decide) ?_
  refine lv_icmp_ge (tgt := 51) hx hb dX10_tells_10 (by decide) (fun c_9 => absurd c_9 (by decide)) (fun _ => ?_)
  refine lv_aload_n hx hb dX10_tells_13 rfl (lv_at hl 2 rfl) ?_
  refine va_get (D := (dC, dI)) (ci := 10) (v := .ref lev) (C := RX10) (T := TX10) (N := 40) hx hb hts hiX10 hown hK hP 0 rfl rfl 1 (by decide) (hts (.fieldLink RX10 7 "WatchedProgramsModel" "level" "[I") (by decide +kernel)) (fun _ h9 => h9) rfl dX10_tells_14 ?_
  refine lv_iload hx hb dX10_tells_17 (lv_at hl 0 rfl) ?_
  refine va_iald hx hb hK hP 1 0 rfl rfl (by unfold vp_in; decide) dX10_tells_19 ?_
  refine zi (y := 0) (by rfl) ?_
  refine lv_iload_n hx hb dX10_tells_20 rfl (lv_at hl 3 rfl) ?_
  refine vp_callSi (va_Run.run (va_runS (As := [.int 0, .int w]) (rest := []) ⟨hx, hb, hml, hown, hts⟩ (m_isWithin l dC dI cI cJ cS  w ) (va_cwS 2 hts gX10_tells_X10_isWithin rfl rfl rfl (by decide +kernel) ⟨Nat.le_of_ble_eq_true rfl, Nat.le_of_ble_eq_true rfl⟩) (preR (hP.sub (ws' := []) [] rfl) hE) rfl rfl hl.1 rfl (lv_room (Nat.le_of_ble_eq_true rfl)) dX10_tells_21 ⟨by decide +kernel, by decide +kernel⟩)) (fun r_10 hr_11 => ?_)
  obtain rfl := hr_11
  refine lv_iload_n hx hb dX10_tells_24 rfl (lv_at hl 4 rfl) ?_
  refine lv_icmp_ne (tgt := 45) hx hb dX10_tells_25 (by decide) (fun _ => ?_) (fun c_12 => absurd c_12 (by decide))
  refine lv_iinc (v := 3) (lv' := [(5, .int 3), (4, .int n), (0, .ref mm), (1, .int w), (2, .int 0), (3, .int n)]) hx hb dX10_tells_45 hl (k := 0) rfl (by decide) (by decide) rfl (fun ls hl => ?_)
  refine lv_goto (tgt := 6) hx hb dX10_tells_48 (by decide) ?_
  refine lv_iload hx hb dX10_tells_6 (lv_at hl 0 rfl) ?_
  refine lv_bipush (v := 6) hx hb dX10_tells_8 (by decide) ?_
  refine lv_icmp_ge (tgt := 51) hx hb dX10_tells_10 (by decide) (fun c_13 => absurd c_13 (by decide)) (fun _ => ?_)
  refine lv_aload_n hx hb dX10_tells_13 rfl (lv_at hl 2 rfl) ?_
  refine va_get (D := (dC, dI)) (ci := 10) (v := .ref lev) (C := RX10) (T := TX10) (N := 40) hx hb hts hiX10 hown hK hP 0 rfl rfl 1 (by decide) (hts (.fieldLink RX10 7 "WatchedProgramsModel" "level" "[I") (by decide +kernel)) (fun _ h9 => h9) rfl dX10_tells_14 ?_
  refine lv_iload hx hb dX10_tells_17 (lv_at hl 0 rfl) ?_
  refine va_iald hx hb hK hP 1 0 rfl rfl (by unfold vp_in; decide) dX10_tells_19 ?_
  refine zi (y := 0) (by rfl) ?_
  refine lv_iload_n hx hb dX10_tells_20 rfl (lv_at hl 3 rfl) ?_
  refine vp_callSi (va_Run.run (va_runS (As := [.int 0, .int w]) (rest := []) ⟨hx, hb, hml, hown, hts⟩ (m_isWithin l dC dI cI cJ cS  w ) (va_cwS 2 hts gX10_tells_X10_isWithin rfl rfl rfl (by decide +kernel) ⟨Nat.le_of_ble_eq_true rfl, Nat.le_of_ble_eq_true rfl⟩) (preR (hP.sub (ws' := []) [] rfl) hE) rfl rfl hl.1 rfl (lv_room (Nat.le_of_ble_eq_true rfl)) dX10_tells_21 ⟨by decide +kernel, by decide +kernel⟩)) (fun r_14 hr_15 => ?_)
  obtain rfl := hr_15
  refine lv_iload_n hx hb dX10_tells_24 rfl (lv_at hl 4 rfl) ?_
  refine lv_icmp_ne (tgt := 45) hx hb dX10_tells_25 (by decide) (fun _ => ?_) (fun c_16 => absurd c_16 (by decide))
  refine lv_iinc (v := 4) (lv' := [(5, .int 4), (4, .int n), (0, .ref mm), (1, .int w), (2, .int 0), (3, .int n)]) hx hb dX10_tells_45 hl (k := 0) rfl (by decide) (by decide) rfl (fun ls hl => ?_)
  refine lv_goto (tgt := 6) hx hb dX10_tells_48 (by decide) ?_
  refine lv_iload hx hb dX10_tells_6 (lv_at hl 0 rfl) ?_
  refine lv_bipush (v := 6) hx hb dX10_tells_8 (by decide) ?_
  refine lv_icmp_ge (tgt := 51) hx hb dX10_tells_10 (by decide) (fun c_17 => absurd c_17 (by decide)) (fun _ => ?_)
  refine lv_aload_n hx hb dX10_tells_13 rfl (lv_at hl 2 rfl) ?_
  refine va_get (D := (dC, dI)) (ci := 10) (v := .ref lev) (C := RX10) (T := TX10) (N := 40) hx hb hts hiX10 hown hK hP 0 rfl rfl 1 (by decide) (hts (.fieldLink RX10 7 "WatchedProgramsModel" "level" "[I") (by decide +kernel)) (fun _ h9 => h9) rfl dX10_tells_14 ?_
  refine lv_iload hx hb dX10_tells_17 (lv_at hl 0 rfl) ?_
  refine va_iald hx hb hK hP 1 0 rfl rfl (by unfold vp_in; decide) dX10_tells_19 ?_
  refine zi (y := 0) (by rfl) ?_
  refine lv_iload_n hx hb dX10_tells_20 rfl (lv_at hl 3 rfl) ?_
  refine vp_callSi (va_Run.run (va_runS (As := [.int 0, .int w]) (rest := []) ⟨hx, hb, hml, hown, hts⟩ (m_isWithin l dC dI cI cJ cS  w ) (va_cwS 2 hts gX10_tells_X10_isWithin rfl rfl rfl (by decide +kernel) ⟨Nat.le_of_ble_eq_true rfl, Nat.le_of_ble_eq_true rfl⟩) (preR (hP.sub (ws' := []) [] rfl) hE) rfl rfl hl.1 rfl (lv_room (Nat.le_of_ble_eq_true rfl)) dX10_tells_21 ⟨by decide +kernel, by decide +kernel⟩)) (fun r_18 hr_19 => ?_)
  obtain rfl := hr_19
  refine lv_iload_n hx hb dX10_tells_24 rfl (lv_at hl 4 rfl) ?_
  refine lv_icmp_ne (tgt := 45) hx hb dX10_tells_25 (by decide) (fun _ => ?_) (fun c_20 => absurd c_20 (by decide))
  refine lv_iinc (v := 5) (lv' := [(5, .int 5), (4, .int n), (0, .ref mm), (1, .int w), (2, .int 0), (3, .int n)]) hx hb dX10_tells_45 hl (k := 0) rfl (by decide) (by decide) rfl (fun ls hl => ?_)
  refine lv_goto (tgt := 6) hx hb dX10_tells_48 (by decide) ?_
  refine lv_iload hx hb dX10_tells_6 (lv_at hl 0 rfl) ?_
  refine lv_bipush (v := 6) hx hb dX10_tells_8 (by decide) ?_
  refine lv_icmp_ge (tgt := 51) hx hb dX10_tells_10 (by decide) (fun c_21 => absurd c_21 (by decide)) (fun _ => ?_)
  refine lv_aload_n hx hb dX10_tells_13 rfl (lv_at hl 2 rfl) ?_
  refine va_get (D := (dC, dI)) (ci := 10) (v := .ref lev) (C := RX10) (T := TX10) (N := 40) hx hb hts hiX10 hown hK hP 0 rfl rfl 1 (by decide) (hts (.fieldLink RX10 7 "WatchedProgramsModel" "level" "[I") (by decide +kernel)) (fun _ h9 => h9) rfl dX10_tells_14 ?_
  refine lv_iload hx hb dX10_tells_17 (lv_at hl 0 rfl) ?_
  refine va_iald hx hb hK hP 1 0 rfl rfl (by unfold vp_in; decide) dX10_tells_19 ?_
  refine zi (y := 0) (by rfl) ?_
  refine lv_iload_n hx hb dX10_tells_20 rfl (lv_at hl 3 rfl) ?_
  refine vp_callSi (va_Run.run (va_runS (As := [.int 0, .int w]) (rest := []) ⟨hx, hb, hml, hown, hts⟩ (m_isWithin l dC dI cI cJ cS  w ) (va_cwS 2 hts gX10_tells_X10_isWithin rfl rfl rfl (by decide +kernel) ⟨Nat.le_of_ble_eq_true rfl, Nat.le_of_ble_eq_true rfl⟩) (preR (hP.sub (ws' := []) [] rfl) hE) rfl rfl hl.1 rfl (lv_room (Nat.le_of_ble_eq_true rfl)) dX10_tells_21 ⟨by decide +kernel, by decide +kernel⟩)) (fun r_22 hr_23 => ?_)
  obtain rfl := hr_23
  refine lv_iload_n hx hb dX10_tells_24 rfl (lv_at hl 4 rfl) ?_
  refine lv_icmp_ne (tgt := 45) hx hb dX10_tells_25 (by decide) (fun _ => ?_) (fun c_24 => absurd c_24 (by decide))
  refine lv_iinc (v := 6) (lv' := [(5, .int 6), (4, .int n), (0, .ref mm), (1, .int w), (2, .int 0), (3, .int n)]) hx hb dX10_tells_45 hl (k := 0) rfl (by decide) (by decide) rfl (fun ls hl => ?_)
  refine lv_goto (tgt := 6) hx hb dX10_tells_48 (by decide) ?_
  refine lv_iload hx hb dX10_tells_6 (lv_at hl 0 rfl) ?_
  refine lv_bipush (v := 6) hx hb dX10_tells_8 (by decide) ?_
  refine lv_icmp_ge (tgt := 51) hx hb dX10_tells_10 (by decide) (fun _ => ?_) (fun c_25 => absurd (by decide) c_25)
  exact W.vret hx hb hr (fun tt_ ht hW => ⟨rfl, trivial, ht⟩) (fun _ h => by cases h) dX10_tells_51
set_option maxHeartbeats 1000000 in
set_option maxRecDepth 100000 in
theorem m_runs (l : Launch) (dC : Nat → ClassId) (dI : Nat → Nat → Nat) (cI cJ cS : ClassId) (sz : Nat) (mm : Nat) (lev : Nat) (txt : Nat) (stm : Nat) (sm : Nat) (sgn : Nat) (vls : Nat) (opn : Nat) (opp : Nat) (bke : Nat) (bko : Nat) (bkl : Nat) (cel : Nat) (tap : Nat) (tpl : Nat) (rtp : Nat) (rlv : Nat) (sen : Nat) (hpo : Nat) (hpm : Nat) (bgn : Nat) (chn : Nat) (sgt : Nat) (sc : Int32) (hp : Int32) (rsd : Nat)  : Met l yX10_runs wsX10_runs ({ frames := 0, cells := 0, slots := 0, locals := 0 }) (va_Pc [.ref mm] (PE dC dI cI cJ cS [(mm, .inr (10, [.int 0, .ref lev, .ref txt, .int 0, .int 0, .int 0, .int 0, .int 0, .int 0, .int 0, .int 0, .ref stm, .ref sm, .int 0, .ref sgn, .ref vls, .ref opn, .ref opp, .ref bke, .ref bko, .ref bkl, .ref cel, .int 0, .int 0, .ref tap, .ref tpl, .int 0, .int 0, .ref rtp, .ref rlv, .int 0, .ref sen, .ref hpo, .ref hpm, .ref bgn, .ref chn, .ref sgt, .int sc, .int hp, .ref rsd]))] sz)) (va_Qv (fun (_ : Unit) => True) (BE dC dI (va_A [(mm, .inr (10, [.int 0, .ref lev, .ref txt, .int 0, .int 0, .int 0, .int 0, .int 0, .int 0, .int 0, .int 0, .ref stm, .ref sm, .int 0, .ref sgn, .ref vls, .ref opn, .ref opp, .ref bke, .ref bko, .ref bkl, .ref cel, .int 0, .int 0, .ref tap, .ref tpl, .int 0, .int 0, .ref rtp, .ref rlv, .int 0, .ref sen, .ref hpo, .ref hpm, .ref bgn, .ref chn, .ref sgt, .int sc, .int hp, .ref rsd]))] sz) (fun (_ : Unit) => [(mm, .inr (10, [.int 0, .ref lev, .ref txt, .int 0, .int 0, .int 0, .int 0, .int 0, .int 0, .int 0, .int 0, .ref stm, .ref sm, .int 0, .ref sgn, .ref vls, .ref opn, .ref opp, .ref bke, .ref bko, .ref bkl, .ref cel, .int 0, .int 0, .ref tap, .ref tpl, .int 0, .int 0, .ref rtp, .ref rlv, .int 0, .ref sen, .ref hpo, .ref hpm, .ref bgn, .ref chn, .ref sgt, .int sc, .int hp, .ref rsd]))])) (va_A [(mm, .inr (10, [.int 0, .ref lev, .ref txt, .int 0, .int 0, .int 0, .int 0, .int 0, .int 0, .int 0, .int 0, .ref stm, .ref sm, .int 0, .ref sgn, .ref vls, .ref opn, .ref opp, .ref bke, .ref bko, .ref bkl, .ref cel, .int 0, .int 0, .ref tap, .ref tpl, .int 0, .int 0, .ref rtp, .ref rlv, .int 0, .ref sen, .ref hpo, .ref hpm, .ref bgn, .ref chn, .ref sgt, .int sc, .int hp, .ref rsd]))] sz)) 0 0 (va_A [(mm, .inr (10, [.int 0, .ref lev, .ref txt, .int 0, .int 0, .int 0, .int 0, .int 0, .int 0, .int 0, .int 0, .ref stm, .ref sm, .int 0, .ref sgn, .ref vls, .ref opn, .ref opp, .ref bke, .ref bko, .ref bkl, .ref cel, .int 0, .int 0, .ref tap, .ref tpl, .int 0, .int 0, .ref rtp, .ref rlv, .int 0, .ref sen, .ref hpo, .ref hpm, .ref bgn, .ref chn, .ref sgt, .int sc, .int hp, .ref rsd]))] sz) := by
  refine Met.ofW (cc := cX10_runs) (maxL := 7) (ret := none) (by decide) rfl ?_
  intro pp_ ee_ ss_ mm_ args below meth cc_ s₁ B hml hv
  obtain ⟨rfl, hsz, hP, hE, hD0⟩ := hv
  have hx := B.exec
  have hb := B.bytes
  have hr := B.returns
  have hts := atoms_spec (ws := wsX10_runs) B.pre
  have hown : ss_.vm.findClass RX10 = some mm_.cls := findClass_of_methodNamed B.named
  have hlocks := B.notSynchronized
  have hK := hE.1
  have hiX10 : ∀ w ∈ wsX100, w ∈ wsX10_runs := by decide +kernel
  subst hsz
  have hD := hD0.self (sz := ss_.heap.size)
  generalize hAe : va_A [(mm, .inr (10, [.int 0, .ref lev, .ref txt, .int 0, .int 0, .int 0, .int 0, .int 0, .int 0, .int 0, .int 0, .ref stm, .ref sm, .int 0, .ref sgn, .ref vls, .ref opn, .ref opp, .ref bke, .ref bko, .ref bkl, .ref cel, .int 0, .int 0, .ref tap, .ref tpl, .int 0, .int 0, .ref rtp, .ref rlv, .int 0, .ref sen, .ref hpo, .ref hpm, .ref bgn, .ref chn, .ref sgt, .int sc, .int hp, .ref rsd]))] ss_.heap.size = A at hD ⊢
  have hA : ∀ q : Nat, ss_.heap.size ≤ q → A q := fun q h => by rw [← hAe]; exact Or.inr h
  have hS : va_S A ss_.heap ss_.heap [] := va_S.rf
  have hP : va_P (dC, dI) vwCl [(mm, .inr (10, [.int 0, .ref lev, .ref txt, .int 0, .int 0, .int 0, .int 0, .int 0, .int 0, .int 0, .int 0, .ref stm, .ref sm, .int 0, .ref sgn, .ref vls, .ref opn, .ref opp, .ref bke, .ref bko, .ref bkl, .ref cel, .int 0, .int 0, .ref tap, .ref tpl, .int 0, .int 0, .ref rtp, .ref rlv, .int 0, .ref sen, .ref hpo, .ref hpm, .ref bgn, .ref chn, .ref sgt, .int sc, .int hp, .ref rsd]))] ss_.heap := hP
  have hl := lv_entry ([.ref mm]) (n := 7) (Nat.le_of_ble_eq_true rfl)
  rw [lg_entry_eq]
  generalize (lg_sl ([.ref mm]) ++ List.replicate (7 - (lg_sl ([.ref mm])).length) Slot.unset).toArray = ls at hl ⊢
  have hl : lv_has ls 7 [(0, .ref mm)] := hl
  refine lv_aload_n hx hb dX10_runs_0 rfl (lv_at hl 0 rfl) ?_
  refine lv_iconst (v := 0) hx hb dX10_runs_1 (by decide) ?_
  refine va_put (D := (dC, dI)) (ci := 10) (v := .int 0) (ty := .int) (C := RX10) (T := TX10) (N := 40) hx hb hts hiX10 tyX10 tyX10_ok nmX10 hown hK hP hD hS 0 rfl rfl 22 (by decide) (hts (.fieldLink RX10 171 "WatchedProgramsModel" "steps" "I") (by decide +kernel)) (fun _ h9 => h9) rfl (by decide +kernel) rfl rfl (Nat.le_of_ble_eq_true rfl) dX10_runs_2 (fun H locs hP hD hS => ?_)
  have hP : va_P (dC, dI) vwCl [(mm, .inr (10, [.int 0, .ref lev, .ref txt, .int 0, .int 0, .int 0, .int 0, .int 0, .int 0, .int 0, .int 0, .ref stm, .ref sm, .int 0, .ref sgn, .ref vls, .ref opn, .ref opp, .ref bke, .ref bko, .ref bkl, .ref cel, .int 0, .int 0, .ref tap, .ref tpl, .int 0, .int 0, .ref rtp, .ref rlv, .int 0, .ref sen, .ref hpo, .ref hpm, .ref bgn, .ref chn, .ref sgt, .int sc, .int hp, .ref rsd]))] H := hP
  have hD : va_D A [(mm, .inr (10, [.int 0, .ref lev, .ref txt, .int 0, .int 0, .int 0, .int 0, .int 0, .int 0, .int 0, .int 0, .ref stm, .ref sm, .int 0, .ref sgn, .ref vls, .ref opn, .ref opp, .ref bke, .ref bko, .ref bkl, .ref cel, .int 0, .int 0, .ref tap, .ref tpl, .int 0, .int 0, .ref rtp, .ref rlv, .int 0, .ref sen, .ref hpo, .ref hpm, .ref bgn, .ref chn, .ref sgt, .int sc, .int hp, .ref rsd]))] := hD
  refine lv_aload_n hx hb dX10_runs_5 rfl (lv_at hl 0 rfl) ?_
  refine lv_iconst (v := 0) hx hb dX10_runs_6 (by decide) ?_
  refine va_put (D := (dC, dI)) (ci := 10) (v := .int 0) (ty := .int) (C := RX10) (T := TX10) (N := 40) hx hb hts hiX10 tyX10 tyX10_ok nmX10 hown hK hP hD hS 0 rfl rfl 23 (by decide) (hts (.fieldLink RX10 174 "WatchedProgramsModel" "came" "I") (by decide +kernel)) (fun _ h9 => h9) rfl (by decide +kernel) rfl rfl (Nat.le_of_ble_eq_true rfl) dX10_runs_7 (fun H locs hP hD hS => ?_)
  have hP : va_P (dC, dI) vwCl [(mm, .inr (10, [.int 0, .ref lev, .ref txt, .int 0, .int 0, .int 0, .int 0, .int 0, .int 0, .int 0, .int 0, .ref stm, .ref sm, .int 0, .ref sgn, .ref vls, .ref opn, .ref opp, .ref bke, .ref bko, .ref bkl, .ref cel, .int 0, .int 0, .ref tap, .ref tpl, .int 0, .int 0, .ref rtp, .ref rlv, .int 0, .ref sen, .ref hpo, .ref hpm, .ref bgn, .ref chn, .ref sgt, .int sc, .int hp, .ref rsd]))] H := hP
  have hD : va_D A [(mm, .inr (10, [.int 0, .ref lev, .ref txt, .int 0, .int 0, .int 0, .int 0, .int 0, .int 0, .int 0, .int 0, .ref stm, .ref sm, .int 0, .ref sgn, .ref vls, .ref opn, .ref opp, .ref bke, .ref bko, .ref bkl, .ref cel, .int 0, .int 0, .ref tap, .ref tpl, .int 0, .int 0, .ref rtp, .ref rlv, .int 0, .ref sen, .ref hpo, .ref hpm, .ref bgn, .ref chn, .ref sgt, .int sc, .int hp, .ref rsd]))] := hD
  refine lv_iconst (v := 0) hx hb dX10_runs_10 (by decide) ?_
  refine lv_istore_n (lv' := [(1, .int 0), (0, .ref mm)]) hx hb dX10_runs_11 rfl hl (by decide) rfl (fun ls hl => ?_)
  refine lv_iconst (v := 0) hx hb dX10_runs_12 (by decide) ?_
  refine lv_istore_n (lv' := [(2, .int 0), (1, .int 0), (0, .ref mm)]) hx hb dX10_runs_13 rfl hl (by decide) rfl (fun ls hl => ?_)
  refine lv_iconst (v := 1) hx hb dX10_runs_14 (by decide) ?_
  refine lv_istore_n (lv' := [(3, .int 1), (2, .int 0), (1, .int 0), (0, .ref mm)]) hx hb dX10_runs_15 rfl hl (by decide) rfl (fun ls hl => ?_)
  refine lv_iload_n hx hb dX10_runs_16 rfl (lv_at hl 0 rfl) ?_
  refine lv_if_eq (tgt := 454) hx hb dX10_runs_17 (by decide) (fun c_1 => absurd c_1 (by decide)) (fun _ => ?_)
  refine lv_iload_n hx hb dX10_runs_20 rfl (lv_at hl 2 rfl) ?_
  refine lv_if_le (tgt := 134) hx hb dX10_runs_21 (by decide) (fun _ => ?_) (fun c_2 => absurd (by decide) c_2)
  refine lv_iload_n hx hb dX10_runs_134 rfl (lv_at hl 1 rfl) ?_
  refine lv_aload_n hx hb dX10_runs_135 rfl (lv_at hl 3 rfl) ?_
  refine va_get (D := (dC, dI)) (ci := 10) (v := .int 0) (C := RX10) (T := TX10) (N := 40) hx hb hts hiX10 hown hK hP 0 rfl rfl 9 (by decide) (hts (.fieldLink RX10 168 "WatchedProgramsModel" "many" "I") (by decide +kernel)) (fun _ h9 => h9) rfl dX10_runs_136 ?_
  refine lv_icmp_ge (tgt := 156) hx hb dX10_runs_139 (by decide) (fun _ => ?_) (fun c_3 => absurd (by decide) c_3)
  refine lv_iconst (v := 0) hx hb dX10_runs_156 (by decide) ?_
  refine lv_istore_n (lv' := [(3, .int 0), (2, .int 0), (1, .int 0), (0, .ref mm)]) hx hb dX10_runs_157 rfl hl (by decide) rfl (fun ls hl => ?_)
  refine lv_iload_n hx hb dX10_runs_158 rfl (lv_at hl 0 rfl) ?_
  refine lv_if_eq (tgt := 16) hx hb dX10_runs_159 (by decide) (fun _ => ?_) (fun c_4 => absurd (by decide) c_4)
  refine lv_iload_n hx hb dX10_runs_16 rfl (lv_at hl 0 rfl) ?_
  refine lv_if_eq (tgt := 454) hx hb dX10_runs_17 (by decide) (fun _ => ?_) (fun c_5 => absurd (by decide) c_5)
  have hP9 := hP.sub (ws' := [(mm, .inr (10, [.int 0, .ref lev, .ref txt, .int 0, .int 0, .int 0, .int 0, .int 0, .int 0, .int 0, .int 0, .ref stm, .ref sm, .int 0, .ref sgn, .ref vls, .ref opn, .ref opp, .ref bke, .ref bko, .ref bkl, .ref cel, .int 0, .int 0, .ref tap, .ref tpl, .int 0, .int 0, .ref rtp, .ref rlv, .int 0, .ref sen, .ref hpo, .ref hpm, .ref bgn, .ref chn, .ref sgt, .int sc, .int hp, .ref rsd]))]) [0] rfl
  have hD9 := hD.sub (ws' := [(mm, .inr (10, [.int 0, .ref lev, .ref txt, .int 0, .int 0, .int 0, .int 0, .int 0, .int 0, .int 0, .int 0, .ref stm, .ref sm, .int 0, .ref sgn, .ref vls, .ref opn, .ref opp, .ref bke, .ref bko, .ref bkl, .ref cel, .int 0, .int 0, .ref tap, .ref tpl, .int 0, .int 0, .ref rtp, .ref rlv, .int 0, .ref sen, .ref hpo, .ref hpm, .ref bgn, .ref chn, .ref sgt, .int sc, .int hp, .ref rsd]))]) [0] (by decide) rfl
  exact W.vret hx hb hr (fun tt_ ht hW => ⟨⟨(), rfl, trivial, by rw [ht]; exact hP9, hD9⟩, hS.F ht⟩) hS.2.2 dX10_runs_454
set_option maxHeartbeats 1000000 in
set_option maxRecDepth 100000 in
theorem m_sees0 (l : Launch) (dC : Nat → ClassId) (dI : Nat → Nat → Nat) (cI cJ cS : ClassId) (sz : Nat) (mm : Nat) (w : Int32) (lev : Nat) (txt : Nat) (stm : Nat) (sm : Nat) (sgn : Nat) (vls : Nat) (opn : Nat) (opp : Nat) (bke : Nat) (bko : Nat) (bkl : Nat) (cel : Nat) (tap : Nat) (tpl : Nat) (rtp : Nat) (rlv : Nat) (sen : Nat) (hpo : Nat) (hpm : Nat) (bgn : Nat) (chn : Nat) (sgt : Nat) (sc : Int32) (hp : Int32) (rsd : Nat) (f : Nat → Int32) (g : Nat → Int64)  : Met l yX10_sees wsX10_sees ({ frames := 1, cells := 0, slots := 0, locals := 21 }) (va_Pc [.ref mm, .int w, .int 0] (PE dC dI cI cJ cS [(mm, .inr (10, [.int 0, .ref lev, .ref txt, .int 0, .int 0, .int 0, .int 0, .int 0, .int 0, .int 0, .int 0, .ref stm, .ref sm, .int 0, .ref sgn, .ref vls, .ref opn, .ref opp, .ref bke, .ref bko, .ref bkl, .ref cel, .int 0, .int 0, .ref tap, .ref tpl, .int 0, .int 0, .ref rtp, .ref rlv, .int 0, .ref sen, .ref hpo, .ref hpm, .ref bgn, .ref chn, .ref sgt, .int sc, .int hp, .ref rsd])), (lev, aI cI 6 (fun _ => 0)), (cel, aI cI 6 f), (sgt, aJ cJ 6 g)] sz)) (va_Qv (fun (gs : Nat → Int64) => True) (BE dC dI (va_A [(mm, .inr (10, [.int 0, .ref lev, .ref txt, .int 0, .int 0, .int 0, .int 0, .int 0, .int 0, .int 0, .int 0, .ref stm, .ref sm, .int 0, .ref sgn, .ref vls, .ref opn, .ref opp, .ref bke, .ref bko, .ref bkl, .ref cel, .int 0, .int 0, .ref tap, .ref tpl, .int 0, .int 0, .ref rtp, .ref rlv, .int 0, .ref sen, .ref hpo, .ref hpm, .ref bgn, .ref chn, .ref sgt, .int sc, .int hp, .ref rsd])), (lev, aI cI 6 (fun _ => 0)), (cel, aI cI 6 f), (sgt, aJ cJ 6 g)] sz) (fun (gs : Nat → Int64) => [(mm, .inr (10, [.int 0, .ref lev, .ref txt, .int 0, .int 0, .int 0, .int 0, .int 0, .int 0, .int 0, .int 0, .ref stm, .ref sm, .int 0, .ref sgn, .ref vls, .ref opn, .ref opp, .ref bke, .ref bko, .ref bkl, .ref cel, .int 0, .int 0, .ref tap, .ref tpl, .int 0, .int 0, .ref rtp, .ref rlv, .int 0, .ref sen, .ref hpo, .ref hpm, .ref bgn, .ref chn, .ref sgt, .int sc, .int hp, .ref rsd])), (lev, aI cI 6 (fun _ => 0)), (cel, aI cI 6 f), (sgt, aJ cJ 6 gs)])) (va_A [(mm, .inr (10, [.int 0, .ref lev, .ref txt, .int 0, .int 0, .int 0, .int 0, .int 0, .int 0, .int 0, .int 0, .ref stm, .ref sm, .int 0, .ref sgn, .ref vls, .ref opn, .ref opp, .ref bke, .ref bko, .ref bkl, .ref cel, .int 0, .int 0, .ref tap, .ref tpl, .int 0, .int 0, .ref rtp, .ref rlv, .int 0, .ref sen, .ref hpo, .ref hpm, .ref bgn, .ref chn, .ref sgt, .int sc, .int hp, .ref rsd])), (lev, aI cI 6 (fun _ => 0)), (cel, aI cI 6 f), (sgt, aJ cJ 6 g)] sz)) 0 0 (va_A [(mm, .inr (10, [.int 0, .ref lev, .ref txt, .int 0, .int 0, .int 0, .int 0, .int 0, .int 0, .int 0, .int 0, .ref stm, .ref sm, .int 0, .ref sgn, .ref vls, .ref opn, .ref opp, .ref bke, .ref bko, .ref bkl, .ref cel, .int 0, .int 0, .ref tap, .ref tpl, .int 0, .int 0, .ref rtp, .ref rlv, .int 0, .ref sen, .ref hpo, .ref hpm, .ref bgn, .ref chn, .ref sgt, .int sc, .int hp, .ref rsd])), (lev, aI cI 6 (fun _ => 0)), (cel, aI cI 6 f), (sgt, aJ cJ 6 g)] sz) := by
  refine Met.ofW (cc := cX10_sees) (maxL := 12) (ret := none) (by decide) rfl ?_
  intro pp_ ee_ ss_ mm_ args below meth cc_ s₁ B hml hv
  obtain ⟨rfl, hsz, hP, hE, hD0⟩ := hv
  have hx := B.exec
  have hb := B.bytes
  have hr := B.returns
  have hts := atoms_spec (ws := wsX10_sees) B.pre
  have hown : ss_.vm.findClass RX10 = some mm_.cls := findClass_of_methodNamed B.named
  have hlocks := B.notSynchronized
  have hK := hE.1
  have hiX10 : ∀ w ∈ wsX100, w ∈ wsX10_sees := by decide +kernel
  subst hsz
  have hD := hD0.self (sz := ss_.heap.size)
  generalize hAe : va_A [(mm, .inr (10, [.int 0, .ref lev, .ref txt, .int 0, .int 0, .int 0, .int 0, .int 0, .int 0, .int 0, .int 0, .ref stm, .ref sm, .int 0, .ref sgn, .ref vls, .ref opn, .ref opp, .ref bke, .ref bko, .ref bkl, .ref cel, .int 0, .int 0, .ref tap, .ref tpl, .int 0, .int 0, .ref rtp, .ref rlv, .int 0, .ref sen, .ref hpo, .ref hpm, .ref bgn, .ref chn, .ref sgt, .int sc, .int hp, .ref rsd])), (lev, aI cI 6 (fun _ => 0)), (cel, aI cI 6 f), (sgt, aJ cJ 6 g)] ss_.heap.size = A at hD ⊢
  have hA : ∀ q : Nat, ss_.heap.size ≤ q → A q := fun q h => by rw [← hAe]; exact Or.inr h
  have hS : va_S A ss_.heap ss_.heap [] := va_S.rf
  have hP : va_P (dC, dI) vwCl [(mm, .inr (10, [.int 0, .ref lev, .ref txt, .int 0, .int 0, .int 0, .int 0, .int 0, .int 0, .int 0, .int 0, .ref stm, .ref sm, .int 0, .ref sgn, .ref vls, .ref opn, .ref opp, .ref bke, .ref bko, .ref bkl, .ref cel, .int 0, .int 0, .ref tap, .ref tpl, .int 0, .int 0, .ref rtp, .ref rlv, .int 0, .ref sen, .ref hpo, .ref hpm, .ref bgn, .ref chn, .ref sgt, .int sc, .int hp, .ref rsd])), (lev, aI cI 6 (fun _ => 0)), (cel, aI cI 6 f), (sgt, aJ cJ 6 g)] ss_.heap := hP
  have hl := lv_entry ([.ref mm, .int w, .int 0]) (n := 12) (Nat.le_of_ble_eq_true rfl)
  rw [lg_entry_eq]
  generalize (lg_sl ([.ref mm, .int w, .int 0]) ++ List.replicate (12 - (lg_sl ([.ref mm, .int w, .int 0])).length) Slot.unset).toArray = ls at hl ⊢
  have hl : lv_has ls 12 [(0, .ref mm), (1, .int w), (2, .int 0)] := hl
  refine lv_lconst (v := 1) hx hb dX10_sees_0 (by decide) ?_
  refine lv_lstore_n (lv' := [(3, .long 1), (0, .ref mm), (1, .int w), (2, .int 0)]) hx hb dX10_sees_1 rfl hl (by decide) rfl (fun ls hl => ?_)
  refine lv_lconst (v := 1) hx hb dX10_sees_2 (by decide) ?_
  refine lv_lstore (lv' := [(5, .long 1), (3, .long 1), (0, .ref mm), (1, .int w), (2, .int 0)]) hx hb dX10_sees_3 hl (by decide) rfl (fun ls hl => ?_)
  refine lv_lconst (v := 1) hx hb dX10_sees_5 (by decide) ?_
  refine lv_lstore (lv' := [(7, .long 1), (5, .long 1), (3, .long 1), (0, .ref mm), (1, .int w), (2, .int 0)]) hx hb dX10_sees_6 hl (by decide) rfl (fun ls hl => ?_)
  refine lv_iconst (v := 0) hx hb dX10_sees_8 (by decide) ?_
  refine lv_istore (lv' := [(9, .int 0), (7, .long 1), (5, .long 1), (3, .long 1), (0, .ref mm), (1, .int w), (2, .int 0)]) hx hb dX10_sees_9 hl (by decide) rfl (fun ls hl => ?_)
  refine lv_iload hx hb dX10_sees_11 (lv_at hl 0 rfl) ?_
  refine lv_bipush (v := 6) hx hb dX10_sees_13 (by decide) ?_
  refine lv_icmp_ge (tgt := 57) hx hb dX10_sees_15 (by decide) (fun c_1 => absurd c_1 (by decide)) (fun _ => ?_)
  refine lv_aload_n hx hb dX10_sees_18 rfl (lv_at hl 4 rfl) ?_
  refine va_get (D := (dC, dI)) (ci := 10) (v := .ref lev) (C := RX10) (T := TX10) (N := 40) hx hb hts hiX10 hown hK hP 0 rfl rfl 1 (by decide) (hts (.fieldLink RX10 7 "WatchedProgramsModel" "level" "[I") (by decide +kernel)) (fun _ h9 => h9) rfl dX10_sees_19 ?_
  refine lv_iload hx hb dX10_sees_22 (lv_at hl 0 rfl) ?_
  refine va_iald hx hb hK hP 1 0 rfl rfl (by unfold vp_in; decide) dX10_sees_24 ?_
  refine zi (y := 0) (by rfl) ?_
  refine lv_iload_n hx hb dX10_sees_25 rfl (lv_at hl 5 rfl) ?_
  refine vp_callSi (va_Run.run (va_runS (As := [.int 0, .int w]) (rest := []) ⟨hx, hb, hml, hown, hts⟩ (m_isWithin l dC dI cI cJ cS  w ) (va_cwS 2 hts gX10_sees_X10_isWithin rfl rfl rfl (by decide +kernel) ⟨Nat.le_of_ble_eq_true rfl, Nat.le_of_ble_eq_true rfl⟩) (preR (hP.sub (ws' := []) [] rfl) hE) rfl rfl hl.1 rfl (lv_room (Nat.le_of_ble_eq_true rfl)) dX10_sees_26 ⟨by decide +kernel, by decide +kernel⟩)) (fun r_2 hr_3 => ?_)
  obtain rfl := hr_3
  refine lv_if_eq (tgt := 49) hx hb dX10_sees_29 (by decide) (fun c_4 => absurd c_4 (by decide)) (fun _ => ?_)
  refine lv_ldc2 (v := 4) hx hb hown (hts (.constantLong RX10 202 (4)) (by decide +kernel)) dX10_sees_32 ?_
  refine lv_lload_n hx hb dX10_sees_35 rfl (lv_at hl 3 rfl) ?_
  refine lv_lmul hx hb dX10_sees_36 ?_
  refine zl (y := 4) (by decide) ?_
  refine lv_aload_n hx hb dX10_sees_37 rfl (lv_at hl 4 rfl) ?_
  refine va_get (D := (dC, dI)) (ci := 10) (v := .ref cel) (C := RX10) (T := TX10) (N := 40) hx hb hts hiX10 hown hK hP 0 rfl rfl 21 (by decide) (hts (.fieldLink RX10 43 "WatchedProgramsModel" "cell" "[I") (by decide +kernel)) (fun _ h9 => h9) rfl dX10_sees_38 ?_
  refine lv_iload hx hb dX10_sees_41 (lv_at hl 0 rfl) ?_
  refine va_iald hx hb hK hP 2 0 rfl rfl (by unfold vp_in; decide) dX10_sees_43 ?_
  refine zi (y := (f 0)) (by rfl) ?_
  refine lv_i2l (v := ((f 0)).toInt64) hx hb dX10_sees_44 rfl ?_
  refine lv_ladd hx hb dX10_sees_45 ?_
  refine lv_goto (tgt := 50) hx hb dX10_sees_46 (by decide) ?_
  refine lv_lstore_n (lv' := [(3, .long (4 + ((f 0)).toInt64)), (9, .int 0), (7, .long 1), (5, .long 1), (0, .ref mm), (1, .int w), (2, .int 0)]) hx hb dX10_sees_50 rfl hl (by decide) rfl (fun ls hl => ?_)
  refine lv_iinc (v := 1) (lv' := [(9, .int 1), (3, .long (4 + ((f 0)).toInt64)), (7, .long 1), (5, .long 1), (0, .ref mm), (1, .int w), (2, .int 0)]) hx hb dX10_sees_51 hl (k := 1) rfl (by decide) (by decide) rfl (fun ls hl => ?_)
  refine lv_goto (tgt := 11) hx hb dX10_sees_54 (by decide) ?_
  refine lv_iload hx hb dX10_sees_11 (lv_at hl 0 rfl) ?_
  refine lv_bipush (v := 6) hx hb dX10_sees_13 (by decide) ?_
  refine lv_icmp_ge (tgt := 57) hx hb dX10_sees_15 (by decide) (fun c_5 => absurd c_5 (by decide)) (fun _ => ?_)
  refine lv_aload_n hx hb dX10_sees_18 rfl (lv_at hl 4 rfl) ?_
  refine va_get (D := (dC, dI)) (ci := 10) (v := .ref lev) (C := RX10) (T := TX10) (N := 40) hx hb hts hiX10 hown hK hP 0 rfl rfl 1 (by decide) (hts (.fieldLink RX10 7 "WatchedProgramsModel" "level" "[I") (by decide +kernel)) (fun _ h9 => h9) rfl dX10_sees_19 ?_
  refine lv_iload hx hb dX10_sees_22 (lv_at hl 0 rfl) ?_
  refine va_iald hx hb hK hP 1 0 rfl rfl (by unfold vp_in; decide) dX10_sees_24 ?_
  refine zi (y := 0) (by rfl) ?_
  refine lv_iload_n hx hb dX10_sees_25 rfl (lv_at hl 5 rfl) ?_
  refine vp_callSi (va_Run.run (va_runS (As := [.int 0, .int w]) (rest := []) ⟨hx, hb, hml, hown, hts⟩ (m_isWithin l dC dI cI cJ cS  w ) (va_cwS 2 hts gX10_sees_X10_isWithin rfl rfl rfl (by decide +kernel) ⟨Nat.le_of_ble_eq_true rfl, Nat.le_of_ble_eq_true rfl⟩) (preR (hP.sub (ws' := []) [] rfl) hE) rfl rfl hl.1 rfl (lv_room (Nat.le_of_ble_eq_true rfl)) dX10_sees_26 ⟨by decide +kernel, by decide +kernel⟩)) (fun r_6 hr_7 => ?_)
  obtain rfl := hr_7
  refine lv_if_eq (tgt := 49) hx hb dX10_sees_29 (by decide) (fun c_8 => absurd c_8 (by decide)) (fun _ => ?_)
  refine lv_ldc2 (v := 4) hx hb hown (hts (.constantLong RX10 202 (4)) (by decide +kernel)) dX10_sees_32 ?_
  refine lv_lload_n hx hb dX10_sees_35 rfl (lv_at hl 1 rfl) ?_
  refine lv_lmul hx hb dX10_sees_36 ?_
  refine lv_aload_n hx hb dX10_sees_37 rfl (lv_at hl 4 rfl) ?_
  refine va_get (D := (dC, dI)) (ci := 10) (v := .ref cel) (C := RX10) (T := TX10) (N := 40) hx hb hts hiX10 hown hK hP 0 rfl rfl 21 (by decide) (hts (.fieldLink RX10 43 "WatchedProgramsModel" "cell" "[I") (by decide +kernel)) (fun _ h9 => h9) rfl dX10_sees_38 ?_
  refine lv_iload hx hb dX10_sees_41 (lv_at hl 0 rfl) ?_
  refine va_iald hx hb hK hP 2 0 rfl rfl (by unfold vp_in; decide) dX10_sees_43 ?_
  refine zi (y := (f 1)) (by rfl) ?_
  refine lv_i2l (v := ((f 1)).toInt64) hx hb dX10_sees_44 rfl ?_
  refine lv_ladd hx hb dX10_sees_45 ?_
  refine lv_goto (tgt := 50) hx hb dX10_sees_46 (by decide) ?_
  refine lv_topl (fun z_9 ez_9 => ?_)
  refine lv_lstore_n (lv' := [(3, .long z_9), (9, .int 1), (7, .long 1), (5, .long 1), (0, .ref mm), (1, .int w), (2, .int 0)]) hx hb dX10_sees_50 rfl hl (by decide) rfl (fun ls hl => ?_)
  refine lv_iinc (v := 2) (lv' := [(9, .int 2), (3, .long z_9), (7, .long 1), (5, .long 1), (0, .ref mm), (1, .int w), (2, .int 0)]) hx hb dX10_sees_51 hl (k := 1) rfl (by decide) (by decide) rfl (fun ls hl => ?_)
  refine lv_goto (tgt := 11) hx hb dX10_sees_54 (by decide) ?_
  refine lv_iload hx hb dX10_sees_11 (lv_at hl 0 rfl) ?_
  refine lv_bipush (v := 6) hx hb dX10_sees_13 (by decide) ?_
  refine lv_icmp_ge (tgt := 57) hx hb dX10_sees_15 (by decide) (fun c_10 => absurd c_10 (by decide)) (fun _ => ?_)
  refine lv_aload_n hx hb dX10_sees_18 rfl (lv_at hl 4 rfl) ?_
  refine va_get (D := (dC, dI)) (ci := 10) (v := .ref lev) (C := RX10) (T := TX10) (N := 40) hx hb hts hiX10 hown hK hP 0 rfl rfl 1 (by decide) (hts (.fieldLink RX10 7 "WatchedProgramsModel" "level" "[I") (by decide +kernel)) (fun _ h9 => h9) rfl dX10_sees_19 ?_
  refine lv_iload hx hb dX10_sees_22 (lv_at hl 0 rfl) ?_
  refine va_iald hx hb hK hP 1 0 rfl rfl (by unfold vp_in; decide) dX10_sees_24 ?_
  refine zi (y := 0) (by rfl) ?_
  refine lv_iload_n hx hb dX10_sees_25 rfl (lv_at hl 5 rfl) ?_
  refine vp_callSi (va_Run.run (va_runS (As := [.int 0, .int w]) (rest := []) ⟨hx, hb, hml, hown, hts⟩ (m_isWithin l dC dI cI cJ cS  w ) (va_cwS 2 hts gX10_sees_X10_isWithin rfl rfl rfl (by decide +kernel) ⟨Nat.le_of_ble_eq_true rfl, Nat.le_of_ble_eq_true rfl⟩) (preR (hP.sub (ws' := []) [] rfl) hE) rfl rfl hl.1 rfl (lv_room (Nat.le_of_ble_eq_true rfl)) dX10_sees_26 ⟨by decide +kernel, by decide +kernel⟩)) (fun r_11 hr_12 => ?_)
  obtain rfl := hr_12
  refine lv_if_eq (tgt := 49) hx hb dX10_sees_29 (by decide) (fun c_13 => absurd c_13 (by decide)) (fun _ => ?_)
  refine lv_ldc2 (v := 4) hx hb hown (hts (.constantLong RX10 202 (4)) (by decide +kernel)) dX10_sees_32 ?_
  refine lv_lload_n hx hb dX10_sees_35 rfl (lv_at hl 1 rfl) ?_
  refine lv_lmul hx hb dX10_sees_36 ?_
  refine lv_aload_n hx hb dX10_sees_37 rfl (lv_at hl 4 rfl) ?_
  refine va_get (D := (dC, dI)) (ci := 10) (v := .ref cel) (C := RX10) (T := TX10) (N := 40) hx hb hts hiX10 hown hK hP 0 rfl rfl 21 (by decide) (hts (.fieldLink RX10 43 "WatchedProgramsModel" "cell" "[I") (by decide +kernel)) (fun _ h9 => h9) rfl dX10_sees_38 ?_
  refine lv_iload hx hb dX10_sees_41 (lv_at hl 0 rfl) ?_
  refine va_iald hx hb hK hP 2 0 rfl rfl (by unfold vp_in; decide) dX10_sees_43 ?_
  refine zi (y := (f 2)) (by rfl) ?_
  refine lv_i2l (v := ((f 2)).toInt64) hx hb dX10_sees_44 rfl ?_
  refine lv_ladd hx hb dX10_sees_45 ?_
  refine lv_goto (tgt := 50) hx hb dX10_sees_46 (by decide) ?_
  refine lv_lstore_n (lv' := [(3, .long ((4 * z_9) + ((f 2)).toInt64)), (9, .int 2), (7, .long 1), (5, .long 1), (0, .ref mm), (1, .int w), (2, .int 0)]) hx hb dX10_sees_50 rfl hl (by decide) rfl (fun ls hl => ?_)
  refine lv_iinc (v := 3) (lv' := [(9, .int 3), (3, .long ((4 * z_9) + ((f 2)).toInt64)), (7, .long 1), (5, .long 1), (0, .ref mm), (1, .int w), (2, .int 0)]) hx hb dX10_sees_51 hl (k := 1) rfl (by decide) (by decide) rfl (fun ls hl => ?_)
  refine lv_goto (tgt := 11) hx hb dX10_sees_54 (by decide) ?_
  refine lv_iload hx hb dX10_sees_11 (lv_at hl 0 rfl) ?_
  refine lv_bipush (v := 6) hx hb dX10_sees_13 (by decide) ?_
  refine lv_icmp_ge (tgt := 57) hx hb dX10_sees_15 (by decide) (fun c_14 => absurd c_14 (by decide)) (fun _ => ?_)
  refine lv_aload_n hx hb dX10_sees_18 rfl (lv_at hl 4 rfl) ?_
  refine va_get (D := (dC, dI)) (ci := 10) (v := .ref lev) (C := RX10) (T := TX10) (N := 40) hx hb hts hiX10 hown hK hP 0 rfl rfl 1 (by decide) (hts (.fieldLink RX10 7 "WatchedProgramsModel" "level" "[I") (by decide +kernel)) (fun _ h9 => h9) rfl dX10_sees_19 ?_
  refine lv_iload hx hb dX10_sees_22 (lv_at hl 0 rfl) ?_
  refine va_iald hx hb hK hP 1 0 rfl rfl (by unfold vp_in; decide) dX10_sees_24 ?_
  refine zi (y := 0) (by rfl) ?_
  refine lv_iload_n hx hb dX10_sees_25 rfl (lv_at hl 5 rfl) ?_
  refine vp_callSi (va_Run.run (va_runS (As := [.int 0, .int w]) (rest := []) ⟨hx, hb, hml, hown, hts⟩ (m_isWithin l dC dI cI cJ cS  w ) (va_cwS 2 hts gX10_sees_X10_isWithin rfl rfl rfl (by decide +kernel) ⟨Nat.le_of_ble_eq_true rfl, Nat.le_of_ble_eq_true rfl⟩) (preR (hP.sub (ws' := []) [] rfl) hE) rfl rfl hl.1 rfl (lv_room (Nat.le_of_ble_eq_true rfl)) dX10_sees_26 ⟨by decide +kernel, by decide +kernel⟩)) (fun r_15 hr_16 => ?_)
  obtain rfl := hr_16
  refine lv_if_eq (tgt := 49) hx hb dX10_sees_29 (by decide) (fun c_17 => absurd c_17 (by decide)) (fun _ => ?_)
  refine lv_ldc2 (v := 4) hx hb hown (hts (.constantLong RX10 202 (4)) (by decide +kernel)) dX10_sees_32 ?_
  refine lv_lload_n hx hb dX10_sees_35 rfl (lv_at hl 1 rfl) ?_
  refine lv_lmul hx hb dX10_sees_36 ?_
  refine lv_aload_n hx hb dX10_sees_37 rfl (lv_at hl 4 rfl) ?_
  refine va_get (D := (dC, dI)) (ci := 10) (v := .ref cel) (C := RX10) (T := TX10) (N := 40) hx hb hts hiX10 hown hK hP 0 rfl rfl 21 (by decide) (hts (.fieldLink RX10 43 "WatchedProgramsModel" "cell" "[I") (by decide +kernel)) (fun _ h9 => h9) rfl dX10_sees_38 ?_
  refine lv_iload hx hb dX10_sees_41 (lv_at hl 0 rfl) ?_
  refine va_iald hx hb hK hP 2 0 rfl rfl (by unfold vp_in; decide) dX10_sees_43 ?_
  refine zi (y := (f 3)) (by rfl) ?_
  refine lv_i2l (v := ((f 3)).toInt64) hx hb dX10_sees_44 rfl ?_
  refine lv_ladd hx hb dX10_sees_45 ?_
  refine lv_goto (tgt := 50) hx hb dX10_sees_46 (by decide) ?_
  refine lv_topl (fun z_18 ez_18 => ?_)
  refine lv_lstore_n (lv' := [(3, .long z_18), (9, .int 3), (7, .long 1), (5, .long 1), (0, .ref mm), (1, .int w), (2, .int 0)]) hx hb dX10_sees_50 rfl hl (by decide) rfl (fun ls hl => ?_)
  refine lv_iinc (v := 4) (lv' := [(9, .int 4), (3, .long z_18), (7, .long 1), (5, .long 1), (0, .ref mm), (1, .int w), (2, .int 0)]) hx hb dX10_sees_51 hl (k := 1) rfl (by decide) (by decide) rfl (fun ls hl => ?_)
  refine lv_goto (tgt := 11) hx hb dX10_sees_54 (by decide) ?_
  refine lv_iload hx hb dX10_sees_11 (lv_at hl 0 rfl) ?_
  refine lv_bipush (v := 6) hx hb dX10_sees_13 (by decide) ?_
  refine lv_icmp_ge (tgt := 57) hx hb dX10_sees_15 (by decide) (fun c_19 => absurd c_19 (by decide)) (fun _ => ?_)
  refine lv_aload_n hx hb dX10_sees_18 rfl (lv_at hl 4 rfl) ?_
  refine va_get (D := (dC, dI)) (ci := 10) (v := .ref lev) (C := RX10) (T := TX10) (N := 40) hx hb hts hiX10 hown hK hP 0 rfl rfl 1 (by decide) (hts (.fieldLink RX10 7 "WatchedProgramsModel" "level" "[I") (by decide +kernel)) (fun _ h9 => h9) rfl dX10_sees_19 ?_
  refine lv_iload hx hb dX10_sees_22 (lv_at hl 0 rfl) ?_
  refine va_iald hx hb hK hP 1 0 rfl rfl (by unfold vp_in; decide) dX10_sees_24 ?_
  refine zi (y := 0) (by rfl) ?_
  refine lv_iload_n hx hb dX10_sees_25 rfl (lv_at hl 5 rfl) ?_
  refine vp_callSi (va_Run.run (va_runS (As := [.int 0, .int w]) (rest := []) ⟨hx, hb, hml, hown, hts⟩ (m_isWithin l dC dI cI cJ cS  w ) (va_cwS 2 hts gX10_sees_X10_isWithin rfl rfl rfl (by decide +kernel) ⟨Nat.le_of_ble_eq_true rfl, Nat.le_of_ble_eq_true rfl⟩) (preR (hP.sub (ws' := []) [] rfl) hE) rfl rfl hl.1 rfl (lv_room (Nat.le_of_ble_eq_true rfl)) dX10_sees_26 ⟨by decide +kernel, by decide +kernel⟩)) (fun r_20 hr_21 => ?_)
  obtain rfl := hr_21
  refine lv_if_eq (tgt := 49) hx hb dX10_sees_29 (by decide) (fun c_22 => absurd c_22 (by decide)) (fun _ => ?_)
  refine lv_ldc2 (v := 4) hx hb hown (hts (.constantLong RX10 202 (4)) (by decide +kernel)) dX10_sees_32 ?_
  refine lv_lload_n hx hb dX10_sees_35 rfl (lv_at hl 1 rfl) ?_
  refine lv_lmul hx hb dX10_sees_36 ?_
  refine lv_aload_n hx hb dX10_sees_37 rfl (lv_at hl 4 rfl) ?_
  refine va_get (D := (dC, dI)) (ci := 10) (v := .ref cel) (C := RX10) (T := TX10) (N := 40) hx hb hts hiX10 hown hK hP 0 rfl rfl 21 (by decide) (hts (.fieldLink RX10 43 "WatchedProgramsModel" "cell" "[I") (by decide +kernel)) (fun _ h9 => h9) rfl dX10_sees_38 ?_
  refine lv_iload hx hb dX10_sees_41 (lv_at hl 0 rfl) ?_
  refine va_iald hx hb hK hP 2 0 rfl rfl (by unfold vp_in; decide) dX10_sees_43 ?_
  refine zi (y := (f 4)) (by rfl) ?_
  refine lv_i2l (v := ((f 4)).toInt64) hx hb dX10_sees_44 rfl ?_
  refine lv_ladd hx hb dX10_sees_45 ?_
  refine lv_goto (tgt := 50) hx hb dX10_sees_46 (by decide) ?_
  refine lv_lstore_n (lv' := [(3, .long ((4 * z_18) + ((f 4)).toInt64)), (9, .int 4), (7, .long 1), (5, .long 1), (0, .ref mm), (1, .int w), (2, .int 0)]) hx hb dX10_sees_50 rfl hl (by decide) rfl (fun ls hl => ?_)
  refine lv_iinc (v := 5) (lv' := [(9, .int 5), (3, .long ((4 * z_18) + ((f 4)).toInt64)), (7, .long 1), (5, .long 1), (0, .ref mm), (1, .int w), (2, .int 0)]) hx hb dX10_sees_51 hl (k := 1) rfl (by decide) (by decide) rfl (fun ls hl => ?_)
  refine lv_goto (tgt := 11) hx hb dX10_sees_54 (by decide) ?_
  refine lv_iload hx hb dX10_sees_11 (lv_at hl 0 rfl) ?_
  refine lv_bipush (v := 6) hx hb dX10_sees_13 (by decide) ?_
  refine lv_icmp_ge (tgt := 57) hx hb dX10_sees_15 (by decide) (fun c_23 => absurd c_23 (by decide)) (fun _ => ?_)
  refine lv_aload_n hx hb dX10_sees_18 rfl (lv_at hl 4 rfl) ?_
  refine va_get (D := (dC, dI)) (ci := 10) (v := .ref lev) (C := RX10) (T := TX10) (N := 40) hx hb hts hiX10 hown hK hP 0 rfl rfl 1 (by decide) (hts (.fieldLink RX10 7 "WatchedProgramsModel" "level" "[I") (by decide +kernel)) (fun _ h9 => h9) rfl dX10_sees_19 ?_
  refine lv_iload hx hb dX10_sees_22 (lv_at hl 0 rfl) ?_
  refine va_iald hx hb hK hP 1 0 rfl rfl (by unfold vp_in; decide) dX10_sees_24 ?_
  refine zi (y := 0) (by rfl) ?_
  refine lv_iload_n hx hb dX10_sees_25 rfl (lv_at hl 5 rfl) ?_
  refine vp_callSi (va_Run.run (va_runS (As := [.int 0, .int w]) (rest := []) ⟨hx, hb, hml, hown, hts⟩ (m_isWithin l dC dI cI cJ cS  w ) (va_cwS 2 hts gX10_sees_X10_isWithin rfl rfl rfl (by decide +kernel) ⟨Nat.le_of_ble_eq_true rfl, Nat.le_of_ble_eq_true rfl⟩) (preR (hP.sub (ws' := []) [] rfl) hE) rfl rfl hl.1 rfl (lv_room (Nat.le_of_ble_eq_true rfl)) dX10_sees_26 ⟨by decide +kernel, by decide +kernel⟩)) (fun r_24 hr_25 => ?_)
  obtain rfl := hr_25
  refine lv_if_eq (tgt := 49) hx hb dX10_sees_29 (by decide) (fun c_26 => absurd c_26 (by decide)) (fun _ => ?_)
  refine lv_ldc2 (v := 4) hx hb hown (hts (.constantLong RX10 202 (4)) (by decide +kernel)) dX10_sees_32 ?_
  refine lv_lload_n hx hb dX10_sees_35 rfl (lv_at hl 1 rfl) ?_
  refine lv_lmul hx hb dX10_sees_36 ?_
  refine lv_aload_n hx hb dX10_sees_37 rfl (lv_at hl 4 rfl) ?_
  refine va_get (D := (dC, dI)) (ci := 10) (v := .ref cel) (C := RX10) (T := TX10) (N := 40) hx hb hts hiX10 hown hK hP 0 rfl rfl 21 (by decide) (hts (.fieldLink RX10 43 "WatchedProgramsModel" "cell" "[I") (by decide +kernel)) (fun _ h9 => h9) rfl dX10_sees_38 ?_
  refine lv_iload hx hb dX10_sees_41 (lv_at hl 0 rfl) ?_
  refine va_iald hx hb hK hP 2 0 rfl rfl (by unfold vp_in; decide) dX10_sees_43 ?_
  refine zi (y := (f 5)) (by rfl) ?_
  refine lv_i2l (v := ((f 5)).toInt64) hx hb dX10_sees_44 rfl ?_
  refine lv_ladd hx hb dX10_sees_45 ?_
  refine lv_goto (tgt := 50) hx hb dX10_sees_46 (by decide) ?_
  refine lv_topl (fun z_27 ez_27 => ?_)
  refine lv_lstore_n (lv' := [(3, .long z_27), (9, .int 5), (7, .long 1), (5, .long 1), (0, .ref mm), (1, .int w), (2, .int 0)]) hx hb dX10_sees_50 rfl hl (by decide) rfl (fun ls hl => ?_)
  refine lv_iinc (v := 6) (lv' := [(9, .int 6), (3, .long z_27), (7, .long 1), (5, .long 1), (0, .ref mm), (1, .int w), (2, .int 0)]) hx hb dX10_sees_51 hl (k := 1) rfl (by decide) (by decide) rfl (fun ls hl => ?_)
  refine lv_goto (tgt := 11) hx hb dX10_sees_54 (by decide) ?_
  refine lv_iload hx hb dX10_sees_11 (lv_at hl 0 rfl) ?_
  refine lv_bipush (v := 6) hx hb dX10_sees_13 (by decide) ?_
  refine lv_icmp_ge (tgt := 57) hx hb dX10_sees_15 (by decide) (fun _ => ?_) (fun c_28 => absurd (by decide) c_28)
  refine lv_aload_n hx hb dX10_sees_57 rfl (lv_at hl 4 rfl) ?_
  refine va_get (D := (dC, dI)) (ci := 10) (v := .int 0) (C := RX10) (T := TX10) (N := 40) hx hb hts hiX10 hown hK hP 0 rfl rfl 23 (by decide) (hts (.fieldLink RX10 174 "WatchedProgramsModel" "came" "I") (by decide +kernel)) (fun _ h9 => h9) rfl dX10_sees_58 ?_
  refine lv_bipush (v := 20) hx hb dX10_sees_61 (by decide) ?_
  refine vp_callSi (va_Run.run (va_runS (As := [.int 0, .int 20]) (rest := []) ⟨hx, hb, hml, hown, hts⟩ (m_least l dC dI cI cJ cS   ) (va_cwS 2 hts gX10_sees_X10_least rfl rfl rfl (by decide +kernel) ⟨Nat.le_of_ble_eq_true rfl, Nat.le_of_ble_eq_true rfl⟩) (preR (hP.sub (ws' := []) [] rfl) hE) rfl rfl hl.1 rfl (lv_room (Nat.le_of_ble_eq_true rfl)) dX10_sees_63 ⟨by decide +kernel, by decide +kernel⟩)) (fun r_29 hr_30 => ?_)
  obtain rfl := hr_30
  refine lv_istore (lv' := [(9, .int 0), (3, .long z_27), (7, .long 1), (5, .long 1), (0, .ref mm), (1, .int w), (2, .int 0)]) hx hb dX10_sees_66 hl (by decide) rfl (fun ls hl => ?_)
  refine lv_iconst (v := 0) hx hb dX10_sees_68 (by decide) ?_
  refine lv_istore (lv' := [(10, .int 0), (9, .int 0), (3, .long z_27), (7, .long 1), (5, .long 1), (0, .ref mm), (1, .int w), (2, .int 0)]) hx hb dX10_sees_69 hl (by decide) rfl (fun ls hl => ?_)
  refine lv_iload hx hb dX10_sees_71 (lv_at hl 0 rfl) ?_
  refine lv_iload hx hb dX10_sees_73 (lv_at hl 1 rfl) ?_
  refine lv_icmp_ge (tgt := 168) hx hb dX10_sees_75 (by decide) (fun _ => ?_) (fun c_31 => absurd (by decide) c_31)
  refine lv_aload_n hx hb dX10_sees_168 rfl (lv_at hl 5 rfl) ?_
  refine va_get (D := (dC, dI)) (ci := 10) (v := .ref sgt) (C := RX10) (T := TX10) (N := 40) hx hb hts hiX10 hown hK hP 0 rfl rfl 36 (by decide) (hts (.fieldLink RX10 74 "WatchedProgramsModel" "sight" "[J") (by decide +kernel)) (fun _ h9 => h9) rfl dX10_sees_169 ?_
  refine lv_iload_n hx hb dX10_sees_172 rfl (lv_at hl 7 rfl) ?_
  refine lv_lload_n hx hb dX10_sees_173 rfl (lv_at hl 2 rfl) ?_
  refine va_last hx hb hK hP hD hS 3 1 rfl rfl (by unfold vp_in; decide) dX10_sees_174 (fun H locs hP hD hS => ?_)
  have hP : va_P (dC, dI) vwCl [(mm, .inr (10, [.int 0, .ref lev, .ref txt, .int 0, .int 0, .int 0, .int 0, .int 0, .int 0, .int 0, .int 0, .ref stm, .ref sm, .int 0, .ref sgn, .ref vls, .ref opn, .ref opp, .ref bke, .ref bko, .ref bkl, .ref cel, .int 0, .int 0, .ref tap, .ref tpl, .int 0, .int 0, .ref rtp, .ref rlv, .int 0, .ref sen, .ref hpo, .ref hpm, .ref bgn, .ref chn, .ref sgt, .int sc, .int hp, .ref rsd])), (lev, aI cI 6 (fun _ => 0)), (cel, aI cI 6 f), (sgt, aJ cJ 6 (vp_updL g 0 z_27))] H := hP
  have hD : va_D A [(mm, .inr (10, [.int 0, .ref lev, .ref txt, .int 0, .int 0, .int 0, .int 0, .int 0, .int 0, .int 0, .int 0, .ref stm, .ref sm, .int 0, .ref sgn, .ref vls, .ref opn, .ref opp, .ref bke, .ref bko, .ref bkl, .ref cel, .int 0, .int 0, .ref tap, .ref tpl, .int 0, .int 0, .ref rtp, .ref rlv, .int 0, .ref sen, .ref hpo, .ref hpm, .ref bgn, .ref chn, .ref sgt, .int sc, .int hp, .ref rsd])), (lev, aI cI 6 (fun _ => 0)), (cel, aI cI 6 f), (sgt, aJ cJ 6 (vp_updL g 0 z_27))] := hD
  refine lv_aload_n hx hb dX10_sees_175 rfl (lv_at hl 5 rfl) ?_
  refine va_get (D := (dC, dI)) (ci := 10) (v := .ref sgt) (C := RX10) (T := TX10) (N := 40) hx hb hts hiX10 hown hK hP 0 rfl rfl 36 (by decide) (hts (.fieldLink RX10 74 "WatchedProgramsModel" "sight" "[J") (by decide +kernel)) (fun _ h9 => h9) rfl dX10_sees_176 ?_
  refine lv_iload_n hx hb dX10_sees_179 rfl (lv_at hl 7 rfl) ?_
  refine lv_iconst (v := 1) hx hb dX10_sees_180 (by decide) ?_
  refine lv_iadd hx hb dX10_sees_181 ?_
  refine zi (y := 1) (by decide) ?_
  refine lv_lload hx hb dX10_sees_182 (lv_at hl 4 rfl) ?_
  refine va_last hx hb hK hP hD hS 3 1 rfl rfl (by unfold vp_in; decide) dX10_sees_184 (fun H locs hP hD hS => ?_)
  have hP : va_P (dC, dI) vwCl [(mm, .inr (10, [.int 0, .ref lev, .ref txt, .int 0, .int 0, .int 0, .int 0, .int 0, .int 0, .int 0, .int 0, .ref stm, .ref sm, .int 0, .ref sgn, .ref vls, .ref opn, .ref opp, .ref bke, .ref bko, .ref bkl, .ref cel, .int 0, .int 0, .ref tap, .ref tpl, .int 0, .int 0, .ref rtp, .ref rlv, .int 0, .ref sen, .ref hpo, .ref hpm, .ref bgn, .ref chn, .ref sgt, .int sc, .int hp, .ref rsd])), (lev, aI cI 6 (fun _ => 0)), (cel, aI cI 6 f), (sgt, aJ cJ 6 (vp_updL (vp_updL g 0 z_27) 1 1))] H := hP
  have hD : va_D A [(mm, .inr (10, [.int 0, .ref lev, .ref txt, .int 0, .int 0, .int 0, .int 0, .int 0, .int 0, .int 0, .int 0, .ref stm, .ref sm, .int 0, .ref sgn, .ref vls, .ref opn, .ref opp, .ref bke, .ref bko, .ref bkl, .ref cel, .int 0, .int 0, .ref tap, .ref tpl, .int 0, .int 0, .ref rtp, .ref rlv, .int 0, .ref sen, .ref hpo, .ref hpm, .ref bgn, .ref chn, .ref sgt, .int sc, .int hp, .ref rsd])), (lev, aI cI 6 (fun _ => 0)), (cel, aI cI 6 f), (sgt, aJ cJ 6 (vp_updL (vp_updL g 0 z_27) 1 1))] := hD
  refine lv_aload_n hx hb dX10_sees_185 rfl (lv_at hl 5 rfl) ?_
  refine va_get (D := (dC, dI)) (ci := 10) (v := .ref sgt) (C := RX10) (T := TX10) (N := 40) hx hb hts hiX10 hown hK hP 0 rfl rfl 36 (by decide) (hts (.fieldLink RX10 74 "WatchedProgramsModel" "sight" "[J") (by decide +kernel)) (fun _ h9 => h9) rfl dX10_sees_186 ?_
  refine lv_iload_n hx hb dX10_sees_189 rfl (lv_at hl 7 rfl) ?_
  refine lv_iconst (v := 2) hx hb dX10_sees_190 (by decide) ?_
  refine lv_iadd hx hb dX10_sees_191 ?_
  refine zi (y := 2) (by decide) ?_
  refine lv_lload hx hb dX10_sees_192 (lv_at hl 3 rfl) ?_
  refine va_last hx hb hK hP hD hS 3 1 rfl rfl (by unfold vp_in; decide) dX10_sees_194 (fun H locs hP hD hS => ?_)
  have hP : va_P (dC, dI) vwCl [(mm, .inr (10, [.int 0, .ref lev, .ref txt, .int 0, .int 0, .int 0, .int 0, .int 0, .int 0, .int 0, .int 0, .ref stm, .ref sm, .int 0, .ref sgn, .ref vls, .ref opn, .ref opp, .ref bke, .ref bko, .ref bkl, .ref cel, .int 0, .int 0, .ref tap, .ref tpl, .int 0, .int 0, .ref rtp, .ref rlv, .int 0, .ref sen, .ref hpo, .ref hpm, .ref bgn, .ref chn, .ref sgt, .int sc, .int hp, .ref rsd])), (lev, aI cI 6 (fun _ => 0)), (cel, aI cI 6 f), (sgt, aJ cJ 6 (vp_updL (vp_updL (vp_updL g 0 z_27) 1 1) 2 1))] H := hP
  have hD : va_D A [(mm, .inr (10, [.int 0, .ref lev, .ref txt, .int 0, .int 0, .int 0, .int 0, .int 0, .int 0, .int 0, .int 0, .ref stm, .ref sm, .int 0, .ref sgn, .ref vls, .ref opn, .ref opp, .ref bke, .ref bko, .ref bkl, .ref cel, .int 0, .int 0, .ref tap, .ref tpl, .int 0, .int 0, .ref rtp, .ref rlv, .int 0, .ref sen, .ref hpo, .ref hpm, .ref bgn, .ref chn, .ref sgt, .int sc, .int hp, .ref rsd])), (lev, aI cI 6 (fun _ => 0)), (cel, aI cI 6 f), (sgt, aJ cJ 6 (vp_updL (vp_updL (vp_updL g 0 z_27) 1 1) 2 1))] := hD
  have hP9 := hP.sub (ws' := [(mm, .inr (10, [.int 0, .ref lev, .ref txt, .int 0, .int 0, .int 0, .int 0, .int 0, .int 0, .int 0, .int 0, .ref stm, .ref sm, .int 0, .ref sgn, .ref vls, .ref opn, .ref opp, .ref bke, .ref bko, .ref bkl, .ref cel, .int 0, .int 0, .ref tap, .ref tpl, .int 0, .int 0, .ref rtp, .ref rlv, .int 0, .ref sen, .ref hpo, .ref hpm, .ref bgn, .ref chn, .ref sgt, .int sc, .int hp, .ref rsd])), (lev, aI cI 6 (fun _ => 0)), (cel, aI cI 6 f), (sgt, aJ cJ 6 (vp_updL (vp_updL (vp_updL g 0 z_27) 1 1) 2 1))]) [0, 1, 2, 3] rfl
  have hD9 := hD.sub (ws' := [(mm, .inr (10, [.int 0, .ref lev, .ref txt, .int 0, .int 0, .int 0, .int 0, .int 0, .int 0, .int 0, .int 0, .ref stm, .ref sm, .int 0, .ref sgn, .ref vls, .ref opn, .ref opp, .ref bke, .ref bko, .ref bkl, .ref cel, .int 0, .int 0, .ref tap, .ref tpl, .int 0, .int 0, .ref rtp, .ref rlv, .int 0, .ref sen, .ref hpo, .ref hpm, .ref bgn, .ref chn, .ref sgt, .int sc, .int hp, .ref rsd])), (lev, aI cI 6 (fun _ => 0)), (cel, aI cI 6 f), (sgt, aJ cJ 6 (vp_updL (vp_updL (vp_updL g 0 z_27) 1 1) 2 1))]) [0, 1, 2, 3] (by decide) rfl
  exact W.vret hx hb hr (fun tt_ ht hW => ⟨⟨((vp_updL (vp_updL (vp_updL g 0 z_27) 1 1) 2 1)), rfl, trivial, by rw [ht]; exact hP9, hD9⟩, hS.F ht⟩) hS.2.2 dX10_sees_195
set_option maxHeartbeats 1000000 in
set_option maxRecDepth 100000 in
theorem m_sees3 (l : Launch) (dC : Nat → ClassId) (dI : Nat → Nat → Nat) (cI cJ cS : ClassId) (sz : Nat) (mm : Nat) (w : Int32) (lev : Nat) (txt : Nat) (stm : Nat) (sm : Nat) (sgn : Nat) (vls : Nat) (opn : Nat) (opp : Nat) (bke : Nat) (bko : Nat) (bkl : Nat) (cel : Nat) (tap : Nat) (tpl : Nat) (rtp : Nat) (rlv : Nat) (sen : Nat) (hpo : Nat) (hpm : Nat) (bgn : Nat) (chn : Nat) (sgt : Nat) (sc : Int32) (hp : Int32) (rsd : Nat) (f : Nat → Int32) (g : Nat → Int64)  : Met l yX10_sees wsX10_sees ({ frames := 1, cells := 0, slots := 0, locals := 21 }) (va_Pc [.ref mm, .int w, .int 3] (PE dC dI cI cJ cS [(mm, .inr (10, [.int 0, .ref lev, .ref txt, .int 0, .int 0, .int 0, .int 0, .int 0, .int 0, .int 0, .int 0, .ref stm, .ref sm, .int 0, .ref sgn, .ref vls, .ref opn, .ref opp, .ref bke, .ref bko, .ref bkl, .ref cel, .int 0, .int 0, .ref tap, .ref tpl, .int 0, .int 0, .ref rtp, .ref rlv, .int 0, .ref sen, .ref hpo, .ref hpm, .ref bgn, .ref chn, .ref sgt, .int sc, .int hp, .ref rsd])), (lev, aI cI 6 (fun _ => 0)), (cel, aI cI 6 f), (sgt, aJ cJ 6 g)] sz)) (va_Qv (fun (gs : Nat → Int64) => True) (BE dC dI (va_A [(mm, .inr (10, [.int 0, .ref lev, .ref txt, .int 0, .int 0, .int 0, .int 0, .int 0, .int 0, .int 0, .int 0, .ref stm, .ref sm, .int 0, .ref sgn, .ref vls, .ref opn, .ref opp, .ref bke, .ref bko, .ref bkl, .ref cel, .int 0, .int 0, .ref tap, .ref tpl, .int 0, .int 0, .ref rtp, .ref rlv, .int 0, .ref sen, .ref hpo, .ref hpm, .ref bgn, .ref chn, .ref sgt, .int sc, .int hp, .ref rsd])), (lev, aI cI 6 (fun _ => 0)), (cel, aI cI 6 f), (sgt, aJ cJ 6 g)] sz) (fun (gs : Nat → Int64) => [(mm, .inr (10, [.int 0, .ref lev, .ref txt, .int 0, .int 0, .int 0, .int 0, .int 0, .int 0, .int 0, .int 0, .ref stm, .ref sm, .int 0, .ref sgn, .ref vls, .ref opn, .ref opp, .ref bke, .ref bko, .ref bkl, .ref cel, .int 0, .int 0, .ref tap, .ref tpl, .int 0, .int 0, .ref rtp, .ref rlv, .int 0, .ref sen, .ref hpo, .ref hpm, .ref bgn, .ref chn, .ref sgt, .int sc, .int hp, .ref rsd])), (lev, aI cI 6 (fun _ => 0)), (cel, aI cI 6 f), (sgt, aJ cJ 6 gs)])) (va_A [(mm, .inr (10, [.int 0, .ref lev, .ref txt, .int 0, .int 0, .int 0, .int 0, .int 0, .int 0, .int 0, .int 0, .ref stm, .ref sm, .int 0, .ref sgn, .ref vls, .ref opn, .ref opp, .ref bke, .ref bko, .ref bkl, .ref cel, .int 0, .int 0, .ref tap, .ref tpl, .int 0, .int 0, .ref rtp, .ref rlv, .int 0, .ref sen, .ref hpo, .ref hpm, .ref bgn, .ref chn, .ref sgt, .int sc, .int hp, .ref rsd])), (lev, aI cI 6 (fun _ => 0)), (cel, aI cI 6 f), (sgt, aJ cJ 6 g)] sz)) 0 0 (va_A [(mm, .inr (10, [.int 0, .ref lev, .ref txt, .int 0, .int 0, .int 0, .int 0, .int 0, .int 0, .int 0, .int 0, .ref stm, .ref sm, .int 0, .ref sgn, .ref vls, .ref opn, .ref opp, .ref bke, .ref bko, .ref bkl, .ref cel, .int 0, .int 0, .ref tap, .ref tpl, .int 0, .int 0, .ref rtp, .ref rlv, .int 0, .ref sen, .ref hpo, .ref hpm, .ref bgn, .ref chn, .ref sgt, .int sc, .int hp, .ref rsd])), (lev, aI cI 6 (fun _ => 0)), (cel, aI cI 6 f), (sgt, aJ cJ 6 g)] sz) := by
  refine Met.ofW (cc := cX10_sees) (maxL := 12) (ret := none) (by decide) rfl ?_
  intro pp_ ee_ ss_ mm_ args below meth cc_ s₁ B hml hv
  obtain ⟨rfl, hsz, hP, hE, hD0⟩ := hv
  have hx := B.exec
  have hb := B.bytes
  have hr := B.returns
  have hts := atoms_spec (ws := wsX10_sees) B.pre
  have hown : ss_.vm.findClass RX10 = some mm_.cls := findClass_of_methodNamed B.named
  have hlocks := B.notSynchronized
  have hK := hE.1
  have hiX10 : ∀ w ∈ wsX100, w ∈ wsX10_sees := by decide +kernel
  subst hsz
  have hD := hD0.self (sz := ss_.heap.size)
  generalize hAe : va_A [(mm, .inr (10, [.int 0, .ref lev, .ref txt, .int 0, .int 0, .int 0, .int 0, .int 0, .int 0, .int 0, .int 0, .ref stm, .ref sm, .int 0, .ref sgn, .ref vls, .ref opn, .ref opp, .ref bke, .ref bko, .ref bkl, .ref cel, .int 0, .int 0, .ref tap, .ref tpl, .int 0, .int 0, .ref rtp, .ref rlv, .int 0, .ref sen, .ref hpo, .ref hpm, .ref bgn, .ref chn, .ref sgt, .int sc, .int hp, .ref rsd])), (lev, aI cI 6 (fun _ => 0)), (cel, aI cI 6 f), (sgt, aJ cJ 6 g)] ss_.heap.size = A at hD ⊢
  have hA : ∀ q : Nat, ss_.heap.size ≤ q → A q := fun q h => by rw [← hAe]; exact Or.inr h
  have hS : va_S A ss_.heap ss_.heap [] := va_S.rf
  have hP : va_P (dC, dI) vwCl [(mm, .inr (10, [.int 0, .ref lev, .ref txt, .int 0, .int 0, .int 0, .int 0, .int 0, .int 0, .int 0, .int 0, .ref stm, .ref sm, .int 0, .ref sgn, .ref vls, .ref opn, .ref opp, .ref bke, .ref bko, .ref bkl, .ref cel, .int 0, .int 0, .ref tap, .ref tpl, .int 0, .int 0, .ref rtp, .ref rlv, .int 0, .ref sen, .ref hpo, .ref hpm, .ref bgn, .ref chn, .ref sgt, .int sc, .int hp, .ref rsd])), (lev, aI cI 6 (fun _ => 0)), (cel, aI cI 6 f), (sgt, aJ cJ 6 g)] ss_.heap := hP
  have hl := lv_entry ([.ref mm, .int w, .int 3]) (n := 12) (Nat.le_of_ble_eq_true rfl)
  rw [lg_entry_eq]
  generalize (lg_sl ([.ref mm, .int w, .int 3]) ++ List.replicate (12 - (lg_sl ([.ref mm, .int w, .int 3])).length) Slot.unset).toArray = ls at hl ⊢
  have hl : lv_has ls 12 [(0, .ref mm), (1, .int w), (2, .int 3)] := hl
  refine lv_lconst (v := 1) hx hb dX10_sees_0 (by decide) ?_
  refine lv_lstore_n (lv' := [(3, .long 1), (0, .ref mm), (1, .int w), (2, .int 3)]) hx hb dX10_sees_1 rfl hl (by decide) rfl (fun ls hl => ?_)
  refine lv_lconst (v := 1) hx hb dX10_sees_2 (by decide) ?_
  refine lv_lstore (lv' := [(5, .long 1), (3, .long 1), (0, .ref mm), (1, .int w), (2, .int 3)]) hx hb dX10_sees_3 hl (by decide) rfl (fun ls hl => ?_)
  refine lv_lconst (v := 1) hx hb dX10_sees_5 (by decide) ?_
  refine lv_lstore (lv' := [(7, .long 1), (5, .long 1), (3, .long 1), (0, .ref mm), (1, .int w), (2, .int 3)]) hx hb dX10_sees_6 hl (by decide) rfl (fun ls hl => ?_)
  refine lv_iconst (v := 0) hx hb dX10_sees_8 (by decide) ?_
  refine lv_istore (lv' := [(9, .int 0), (7, .long 1), (5, .long 1), (3, .long 1), (0, .ref mm), (1, .int w), (2, .int 3)]) hx hb dX10_sees_9 hl (by decide) rfl (fun ls hl => ?_)
  refine lv_iload hx hb dX10_sees_11 (lv_at hl 0 rfl) ?_
  refine lv_bipush (v := 6) hx hb dX10_sees_13 (by decide) ?_
  refine lv_icmp_ge (tgt := 57) hx hb dX10_sees_15 (by decide) (fun c_1 => absurd c_1 (by decide)) (fun _ => ?_)
  refine lv_aload_n hx hb dX10_sees_18 rfl (lv_at hl 4 rfl) ?_
  refine va_get (D := (dC, dI)) (ci := 10) (v := .ref lev) (C := RX10) (T := TX10) (N := 40) hx hb hts hiX10 hown hK hP 0 rfl rfl 1 (by decide) (hts (.fieldLink RX10 7 "WatchedProgramsModel" "level" "[I") (by decide +kernel)) (fun _ h9 => h9) rfl dX10_sees_19 ?_
  refine lv_iload hx hb dX10_sees_22 (lv_at hl 0 rfl) ?_
  refine va_iald hx hb hK hP 1 0 rfl rfl (by unfold vp_in; decide) dX10_sees_24 ?_
  refine zi (y := 0) (by rfl) ?_
  refine lv_iload_n hx hb dX10_sees_25 rfl (lv_at hl 5 rfl) ?_
  refine vp_callSi (va_Run.run (va_runS (As := [.int 0, .int w]) (rest := []) ⟨hx, hb, hml, hown, hts⟩ (m_isWithin l dC dI cI cJ cS  w ) (va_cwS 2 hts gX10_sees_X10_isWithin rfl rfl rfl (by decide +kernel) ⟨Nat.le_of_ble_eq_true rfl, Nat.le_of_ble_eq_true rfl⟩) (preR (hP.sub (ws' := []) [] rfl) hE) rfl rfl hl.1 rfl (lv_room (Nat.le_of_ble_eq_true rfl)) dX10_sees_26 ⟨by decide +kernel, by decide +kernel⟩)) (fun r_2 hr_3 => ?_)
  obtain rfl := hr_3
  refine lv_if_eq (tgt := 49) hx hb dX10_sees_29 (by decide) (fun c_4 => absurd c_4 (by decide)) (fun _ => ?_)
  refine lv_ldc2 (v := 4) hx hb hown (hts (.constantLong RX10 202 (4)) (by decide +kernel)) dX10_sees_32 ?_
  refine lv_lload_n hx hb dX10_sees_35 rfl (lv_at hl 3 rfl) ?_
  refine lv_lmul hx hb dX10_sees_36 ?_
  refine zl (y := 4) (by decide) ?_
  refine lv_aload_n hx hb dX10_sees_37 rfl (lv_at hl 4 rfl) ?_
  refine va_get (D := (dC, dI)) (ci := 10) (v := .ref cel) (C := RX10) (T := TX10) (N := 40) hx hb hts hiX10 hown hK hP 0 rfl rfl 21 (by decide) (hts (.fieldLink RX10 43 "WatchedProgramsModel" "cell" "[I") (by decide +kernel)) (fun _ h9 => h9) rfl dX10_sees_38 ?_
  refine lv_iload hx hb dX10_sees_41 (lv_at hl 0 rfl) ?_
  refine va_iald hx hb hK hP 2 0 rfl rfl (by unfold vp_in; decide) dX10_sees_43 ?_
  refine zi (y := (f 0)) (by rfl) ?_
  refine lv_i2l (v := ((f 0)).toInt64) hx hb dX10_sees_44 rfl ?_
  refine lv_ladd hx hb dX10_sees_45 ?_
  refine lv_goto (tgt := 50) hx hb dX10_sees_46 (by decide) ?_
  refine lv_lstore_n (lv' := [(3, .long (4 + ((f 0)).toInt64)), (9, .int 0), (7, .long 1), (5, .long 1), (0, .ref mm), (1, .int w), (2, .int 3)]) hx hb dX10_sees_50 rfl hl (by decide) rfl (fun ls hl => ?_)
  refine lv_iinc (v := 1) (lv' := [(9, .int 1), (3, .long (4 + ((f 0)).toInt64)), (7, .long 1), (5, .long 1), (0, .ref mm), (1, .int w), (2, .int 3)]) hx hb dX10_sees_51 hl (k := 1) rfl (by decide) (by decide) rfl (fun ls hl => ?_)
  refine lv_goto (tgt := 11) hx hb dX10_sees_54 (by decide) ?_
  refine lv_iload hx hb dX10_sees_11 (lv_at hl 0 rfl) ?_
  refine lv_bipush (v := 6) hx hb dX10_sees_13 (by decide) ?_
  refine lv_icmp_ge (tgt := 57) hx hb dX10_sees_15 (by decide) (fun c_5 => absurd c_5 (by decide)) (fun _ => ?_)
  refine lv_aload_n hx hb dX10_sees_18 rfl (lv_at hl 4 rfl) ?_
  refine va_get (D := (dC, dI)) (ci := 10) (v := .ref lev) (C := RX10) (T := TX10) (N := 40) hx hb hts hiX10 hown hK hP 0 rfl rfl 1 (by decide) (hts (.fieldLink RX10 7 "WatchedProgramsModel" "level" "[I") (by decide +kernel)) (fun _ h9 => h9) rfl dX10_sees_19 ?_
  refine lv_iload hx hb dX10_sees_22 (lv_at hl 0 rfl) ?_
  refine va_iald hx hb hK hP 1 0 rfl rfl (by unfold vp_in; decide) dX10_sees_24 ?_
  refine zi (y := 0) (by rfl) ?_
  refine lv_iload_n hx hb dX10_sees_25 rfl (lv_at hl 5 rfl) ?_
  refine vp_callSi (va_Run.run (va_runS (As := [.int 0, .int w]) (rest := []) ⟨hx, hb, hml, hown, hts⟩ (m_isWithin l dC dI cI cJ cS  w ) (va_cwS 2 hts gX10_sees_X10_isWithin rfl rfl rfl (by decide +kernel) ⟨Nat.le_of_ble_eq_true rfl, Nat.le_of_ble_eq_true rfl⟩) (preR (hP.sub (ws' := []) [] rfl) hE) rfl rfl hl.1 rfl (lv_room (Nat.le_of_ble_eq_true rfl)) dX10_sees_26 ⟨by decide +kernel, by decide +kernel⟩)) (fun r_6 hr_7 => ?_)
  obtain rfl := hr_7
  refine lv_if_eq (tgt := 49) hx hb dX10_sees_29 (by decide) (fun c_8 => absurd c_8 (by decide)) (fun _ => ?_)
  refine lv_ldc2 (v := 4) hx hb hown (hts (.constantLong RX10 202 (4)) (by decide +kernel)) dX10_sees_32 ?_
  refine lv_lload_n hx hb dX10_sees_35 rfl (lv_at hl 1 rfl) ?_
  refine lv_lmul hx hb dX10_sees_36 ?_
  refine lv_aload_n hx hb dX10_sees_37 rfl (lv_at hl 4 rfl) ?_
  refine va_get (D := (dC, dI)) (ci := 10) (v := .ref cel) (C := RX10) (T := TX10) (N := 40) hx hb hts hiX10 hown hK hP 0 rfl rfl 21 (by decide) (hts (.fieldLink RX10 43 "WatchedProgramsModel" "cell" "[I") (by decide +kernel)) (fun _ h9 => h9) rfl dX10_sees_38 ?_
  refine lv_iload hx hb dX10_sees_41 (lv_at hl 0 rfl) ?_
  refine va_iald hx hb hK hP 2 0 rfl rfl (by unfold vp_in; decide) dX10_sees_43 ?_
  refine zi (y := (f 1)) (by rfl) ?_
  refine lv_i2l (v := ((f 1)).toInt64) hx hb dX10_sees_44 rfl ?_
  refine lv_ladd hx hb dX10_sees_45 ?_
  refine lv_goto (tgt := 50) hx hb dX10_sees_46 (by decide) ?_
  refine lv_topl (fun z_9 ez_9 => ?_)
  refine lv_lstore_n (lv' := [(3, .long z_9), (9, .int 1), (7, .long 1), (5, .long 1), (0, .ref mm), (1, .int w), (2, .int 3)]) hx hb dX10_sees_50 rfl hl (by decide) rfl (fun ls hl => ?_)
  refine lv_iinc (v := 2) (lv' := [(9, .int 2), (3, .long z_9), (7, .long 1), (5, .long 1), (0, .ref mm), (1, .int w), (2, .int 3)]) hx hb dX10_sees_51 hl (k := 1) rfl (by decide) (by decide) rfl (fun ls hl => ?_)
  refine lv_goto (tgt := 11) hx hb dX10_sees_54 (by decide) ?_
  refine lv_iload hx hb dX10_sees_11 (lv_at hl 0 rfl) ?_
  refine lv_bipush (v := 6) hx hb dX10_sees_13 (by decide) ?_
  refine lv_icmp_ge (tgt := 57) hx hb dX10_sees_15 (by decide) (fun c_10 => absurd c_10 (by decide)) (fun _ => ?_)
  refine lv_aload_n hx hb dX10_sees_18 rfl (lv_at hl 4 rfl) ?_
  refine va_get (D := (dC, dI)) (ci := 10) (v := .ref lev) (C := RX10) (T := TX10) (N := 40) hx hb hts hiX10 hown hK hP 0 rfl rfl 1 (by decide) (hts (.fieldLink RX10 7 "WatchedProgramsModel" "level" "[I") (by decide +kernel)) (fun _ h9 => h9) rfl dX10_sees_19 ?_
  refine lv_iload hx hb dX10_sees_22 (lv_at hl 0 rfl) ?_
  refine va_iald hx hb hK hP 1 0 rfl rfl (by unfold vp_in; decide) dX10_sees_24 ?_
  refine zi (y := 0) (by rfl) ?_
  refine lv_iload_n hx hb dX10_sees_25 rfl (lv_at hl 5 rfl) ?_
  refine vp_callSi (va_Run.run (va_runS (As := [.int 0, .int w]) (rest := []) ⟨hx, hb, hml, hown, hts⟩ (m_isWithin l dC dI cI cJ cS  w ) (va_cwS 2 hts gX10_sees_X10_isWithin rfl rfl rfl (by decide +kernel) ⟨Nat.le_of_ble_eq_true rfl, Nat.le_of_ble_eq_true rfl⟩) (preR (hP.sub (ws' := []) [] rfl) hE) rfl rfl hl.1 rfl (lv_room (Nat.le_of_ble_eq_true rfl)) dX10_sees_26 ⟨by decide +kernel, by decide +kernel⟩)) (fun r_11 hr_12 => ?_)
  obtain rfl := hr_12
  refine lv_if_eq (tgt := 49) hx hb dX10_sees_29 (by decide) (fun c_13 => absurd c_13 (by decide)) (fun _ => ?_)
  refine lv_ldc2 (v := 4) hx hb hown (hts (.constantLong RX10 202 (4)) (by decide +kernel)) dX10_sees_32 ?_
  refine lv_lload_n hx hb dX10_sees_35 rfl (lv_at hl 1 rfl) ?_
  refine lv_lmul hx hb dX10_sees_36 ?_
  refine lv_aload_n hx hb dX10_sees_37 rfl (lv_at hl 4 rfl) ?_
  refine va_get (D := (dC, dI)) (ci := 10) (v := .ref cel) (C := RX10) (T := TX10) (N := 40) hx hb hts hiX10 hown hK hP 0 rfl rfl 21 (by decide) (hts (.fieldLink RX10 43 "WatchedProgramsModel" "cell" "[I") (by decide +kernel)) (fun _ h9 => h9) rfl dX10_sees_38 ?_
  refine lv_iload hx hb dX10_sees_41 (lv_at hl 0 rfl) ?_
  refine va_iald hx hb hK hP 2 0 rfl rfl (by unfold vp_in; decide) dX10_sees_43 ?_
  refine zi (y := (f 2)) (by rfl) ?_
  refine lv_i2l (v := ((f 2)).toInt64) hx hb dX10_sees_44 rfl ?_
  refine lv_ladd hx hb dX10_sees_45 ?_
  refine lv_goto (tgt := 50) hx hb dX10_sees_46 (by decide) ?_
  refine lv_lstore_n (lv' := [(3, .long ((4 * z_9) + ((f 2)).toInt64)), (9, .int 2), (7, .long 1), (5, .long 1), (0, .ref mm), (1, .int w), (2, .int 3)]) hx hb dX10_sees_50 rfl hl (by decide) rfl (fun ls hl => ?_)
  refine lv_iinc (v := 3) (lv' := [(9, .int 3), (3, .long ((4 * z_9) + ((f 2)).toInt64)), (7, .long 1), (5, .long 1), (0, .ref mm), (1, .int w), (2, .int 3)]) hx hb dX10_sees_51 hl (k := 1) rfl (by decide) (by decide) rfl (fun ls hl => ?_)
  refine lv_goto (tgt := 11) hx hb dX10_sees_54 (by decide) ?_
  refine lv_iload hx hb dX10_sees_11 (lv_at hl 0 rfl) ?_
  refine lv_bipush (v := 6) hx hb dX10_sees_13 (by decide) ?_
  refine lv_icmp_ge (tgt := 57) hx hb dX10_sees_15 (by decide) (fun c_14 => absurd c_14 (by decide)) (fun _ => ?_)
  refine lv_aload_n hx hb dX10_sees_18 rfl (lv_at hl 4 rfl) ?_
  refine va_get (D := (dC, dI)) (ci := 10) (v := .ref lev) (C := RX10) (T := TX10) (N := 40) hx hb hts hiX10 hown hK hP 0 rfl rfl 1 (by decide) (hts (.fieldLink RX10 7 "WatchedProgramsModel" "level" "[I") (by decide +kernel)) (fun _ h9 => h9) rfl dX10_sees_19 ?_
  refine lv_iload hx hb dX10_sees_22 (lv_at hl 0 rfl) ?_
  refine va_iald hx hb hK hP 1 0 rfl rfl (by unfold vp_in; decide) dX10_sees_24 ?_
  refine zi (y := 0) (by rfl) ?_
  refine lv_iload_n hx hb dX10_sees_25 rfl (lv_at hl 5 rfl) ?_
  refine vp_callSi (va_Run.run (va_runS (As := [.int 0, .int w]) (rest := []) ⟨hx, hb, hml, hown, hts⟩ (m_isWithin l dC dI cI cJ cS  w ) (va_cwS 2 hts gX10_sees_X10_isWithin rfl rfl rfl (by decide +kernel) ⟨Nat.le_of_ble_eq_true rfl, Nat.le_of_ble_eq_true rfl⟩) (preR (hP.sub (ws' := []) [] rfl) hE) rfl rfl hl.1 rfl (lv_room (Nat.le_of_ble_eq_true rfl)) dX10_sees_26 ⟨by decide +kernel, by decide +kernel⟩)) (fun r_15 hr_16 => ?_)
  obtain rfl := hr_16
  refine lv_if_eq (tgt := 49) hx hb dX10_sees_29 (by decide) (fun c_17 => absurd c_17 (by decide)) (fun _ => ?_)
  refine lv_ldc2 (v := 4) hx hb hown (hts (.constantLong RX10 202 (4)) (by decide +kernel)) dX10_sees_32 ?_
  refine lv_lload_n hx hb dX10_sees_35 rfl (lv_at hl 1 rfl) ?_
  refine lv_lmul hx hb dX10_sees_36 ?_
  refine lv_aload_n hx hb dX10_sees_37 rfl (lv_at hl 4 rfl) ?_
  refine va_get (D := (dC, dI)) (ci := 10) (v := .ref cel) (C := RX10) (T := TX10) (N := 40) hx hb hts hiX10 hown hK hP 0 rfl rfl 21 (by decide) (hts (.fieldLink RX10 43 "WatchedProgramsModel" "cell" "[I") (by decide +kernel)) (fun _ h9 => h9) rfl dX10_sees_38 ?_
  refine lv_iload hx hb dX10_sees_41 (lv_at hl 0 rfl) ?_
  refine va_iald hx hb hK hP 2 0 rfl rfl (by unfold vp_in; decide) dX10_sees_43 ?_
  refine zi (y := (f 3)) (by rfl) ?_
  refine lv_i2l (v := ((f 3)).toInt64) hx hb dX10_sees_44 rfl ?_
  refine lv_ladd hx hb dX10_sees_45 ?_
  refine lv_goto (tgt := 50) hx hb dX10_sees_46 (by decide) ?_
  refine lv_topl (fun z_18 ez_18 => ?_)
  refine lv_lstore_n (lv' := [(3, .long z_18), (9, .int 3), (7, .long 1), (5, .long 1), (0, .ref mm), (1, .int w), (2, .int 3)]) hx hb dX10_sees_50 rfl hl (by decide) rfl (fun ls hl => ?_)
  refine lv_iinc (v := 4) (lv' := [(9, .int 4), (3, .long z_18), (7, .long 1), (5, .long 1), (0, .ref mm), (1, .int w), (2, .int 3)]) hx hb dX10_sees_51 hl (k := 1) rfl (by decide) (by decide) rfl (fun ls hl => ?_)
  refine lv_goto (tgt := 11) hx hb dX10_sees_54 (by decide) ?_
  refine lv_iload hx hb dX10_sees_11 (lv_at hl 0 rfl) ?_
  refine lv_bipush (v := 6) hx hb dX10_sees_13 (by decide) ?_
  refine lv_icmp_ge (tgt := 57) hx hb dX10_sees_15 (by decide) (fun c_19 => absurd c_19 (by decide)) (fun _ => ?_)
  refine lv_aload_n hx hb dX10_sees_18 rfl (lv_at hl 4 rfl) ?_
  refine va_get (D := (dC, dI)) (ci := 10) (v := .ref lev) (C := RX10) (T := TX10) (N := 40) hx hb hts hiX10 hown hK hP 0 rfl rfl 1 (by decide) (hts (.fieldLink RX10 7 "WatchedProgramsModel" "level" "[I") (by decide +kernel)) (fun _ h9 => h9) rfl dX10_sees_19 ?_
  refine lv_iload hx hb dX10_sees_22 (lv_at hl 0 rfl) ?_
  refine va_iald hx hb hK hP 1 0 rfl rfl (by unfold vp_in; decide) dX10_sees_24 ?_
  refine zi (y := 0) (by rfl) ?_
  refine lv_iload_n hx hb dX10_sees_25 rfl (lv_at hl 5 rfl) ?_
  refine vp_callSi (va_Run.run (va_runS (As := [.int 0, .int w]) (rest := []) ⟨hx, hb, hml, hown, hts⟩ (m_isWithin l dC dI cI cJ cS  w ) (va_cwS 2 hts gX10_sees_X10_isWithin rfl rfl rfl (by decide +kernel) ⟨Nat.le_of_ble_eq_true rfl, Nat.le_of_ble_eq_true rfl⟩) (preR (hP.sub (ws' := []) [] rfl) hE) rfl rfl hl.1 rfl (lv_room (Nat.le_of_ble_eq_true rfl)) dX10_sees_26 ⟨by decide +kernel, by decide +kernel⟩)) (fun r_20 hr_21 => ?_)
  obtain rfl := hr_21
  refine lv_if_eq (tgt := 49) hx hb dX10_sees_29 (by decide) (fun c_22 => absurd c_22 (by decide)) (fun _ => ?_)
  refine lv_ldc2 (v := 4) hx hb hown (hts (.constantLong RX10 202 (4)) (by decide +kernel)) dX10_sees_32 ?_
  refine lv_lload_n hx hb dX10_sees_35 rfl (lv_at hl 1 rfl) ?_
  refine lv_lmul hx hb dX10_sees_36 ?_
  refine lv_aload_n hx hb dX10_sees_37 rfl (lv_at hl 4 rfl) ?_
  refine va_get (D := (dC, dI)) (ci := 10) (v := .ref cel) (C := RX10) (T := TX10) (N := 40) hx hb hts hiX10 hown hK hP 0 rfl rfl 21 (by decide) (hts (.fieldLink RX10 43 "WatchedProgramsModel" "cell" "[I") (by decide +kernel)) (fun _ h9 => h9) rfl dX10_sees_38 ?_
  refine lv_iload hx hb dX10_sees_41 (lv_at hl 0 rfl) ?_
  refine va_iald hx hb hK hP 2 0 rfl rfl (by unfold vp_in; decide) dX10_sees_43 ?_
  refine zi (y := (f 4)) (by rfl) ?_
  refine lv_i2l (v := ((f 4)).toInt64) hx hb dX10_sees_44 rfl ?_
  refine lv_ladd hx hb dX10_sees_45 ?_
  refine lv_goto (tgt := 50) hx hb dX10_sees_46 (by decide) ?_
  refine lv_lstore_n (lv' := [(3, .long ((4 * z_18) + ((f 4)).toInt64)), (9, .int 4), (7, .long 1), (5, .long 1), (0, .ref mm), (1, .int w), (2, .int 3)]) hx hb dX10_sees_50 rfl hl (by decide) rfl (fun ls hl => ?_)
  refine lv_iinc (v := 5) (lv' := [(9, .int 5), (3, .long ((4 * z_18) + ((f 4)).toInt64)), (7, .long 1), (5, .long 1), (0, .ref mm), (1, .int w), (2, .int 3)]) hx hb dX10_sees_51 hl (k := 1) rfl (by decide) (by decide) rfl (fun ls hl => ?_)
  refine lv_goto (tgt := 11) hx hb dX10_sees_54 (by decide) ?_
  refine lv_iload hx hb dX10_sees_11 (lv_at hl 0 rfl) ?_
  refine lv_bipush (v := 6) hx hb dX10_sees_13 (by decide) ?_
  refine lv_icmp_ge (tgt := 57) hx hb dX10_sees_15 (by decide) (fun c_23 => absurd c_23 (by decide)) (fun _ => ?_)
  refine lv_aload_n hx hb dX10_sees_18 rfl (lv_at hl 4 rfl) ?_
  refine va_get (D := (dC, dI)) (ci := 10) (v := .ref lev) (C := RX10) (T := TX10) (N := 40) hx hb hts hiX10 hown hK hP 0 rfl rfl 1 (by decide) (hts (.fieldLink RX10 7 "WatchedProgramsModel" "level" "[I") (by decide +kernel)) (fun _ h9 => h9) rfl dX10_sees_19 ?_
  refine lv_iload hx hb dX10_sees_22 (lv_at hl 0 rfl) ?_
  refine va_iald hx hb hK hP 1 0 rfl rfl (by unfold vp_in; decide) dX10_sees_24 ?_
  refine zi (y := 0) (by rfl) ?_
  refine lv_iload_n hx hb dX10_sees_25 rfl (lv_at hl 5 rfl) ?_
  refine vp_callSi (va_Run.run (va_runS (As := [.int 0, .int w]) (rest := []) ⟨hx, hb, hml, hown, hts⟩ (m_isWithin l dC dI cI cJ cS  w ) (va_cwS 2 hts gX10_sees_X10_isWithin rfl rfl rfl (by decide +kernel) ⟨Nat.le_of_ble_eq_true rfl, Nat.le_of_ble_eq_true rfl⟩) (preR (hP.sub (ws' := []) [] rfl) hE) rfl rfl hl.1 rfl (lv_room (Nat.le_of_ble_eq_true rfl)) dX10_sees_26 ⟨by decide +kernel, by decide +kernel⟩)) (fun r_24 hr_25 => ?_)
  obtain rfl := hr_25
  refine lv_if_eq (tgt := 49) hx hb dX10_sees_29 (by decide) (fun c_26 => absurd c_26 (by decide)) (fun _ => ?_)
  refine lv_ldc2 (v := 4) hx hb hown (hts (.constantLong RX10 202 (4)) (by decide +kernel)) dX10_sees_32 ?_
  refine lv_lload_n hx hb dX10_sees_35 rfl (lv_at hl 1 rfl) ?_
  refine lv_lmul hx hb dX10_sees_36 ?_
  refine lv_aload_n hx hb dX10_sees_37 rfl (lv_at hl 4 rfl) ?_
  refine va_get (D := (dC, dI)) (ci := 10) (v := .ref cel) (C := RX10) (T := TX10) (N := 40) hx hb hts hiX10 hown hK hP 0 rfl rfl 21 (by decide) (hts (.fieldLink RX10 43 "WatchedProgramsModel" "cell" "[I") (by decide +kernel)) (fun _ h9 => h9) rfl dX10_sees_38 ?_
  refine lv_iload hx hb dX10_sees_41 (lv_at hl 0 rfl) ?_
  refine va_iald hx hb hK hP 2 0 rfl rfl (by unfold vp_in; decide) dX10_sees_43 ?_
  refine zi (y := (f 5)) (by rfl) ?_
  refine lv_i2l (v := ((f 5)).toInt64) hx hb dX10_sees_44 rfl ?_
  refine lv_ladd hx hb dX10_sees_45 ?_
  refine lv_goto (tgt := 50) hx hb dX10_sees_46 (by decide) ?_
  refine lv_topl (fun z_27 ez_27 => ?_)
  refine lv_lstore_n (lv' := [(3, .long z_27), (9, .int 5), (7, .long 1), (5, .long 1), (0, .ref mm), (1, .int w), (2, .int 3)]) hx hb dX10_sees_50 rfl hl (by decide) rfl (fun ls hl => ?_)
  refine lv_iinc (v := 6) (lv' := [(9, .int 6), (3, .long z_27), (7, .long 1), (5, .long 1), (0, .ref mm), (1, .int w), (2, .int 3)]) hx hb dX10_sees_51 hl (k := 1) rfl (by decide) (by decide) rfl (fun ls hl => ?_)
  refine lv_goto (tgt := 11) hx hb dX10_sees_54 (by decide) ?_
  refine lv_iload hx hb dX10_sees_11 (lv_at hl 0 rfl) ?_
  refine lv_bipush (v := 6) hx hb dX10_sees_13 (by decide) ?_
  refine lv_icmp_ge (tgt := 57) hx hb dX10_sees_15 (by decide) (fun _ => ?_) (fun c_28 => absurd (by decide) c_28)
  refine lv_aload_n hx hb dX10_sees_57 rfl (lv_at hl 4 rfl) ?_
  refine va_get (D := (dC, dI)) (ci := 10) (v := .int 0) (C := RX10) (T := TX10) (N := 40) hx hb hts hiX10 hown hK hP 0 rfl rfl 23 (by decide) (hts (.fieldLink RX10 174 "WatchedProgramsModel" "came" "I") (by decide +kernel)) (fun _ h9 => h9) rfl dX10_sees_58 ?_
  refine lv_bipush (v := 20) hx hb dX10_sees_61 (by decide) ?_
  refine vp_callSi (va_Run.run (va_runS (As := [.int 0, .int 20]) (rest := []) ⟨hx, hb, hml, hown, hts⟩ (m_least l dC dI cI cJ cS   ) (va_cwS 2 hts gX10_sees_X10_least rfl rfl rfl (by decide +kernel) ⟨Nat.le_of_ble_eq_true rfl, Nat.le_of_ble_eq_true rfl⟩) (preR (hP.sub (ws' := []) [] rfl) hE) rfl rfl hl.1 rfl (lv_room (Nat.le_of_ble_eq_true rfl)) dX10_sees_63 ⟨by decide +kernel, by decide +kernel⟩)) (fun r_29 hr_30 => ?_)
  obtain rfl := hr_30
  refine lv_istore (lv' := [(9, .int 0), (3, .long z_27), (7, .long 1), (5, .long 1), (0, .ref mm), (1, .int w), (2, .int 3)]) hx hb dX10_sees_66 hl (by decide) rfl (fun ls hl => ?_)
  refine lv_iconst (v := 0) hx hb dX10_sees_68 (by decide) ?_
  refine lv_istore (lv' := [(10, .int 0), (9, .int 0), (3, .long z_27), (7, .long 1), (5, .long 1), (0, .ref mm), (1, .int w), (2, .int 3)]) hx hb dX10_sees_69 hl (by decide) rfl (fun ls hl => ?_)
  refine lv_iload hx hb dX10_sees_71 (lv_at hl 0 rfl) ?_
  refine lv_iload hx hb dX10_sees_73 (lv_at hl 1 rfl) ?_
  refine lv_icmp_ge (tgt := 168) hx hb dX10_sees_75 (by decide) (fun _ => ?_) (fun c_31 => absurd (by decide) c_31)
  refine lv_aload_n hx hb dX10_sees_168 rfl (lv_at hl 5 rfl) ?_
  refine va_get (D := (dC, dI)) (ci := 10) (v := .ref sgt) (C := RX10) (T := TX10) (N := 40) hx hb hts hiX10 hown hK hP 0 rfl rfl 36 (by decide) (hts (.fieldLink RX10 74 "WatchedProgramsModel" "sight" "[J") (by decide +kernel)) (fun _ h9 => h9) rfl dX10_sees_169 ?_
  refine lv_iload_n hx hb dX10_sees_172 rfl (lv_at hl 7 rfl) ?_
  refine lv_lload_n hx hb dX10_sees_173 rfl (lv_at hl 2 rfl) ?_
  refine va_last hx hb hK hP hD hS 3 1 rfl rfl (by unfold vp_in; decide) dX10_sees_174 (fun H locs hP hD hS => ?_)
  have hP : va_P (dC, dI) vwCl [(mm, .inr (10, [.int 0, .ref lev, .ref txt, .int 0, .int 0, .int 0, .int 0, .int 0, .int 0, .int 0, .int 0, .ref stm, .ref sm, .int 0, .ref sgn, .ref vls, .ref opn, .ref opp, .ref bke, .ref bko, .ref bkl, .ref cel, .int 0, .int 0, .ref tap, .ref tpl, .int 0, .int 0, .ref rtp, .ref rlv, .int 0, .ref sen, .ref hpo, .ref hpm, .ref bgn, .ref chn, .ref sgt, .int sc, .int hp, .ref rsd])), (lev, aI cI 6 (fun _ => 0)), (cel, aI cI 6 f), (sgt, aJ cJ 6 (vp_updL g 3 z_27))] H := hP
  have hD : va_D A [(mm, .inr (10, [.int 0, .ref lev, .ref txt, .int 0, .int 0, .int 0, .int 0, .int 0, .int 0, .int 0, .int 0, .ref stm, .ref sm, .int 0, .ref sgn, .ref vls, .ref opn, .ref opp, .ref bke, .ref bko, .ref bkl, .ref cel, .int 0, .int 0, .ref tap, .ref tpl, .int 0, .int 0, .ref rtp, .ref rlv, .int 0, .ref sen, .ref hpo, .ref hpm, .ref bgn, .ref chn, .ref sgt, .int sc, .int hp, .ref rsd])), (lev, aI cI 6 (fun _ => 0)), (cel, aI cI 6 f), (sgt, aJ cJ 6 (vp_updL g 3 z_27))] := hD
  refine lv_aload_n hx hb dX10_sees_175 rfl (lv_at hl 5 rfl) ?_
  refine va_get (D := (dC, dI)) (ci := 10) (v := .ref sgt) (C := RX10) (T := TX10) (N := 40) hx hb hts hiX10 hown hK hP 0 rfl rfl 36 (by decide) (hts (.fieldLink RX10 74 "WatchedProgramsModel" "sight" "[J") (by decide +kernel)) (fun _ h9 => h9) rfl dX10_sees_176 ?_
  refine lv_iload_n hx hb dX10_sees_179 rfl (lv_at hl 7 rfl) ?_
  refine lv_iconst (v := 1) hx hb dX10_sees_180 (by decide) ?_
  refine lv_iadd hx hb dX10_sees_181 ?_
  refine zi (y := 4) (by decide) ?_
  refine lv_lload hx hb dX10_sees_182 (lv_at hl 4 rfl) ?_
  refine va_last hx hb hK hP hD hS 3 1 rfl rfl (by unfold vp_in; decide) dX10_sees_184 (fun H locs hP hD hS => ?_)
  have hP : va_P (dC, dI) vwCl [(mm, .inr (10, [.int 0, .ref lev, .ref txt, .int 0, .int 0, .int 0, .int 0, .int 0, .int 0, .int 0, .int 0, .ref stm, .ref sm, .int 0, .ref sgn, .ref vls, .ref opn, .ref opp, .ref bke, .ref bko, .ref bkl, .ref cel, .int 0, .int 0, .ref tap, .ref tpl, .int 0, .int 0, .ref rtp, .ref rlv, .int 0, .ref sen, .ref hpo, .ref hpm, .ref bgn, .ref chn, .ref sgt, .int sc, .int hp, .ref rsd])), (lev, aI cI 6 (fun _ => 0)), (cel, aI cI 6 f), (sgt, aJ cJ 6 (vp_updL (vp_updL g 3 z_27) 4 1))] H := hP
  have hD : va_D A [(mm, .inr (10, [.int 0, .ref lev, .ref txt, .int 0, .int 0, .int 0, .int 0, .int 0, .int 0, .int 0, .int 0, .ref stm, .ref sm, .int 0, .ref sgn, .ref vls, .ref opn, .ref opp, .ref bke, .ref bko, .ref bkl, .ref cel, .int 0, .int 0, .ref tap, .ref tpl, .int 0, .int 0, .ref rtp, .ref rlv, .int 0, .ref sen, .ref hpo, .ref hpm, .ref bgn, .ref chn, .ref sgt, .int sc, .int hp, .ref rsd])), (lev, aI cI 6 (fun _ => 0)), (cel, aI cI 6 f), (sgt, aJ cJ 6 (vp_updL (vp_updL g 3 z_27) 4 1))] := hD
  refine lv_aload_n hx hb dX10_sees_185 rfl (lv_at hl 5 rfl) ?_
  refine va_get (D := (dC, dI)) (ci := 10) (v := .ref sgt) (C := RX10) (T := TX10) (N := 40) hx hb hts hiX10 hown hK hP 0 rfl rfl 36 (by decide) (hts (.fieldLink RX10 74 "WatchedProgramsModel" "sight" "[J") (by decide +kernel)) (fun _ h9 => h9) rfl dX10_sees_186 ?_
  refine lv_iload_n hx hb dX10_sees_189 rfl (lv_at hl 7 rfl) ?_
  refine lv_iconst (v := 2) hx hb dX10_sees_190 (by decide) ?_
  refine lv_iadd hx hb dX10_sees_191 ?_
  refine zi (y := 5) (by decide) ?_
  refine lv_lload hx hb dX10_sees_192 (lv_at hl 3 rfl) ?_
  refine va_last hx hb hK hP hD hS 3 1 rfl rfl (by unfold vp_in; decide) dX10_sees_194 (fun H locs hP hD hS => ?_)
  have hP : va_P (dC, dI) vwCl [(mm, .inr (10, [.int 0, .ref lev, .ref txt, .int 0, .int 0, .int 0, .int 0, .int 0, .int 0, .int 0, .int 0, .ref stm, .ref sm, .int 0, .ref sgn, .ref vls, .ref opn, .ref opp, .ref bke, .ref bko, .ref bkl, .ref cel, .int 0, .int 0, .ref tap, .ref tpl, .int 0, .int 0, .ref rtp, .ref rlv, .int 0, .ref sen, .ref hpo, .ref hpm, .ref bgn, .ref chn, .ref sgt, .int sc, .int hp, .ref rsd])), (lev, aI cI 6 (fun _ => 0)), (cel, aI cI 6 f), (sgt, aJ cJ 6 (vp_updL (vp_updL (vp_updL g 3 z_27) 4 1) 5 1))] H := hP
  have hD : va_D A [(mm, .inr (10, [.int 0, .ref lev, .ref txt, .int 0, .int 0, .int 0, .int 0, .int 0, .int 0, .int 0, .int 0, .ref stm, .ref sm, .int 0, .ref sgn, .ref vls, .ref opn, .ref opp, .ref bke, .ref bko, .ref bkl, .ref cel, .int 0, .int 0, .ref tap, .ref tpl, .int 0, .int 0, .ref rtp, .ref rlv, .int 0, .ref sen, .ref hpo, .ref hpm, .ref bgn, .ref chn, .ref sgt, .int sc, .int hp, .ref rsd])), (lev, aI cI 6 (fun _ => 0)), (cel, aI cI 6 f), (sgt, aJ cJ 6 (vp_updL (vp_updL (vp_updL g 3 z_27) 4 1) 5 1))] := hD
  have hP9 := hP.sub (ws' := [(mm, .inr (10, [.int 0, .ref lev, .ref txt, .int 0, .int 0, .int 0, .int 0, .int 0, .int 0, .int 0, .int 0, .ref stm, .ref sm, .int 0, .ref sgn, .ref vls, .ref opn, .ref opp, .ref bke, .ref bko, .ref bkl, .ref cel, .int 0, .int 0, .ref tap, .ref tpl, .int 0, .int 0, .ref rtp, .ref rlv, .int 0, .ref sen, .ref hpo, .ref hpm, .ref bgn, .ref chn, .ref sgt, .int sc, .int hp, .ref rsd])), (lev, aI cI 6 (fun _ => 0)), (cel, aI cI 6 f), (sgt, aJ cJ 6 (vp_updL (vp_updL (vp_updL g 3 z_27) 4 1) 5 1))]) [0, 1, 2, 3] rfl
  have hD9 := hD.sub (ws' := [(mm, .inr (10, [.int 0, .ref lev, .ref txt, .int 0, .int 0, .int 0, .int 0, .int 0, .int 0, .int 0, .int 0, .ref stm, .ref sm, .int 0, .ref sgn, .ref vls, .ref opn, .ref opp, .ref bke, .ref bko, .ref bkl, .ref cel, .int 0, .int 0, .ref tap, .ref tpl, .int 0, .int 0, .ref rtp, .ref rlv, .int 0, .ref sen, .ref hpo, .ref hpm, .ref bgn, .ref chn, .ref sgt, .int sc, .int hp, .ref rsd])), (lev, aI cI 6 (fun _ => 0)), (cel, aI cI 6 f), (sgt, aJ cJ 6 (vp_updL (vp_updL (vp_updL g 3 z_27) 4 1) 5 1))]) [0, 1, 2, 3] (by decide) rfl
  exact W.vret hx hb hr (fun tt_ ht hW => ⟨⟨((vp_updL (vp_updL (vp_updL g 3 z_27) 4 1) 5 1)), rfl, trivial, by rw [ht]; exact hP9, hD9⟩, hS.F ht⟩) hS.2.2 dX10_sees_195
set_option maxHeartbeats 1000000 in
set_option maxRecDepth 100000 in
theorem m_clears (l : Launch) (dC : Nat → ClassId) (dI : Nat → Nat → Nat) (cI cJ cS : ClassId) (sz : Nat) (mm : Nat) (lev : Nat) (txt : Nat) (stm : Nat) (sm : Nat) (sgn : Nat) (vls : Nat) (opn : Nat) (opp : Nat) (bke : Nat) (bko : Nat) (bkl : Nat) (cel : Nat) (tap : Nat) (tpl : Nat) (rtp : Nat) (rlv : Nat) (sen : Nat) (hpo : Nat) (hpm : Nat) (bgn : Nat) (chn : Nat) (sgt : Nat) (sc : Int32) (hp : Int32) (rsd : Nat) (b : Nat → Int32) (g : Nat → Int64)  : Met l yX10_clears wsX10_clears ({ frames := 0, cells := 0, slots := 0, locals := 0 }) (va_Pc [.ref mm, .int 1] (PE dC dI cI cJ cS [(mm, .inr (10, [.int 0, .ref lev, .ref txt, .int 0, .int 0, .int 0, .int 0, .int 0, .int 0, .int 0, .int 0, .ref stm, .ref sm, .int 0, .ref sgn, .ref vls, .ref opn, .ref opp, .ref bke, .ref bko, .ref bkl, .ref cel, .int 0, .int 0, .ref tap, .ref tpl, .int 0, .int 0, .ref rtp, .ref rlv, .int 0, .ref sen, .ref hpo, .ref hpm, .ref bgn, .ref chn, .ref sgt, .int sc, .int hp, .ref rsd])), (bgn, aI cI 8192 b), (sgt, aJ cJ 6 g)] sz)) (va_Qv (fun (gs : Nat → Int64) => True) (BE dC dI (va_A [(mm, .inr (10, [.int 0, .ref lev, .ref txt, .int 0, .int 0, .int 0, .int 0, .int 0, .int 0, .int 0, .int 0, .ref stm, .ref sm, .int 0, .ref sgn, .ref vls, .ref opn, .ref opp, .ref bke, .ref bko, .ref bkl, .ref cel, .int 0, .int 0, .ref tap, .ref tpl, .int 0, .int 0, .ref rtp, .ref rlv, .int 0, .ref sen, .ref hpo, .ref hpm, .ref bgn, .ref chn, .ref sgt, .int sc, .int hp, .ref rsd])), (bgn, aI cI 8192 b), (sgt, aJ cJ 6 g)] sz) (fun (gs : Nat → Int64) => [(mm, .inr (10, [.int 0, .ref lev, .ref txt, .int 0, .int 0, .int 0, .int 0, .int 0, .int 0, .int 0, .int 0, .ref stm, .ref sm, .int 0, .ref sgn, .ref vls, .ref opn, .ref opp, .ref bke, .ref bko, .ref bkl, .ref cel, .int 0, .int 0, .ref tap, .ref tpl, .int 0, .int 0, .ref rtp, .ref rlv, .int 0, .ref sen, .ref hpo, .ref hpm, .ref bgn, .ref chn, .ref sgt, .int 1, .int 0, .ref rsd])), (bgn, aI cI 8192 (upd (upd b 0 (-9)) 1 (-9))), (sgt, aJ cJ 6 gs)])) (va_A [(mm, .inr (10, [.int 0, .ref lev, .ref txt, .int 0, .int 0, .int 0, .int 0, .int 0, .int 0, .int 0, .int 0, .ref stm, .ref sm, .int 0, .ref sgn, .ref vls, .ref opn, .ref opp, .ref bke, .ref bko, .ref bkl, .ref cel, .int 0, .int 0, .ref tap, .ref tpl, .int 0, .int 0, .ref rtp, .ref rlv, .int 0, .ref sen, .ref hpo, .ref hpm, .ref bgn, .ref chn, .ref sgt, .int sc, .int hp, .ref rsd])), (bgn, aI cI 8192 b), (sgt, aJ cJ 6 g)] sz)) 0 0 (va_A [(mm, .inr (10, [.int 0, .ref lev, .ref txt, .int 0, .int 0, .int 0, .int 0, .int 0, .int 0, .int 0, .int 0, .ref stm, .ref sm, .int 0, .ref sgn, .ref vls, .ref opn, .ref opp, .ref bke, .ref bko, .ref bkl, .ref cel, .int 0, .int 0, .ref tap, .ref tpl, .int 0, .int 0, .ref rtp, .ref rlv, .int 0, .ref sen, .ref hpo, .ref hpm, .ref bgn, .ref chn, .ref sgt, .int sc, .int hp, .ref rsd])), (bgn, aI cI 8192 b), (sgt, aJ cJ 6 g)] sz) := by
  refine Met.ofW (cc := cX10_clears) (maxL := 3) (ret := none) (by decide) rfl ?_
  intro pp_ ee_ ss_ mm_ args below meth cc_ s₁ B hml hv
  obtain ⟨rfl, hsz, hP, hE, hD0⟩ := hv
  have hx := B.exec
  have hb := B.bytes
  have hr := B.returns
  have hts := atoms_spec (ws := wsX10_clears) B.pre
  have hown : ss_.vm.findClass RX10 = some mm_.cls := findClass_of_methodNamed B.named
  have hlocks := B.notSynchronized
  have hK := hE.1
  have hiX10 : ∀ w ∈ wsX100, w ∈ wsX10_clears := by decide +kernel
  subst hsz
  have hD := hD0.self (sz := ss_.heap.size)
  generalize hAe : va_A [(mm, .inr (10, [.int 0, .ref lev, .ref txt, .int 0, .int 0, .int 0, .int 0, .int 0, .int 0, .int 0, .int 0, .ref stm, .ref sm, .int 0, .ref sgn, .ref vls, .ref opn, .ref opp, .ref bke, .ref bko, .ref bkl, .ref cel, .int 0, .int 0, .ref tap, .ref tpl, .int 0, .int 0, .ref rtp, .ref rlv, .int 0, .ref sen, .ref hpo, .ref hpm, .ref bgn, .ref chn, .ref sgt, .int sc, .int hp, .ref rsd])), (bgn, aI cI 8192 b), (sgt, aJ cJ 6 g)] ss_.heap.size = A at hD ⊢
  have hA : ∀ q : Nat, ss_.heap.size ≤ q → A q := fun q h => by rw [← hAe]; exact Or.inr h
  have hS : va_S A ss_.heap ss_.heap [] := va_S.rf
  have hP : va_P (dC, dI) vwCl [(mm, .inr (10, [.int 0, .ref lev, .ref txt, .int 0, .int 0, .int 0, .int 0, .int 0, .int 0, .int 0, .int 0, .ref stm, .ref sm, .int 0, .ref sgn, .ref vls, .ref opn, .ref opp, .ref bke, .ref bko, .ref bkl, .ref cel, .int 0, .int 0, .ref tap, .ref tpl, .int 0, .int 0, .ref rtp, .ref rlv, .int 0, .ref sen, .ref hpo, .ref hpm, .ref bgn, .ref chn, .ref sgt, .int sc, .int hp, .ref rsd])), (bgn, aI cI 8192 b), (sgt, aJ cJ 6 g)] ss_.heap := hP
  have hl := lv_entry ([.ref mm, .int 1]) (n := 3) (Nat.le_of_ble_eq_true rfl)
  rw [lg_entry_eq]
  generalize (lg_sl ([.ref mm, .int 1]) ++ List.replicate (3 - (lg_sl ([.ref mm, .int 1])).length) Slot.unset).toArray = ls at hl ⊢
  have hl : lv_has ls 3 [(0, .ref mm), (1, .int 1)] := hl
  refine lv_aload_n hx hb dX10_clears_0 rfl (lv_at hl 0 rfl) ?_
  refine lv_iload_n hx hb dX10_clears_1 rfl (lv_at hl 1 rfl) ?_
  refine va_put (D := (dC, dI)) (ci := 10) (v := .int 1) (ty := .int) (C := RX10) (T := TX10) (N := 40) hx hb hts hiX10 tyX10 tyX10_ok nmX10 hown hK hP hD hS 0 rfl rfl 37 (by decide) (hts (.fieldLink RX10 210 "WatchedProgramsModel" "secrets" "I") (by decide +kernel)) (fun _ h9 => h9) rfl (by decide +kernel) rfl rfl (Nat.le_of_ble_eq_true rfl) dX10_clears_2 (fun H locs hP hD hS => ?_)
  have hP : va_P (dC, dI) vwCl [(mm, .inr (10, [.int 0, .ref lev, .ref txt, .int 0, .int 0, .int 0, .int 0, .int 0, .int 0, .int 0, .int 0, .ref stm, .ref sm, .int 0, .ref sgn, .ref vls, .ref opn, .ref opp, .ref bke, .ref bko, .ref bkl, .ref cel, .int 0, .int 0, .ref tap, .ref tpl, .int 0, .int 0, .ref rtp, .ref rlv, .int 0, .ref sen, .ref hpo, .ref hpm, .ref bgn, .ref chn, .ref sgt, .int 1, .int hp, .ref rsd])), (bgn, aI cI 8192 b), (sgt, aJ cJ 6 g)] H := hP
  have hD : va_D A [(mm, .inr (10, [.int 0, .ref lev, .ref txt, .int 0, .int 0, .int 0, .int 0, .int 0, .int 0, .int 0, .int 0, .ref stm, .ref sm, .int 0, .ref sgn, .ref vls, .ref opn, .ref opp, .ref bke, .ref bko, .ref bkl, .ref cel, .int 0, .int 0, .ref tap, .ref tpl, .int 0, .int 0, .ref rtp, .ref rlv, .int 0, .ref sen, .ref hpo, .ref hpm, .ref bgn, .ref chn, .ref sgt, .int 1, .int hp, .ref rsd])), (bgn, aI cI 8192 b), (sgt, aJ cJ 6 g)] := hD
  refine lv_aload_n hx hb dX10_clears_5 rfl (lv_at hl 0 rfl) ?_
  refine lv_iconst (v := 0) hx hb dX10_clears_6 (by decide) ?_
  refine va_put (D := (dC, dI)) (ci := 10) (v := .int 0) (ty := .int) (C := RX10) (T := TX10) (N := 40) hx hb hts hiX10 tyX10 tyX10_ok nmX10 hown hK hP hD hS 0 rfl rfl 38 (by decide) (hts (.fieldLink RX10 216 "WatchedProgramsModel" "heaps" "I") (by decide +kernel)) (fun _ h9 => h9) rfl (by decide +kernel) rfl rfl (Nat.le_of_ble_eq_true rfl) dX10_clears_7 (fun H locs hP hD hS => ?_)
  have hP : va_P (dC, dI) vwCl [(mm, .inr (10, [.int 0, .ref lev, .ref txt, .int 0, .int 0, .int 0, .int 0, .int 0, .int 0, .int 0, .int 0, .ref stm, .ref sm, .int 0, .ref sgn, .ref vls, .ref opn, .ref opp, .ref bke, .ref bko, .ref bkl, .ref cel, .int 0, .int 0, .ref tap, .ref tpl, .int 0, .int 0, .ref rtp, .ref rlv, .int 0, .ref sen, .ref hpo, .ref hpm, .ref bgn, .ref chn, .ref sgt, .int 1, .int 0, .ref rsd])), (bgn, aI cI 8192 b), (sgt, aJ cJ 6 g)] H := hP
  have hD : va_D A [(mm, .inr (10, [.int 0, .ref lev, .ref txt, .int 0, .int 0, .int 0, .int 0, .int 0, .int 0, .int 0, .int 0, .ref stm, .ref sm, .int 0, .ref sgn, .ref vls, .ref opn, .ref opp, .ref bke, .ref bko, .ref bkl, .ref cel, .int 0, .int 0, .ref tap, .ref tpl, .int 0, .int 0, .ref rtp, .ref rlv, .int 0, .ref sen, .ref hpo, .ref hpm, .ref bgn, .ref chn, .ref sgt, .int 1, .int 0, .ref rsd])), (bgn, aI cI 8192 b), (sgt, aJ cJ 6 g)] := hD
  refine lv_iconst (v := 0) hx hb dX10_clears_10 (by decide) ?_
  refine lv_istore_n (lv' := [(2, .int 0), (0, .ref mm), (1, .int 1)]) hx hb dX10_clears_11 rfl hl (by decide) rfl (fun ls hl => ?_)
  refine lv_iload_n hx hb dX10_clears_12 rfl (lv_at hl 0 rfl) ?_
  refine lv_iconst (v := 2) hx hb dX10_clears_13 (by decide) ?_
  refine lv_iload_n hx hb dX10_clears_14 rfl (lv_at hl 2 rfl) ?_
  refine lv_imul hx hb dX10_clears_15 ?_
  refine zi (y := 2) (by decide) ?_
  refine lv_icmp_ge (tgt := 33) hx hb dX10_clears_16 (by decide) (fun c_1 => absurd c_1 (by decide)) (fun _ => ?_)
  refine lv_aload_n hx hb dX10_clears_19 rfl (lv_at hl 1 rfl) ?_
  refine va_get (D := (dC, dI)) (ci := 10) (v := .ref bgn) (C := RX10) (T := TX10) (N := 40) hx hb hts hiX10 hown hK hP 0 rfl rfl 34 (by decide) (hts (.fieldLink RX10 68 "WatchedProgramsModel" "begin" "[I") (by decide +kernel)) (fun _ h9 => h9) rfl dX10_clears_20 ?_
  refine lv_iload_n hx hb dX10_clears_23 rfl (lv_at hl 0 rfl) ?_
  refine lv_bipush (v := (-9)) hx hb dX10_clears_24 (by decide) ?_
  refine va_iast hx hb hK hP hD hS 1 0 rfl rfl (by unfold vp_in; decide) dX10_clears_26 (fun H locs hP hD hS => ?_)
  have hP : va_P (dC, dI) vwCl [(mm, .inr (10, [.int 0, .ref lev, .ref txt, .int 0, .int 0, .int 0, .int 0, .int 0, .int 0, .int 0, .int 0, .ref stm, .ref sm, .int 0, .ref sgn, .ref vls, .ref opn, .ref opp, .ref bke, .ref bko, .ref bkl, .ref cel, .int 0, .int 0, .ref tap, .ref tpl, .int 0, .int 0, .ref rtp, .ref rlv, .int 0, .ref sen, .ref hpo, .ref hpm, .ref bgn, .ref chn, .ref sgt, .int 1, .int 0, .ref rsd])), (bgn, aI cI 8192 (upd b 0 (-9))), (sgt, aJ cJ 6 g)] H := hP
  have hD : va_D A [(mm, .inr (10, [.int 0, .ref lev, .ref txt, .int 0, .int 0, .int 0, .int 0, .int 0, .int 0, .int 0, .int 0, .ref stm, .ref sm, .int 0, .ref sgn, .ref vls, .ref opn, .ref opp, .ref bke, .ref bko, .ref bkl, .ref cel, .int 0, .int 0, .ref tap, .ref tpl, .int 0, .int 0, .ref rtp, .ref rlv, .int 0, .ref sen, .ref hpo, .ref hpm, .ref bgn, .ref chn, .ref sgt, .int 1, .int 0, .ref rsd])), (bgn, aI cI 8192 (upd b 0 (-9))), (sgt, aJ cJ 6 g)] := hD
  refine lv_iinc (v := 1) (lv' := [(2, .int 1), (0, .ref mm), (1, .int 1)]) hx hb dX10_clears_27 hl (k := 0) rfl (by decide) (by decide) rfl (fun ls hl => ?_)
  refine lv_goto (tgt := 12) hx hb dX10_clears_30 (by decide) ?_
  refine lv_iload_n hx hb dX10_clears_12 rfl (lv_at hl 0 rfl) ?_
  refine lv_iconst (v := 2) hx hb dX10_clears_13 (by decide) ?_
  refine lv_iload_n hx hb dX10_clears_14 rfl (lv_at hl 2 rfl) ?_
  refine lv_imul hx hb dX10_clears_15 ?_
  refine zi (y := 2) (by decide) ?_
  refine lv_icmp_ge (tgt := 33) hx hb dX10_clears_16 (by decide) (fun c_2 => absurd c_2 (by decide)) (fun _ => ?_)
  refine lv_aload_n hx hb dX10_clears_19 rfl (lv_at hl 1 rfl) ?_
  refine va_get (D := (dC, dI)) (ci := 10) (v := .ref bgn) (C := RX10) (T := TX10) (N := 40) hx hb hts hiX10 hown hK hP 0 rfl rfl 34 (by decide) (hts (.fieldLink RX10 68 "WatchedProgramsModel" "begin" "[I") (by decide +kernel)) (fun _ h9 => h9) rfl dX10_clears_20 ?_
  refine lv_iload_n hx hb dX10_clears_23 rfl (lv_at hl 0 rfl) ?_
  refine lv_bipush (v := (-9)) hx hb dX10_clears_24 (by decide) ?_
  refine va_iast hx hb hK hP hD hS 1 0 rfl rfl (by unfold vp_in; decide) dX10_clears_26 (fun H locs hP hD hS => ?_)
  have hP : va_P (dC, dI) vwCl [(mm, .inr (10, [.int 0, .ref lev, .ref txt, .int 0, .int 0, .int 0, .int 0, .int 0, .int 0, .int 0, .int 0, .ref stm, .ref sm, .int 0, .ref sgn, .ref vls, .ref opn, .ref opp, .ref bke, .ref bko, .ref bkl, .ref cel, .int 0, .int 0, .ref tap, .ref tpl, .int 0, .int 0, .ref rtp, .ref rlv, .int 0, .ref sen, .ref hpo, .ref hpm, .ref bgn, .ref chn, .ref sgt, .int 1, .int 0, .ref rsd])), (bgn, aI cI 8192 (upd (upd b 0 (-9)) 1 (-9))), (sgt, aJ cJ 6 g)] H := hP
  have hD : va_D A [(mm, .inr (10, [.int 0, .ref lev, .ref txt, .int 0, .int 0, .int 0, .int 0, .int 0, .int 0, .int 0, .int 0, .ref stm, .ref sm, .int 0, .ref sgn, .ref vls, .ref opn, .ref opp, .ref bke, .ref bko, .ref bkl, .ref cel, .int 0, .int 0, .ref tap, .ref tpl, .int 0, .int 0, .ref rtp, .ref rlv, .int 0, .ref sen, .ref hpo, .ref hpm, .ref bgn, .ref chn, .ref sgt, .int 1, .int 0, .ref rsd])), (bgn, aI cI 8192 (upd (upd b 0 (-9)) 1 (-9))), (sgt, aJ cJ 6 g)] := hD
  refine lv_iinc (v := 2) (lv' := [(2, .int 2), (0, .ref mm), (1, .int 1)]) hx hb dX10_clears_27 hl (k := 0) rfl (by decide) (by decide) rfl (fun ls hl => ?_)
  refine lv_goto (tgt := 12) hx hb dX10_clears_30 (by decide) ?_
  refine lv_iload_n hx hb dX10_clears_12 rfl (lv_at hl 0 rfl) ?_
  refine lv_iconst (v := 2) hx hb dX10_clears_13 (by decide) ?_
  refine lv_iload_n hx hb dX10_clears_14 rfl (lv_at hl 2 rfl) ?_
  refine lv_imul hx hb dX10_clears_15 ?_
  refine zi (y := 2) (by decide) ?_
  refine lv_icmp_ge (tgt := 33) hx hb dX10_clears_16 (by decide) (fun _ => ?_) (fun c_3 => absurd (by decide) c_3)
  refine lv_iconst (v := 0) hx hb dX10_clears_33 (by decide) ?_
  refine lv_istore_n (lv' := [(2, .int 0), (0, .ref mm), (1, .int 1)]) hx hb dX10_clears_34 rfl hl (by decide) rfl (fun ls hl => ?_)
  refine lv_iload_n hx hb dX10_clears_35 rfl (lv_at hl 0 rfl) ?_
  refine lv_bipush (v := 6) hx hb dX10_clears_36 (by decide) ?_
  refine lv_icmp_ge (tgt := 54) hx hb dX10_clears_38 (by decide) (fun c_4 => absurd c_4 (by decide)) (fun _ => ?_)
  refine lv_aload_n hx hb dX10_clears_41 rfl (lv_at hl 1 rfl) ?_
  refine va_get (D := (dC, dI)) (ci := 10) (v := .ref sgt) (C := RX10) (T := TX10) (N := 40) hx hb hts hiX10 hown hK hP 0 rfl rfl 36 (by decide) (hts (.fieldLink RX10 74 "WatchedProgramsModel" "sight" "[J") (by decide +kernel)) (fun _ h9 => h9) rfl dX10_clears_42 ?_
  refine lv_iload_n hx hb dX10_clears_45 rfl (lv_at hl 0 rfl) ?_
  refine lv_lconst (v := 0) hx hb dX10_clears_46 (by decide) ?_
  refine va_last hx hb hK hP hD hS 2 1 rfl rfl (by unfold vp_in; decide) dX10_clears_47 (fun H locs hP hD hS => ?_)
  have hP : va_P (dC, dI) vwCl [(mm, .inr (10, [.int 0, .ref lev, .ref txt, .int 0, .int 0, .int 0, .int 0, .int 0, .int 0, .int 0, .int 0, .ref stm, .ref sm, .int 0, .ref sgn, .ref vls, .ref opn, .ref opp, .ref bke, .ref bko, .ref bkl, .ref cel, .int 0, .int 0, .ref tap, .ref tpl, .int 0, .int 0, .ref rtp, .ref rlv, .int 0, .ref sen, .ref hpo, .ref hpm, .ref bgn, .ref chn, .ref sgt, .int 1, .int 0, .ref rsd])), (bgn, aI cI 8192 (upd (upd b 0 (-9)) 1 (-9))), (sgt, aJ cJ 6 (vp_updL g 0 0))] H := hP
  have hD : va_D A [(mm, .inr (10, [.int 0, .ref lev, .ref txt, .int 0, .int 0, .int 0, .int 0, .int 0, .int 0, .int 0, .int 0, .ref stm, .ref sm, .int 0, .ref sgn, .ref vls, .ref opn, .ref opp, .ref bke, .ref bko, .ref bkl, .ref cel, .int 0, .int 0, .ref tap, .ref tpl, .int 0, .int 0, .ref rtp, .ref rlv, .int 0, .ref sen, .ref hpo, .ref hpm, .ref bgn, .ref chn, .ref sgt, .int 1, .int 0, .ref rsd])), (bgn, aI cI 8192 (upd (upd b 0 (-9)) 1 (-9))), (sgt, aJ cJ 6 (vp_updL g 0 0))] := hD
  refine lv_iinc (v := 1) (lv' := [(2, .int 1), (0, .ref mm), (1, .int 1)]) hx hb dX10_clears_48 hl (k := 0) rfl (by decide) (by decide) rfl (fun ls hl => ?_)
  refine lv_goto (tgt := 35) hx hb dX10_clears_51 (by decide) ?_
  refine lv_iload_n hx hb dX10_clears_35 rfl (lv_at hl 0 rfl) ?_
  refine lv_bipush (v := 6) hx hb dX10_clears_36 (by decide) ?_
  refine lv_icmp_ge (tgt := 54) hx hb dX10_clears_38 (by decide) (fun c_5 => absurd c_5 (by decide)) (fun _ => ?_)
  refine lv_aload_n hx hb dX10_clears_41 rfl (lv_at hl 1 rfl) ?_
  refine va_get (D := (dC, dI)) (ci := 10) (v := .ref sgt) (C := RX10) (T := TX10) (N := 40) hx hb hts hiX10 hown hK hP 0 rfl rfl 36 (by decide) (hts (.fieldLink RX10 74 "WatchedProgramsModel" "sight" "[J") (by decide +kernel)) (fun _ h9 => h9) rfl dX10_clears_42 ?_
  refine lv_iload_n hx hb dX10_clears_45 rfl (lv_at hl 0 rfl) ?_
  refine lv_lconst (v := 0) hx hb dX10_clears_46 (by decide) ?_
  refine va_last hx hb hK hP hD hS 2 1 rfl rfl (by unfold vp_in; decide) dX10_clears_47 (fun H locs hP hD hS => ?_)
  have hP : va_P (dC, dI) vwCl [(mm, .inr (10, [.int 0, .ref lev, .ref txt, .int 0, .int 0, .int 0, .int 0, .int 0, .int 0, .int 0, .int 0, .ref stm, .ref sm, .int 0, .ref sgn, .ref vls, .ref opn, .ref opp, .ref bke, .ref bko, .ref bkl, .ref cel, .int 0, .int 0, .ref tap, .ref tpl, .int 0, .int 0, .ref rtp, .ref rlv, .int 0, .ref sen, .ref hpo, .ref hpm, .ref bgn, .ref chn, .ref sgt, .int 1, .int 0, .ref rsd])), (bgn, aI cI 8192 (upd (upd b 0 (-9)) 1 (-9))), (sgt, aJ cJ 6 (vp_updL (vp_updL g 0 0) 1 0))] H := hP
  have hD : va_D A [(mm, .inr (10, [.int 0, .ref lev, .ref txt, .int 0, .int 0, .int 0, .int 0, .int 0, .int 0, .int 0, .int 0, .ref stm, .ref sm, .int 0, .ref sgn, .ref vls, .ref opn, .ref opp, .ref bke, .ref bko, .ref bkl, .ref cel, .int 0, .int 0, .ref tap, .ref tpl, .int 0, .int 0, .ref rtp, .ref rlv, .int 0, .ref sen, .ref hpo, .ref hpm, .ref bgn, .ref chn, .ref sgt, .int 1, .int 0, .ref rsd])), (bgn, aI cI 8192 (upd (upd b 0 (-9)) 1 (-9))), (sgt, aJ cJ 6 (vp_updL (vp_updL g 0 0) 1 0))] := hD
  refine lv_iinc (v := 2) (lv' := [(2, .int 2), (0, .ref mm), (1, .int 1)]) hx hb dX10_clears_48 hl (k := 0) rfl (by decide) (by decide) rfl (fun ls hl => ?_)
  refine lv_goto (tgt := 35) hx hb dX10_clears_51 (by decide) ?_
  refine lv_iload_n hx hb dX10_clears_35 rfl (lv_at hl 0 rfl) ?_
  refine lv_bipush (v := 6) hx hb dX10_clears_36 (by decide) ?_
  refine lv_icmp_ge (tgt := 54) hx hb dX10_clears_38 (by decide) (fun c_6 => absurd c_6 (by decide)) (fun _ => ?_)
  refine lv_aload_n hx hb dX10_clears_41 rfl (lv_at hl 1 rfl) ?_
  refine va_get (D := (dC, dI)) (ci := 10) (v := .ref sgt) (C := RX10) (T := TX10) (N := 40) hx hb hts hiX10 hown hK hP 0 rfl rfl 36 (by decide) (hts (.fieldLink RX10 74 "WatchedProgramsModel" "sight" "[J") (by decide +kernel)) (fun _ h9 => h9) rfl dX10_clears_42 ?_
  refine lv_iload_n hx hb dX10_clears_45 rfl (lv_at hl 0 rfl) ?_
  refine lv_lconst (v := 0) hx hb dX10_clears_46 (by decide) ?_
  refine va_last hx hb hK hP hD hS 2 1 rfl rfl (by unfold vp_in; decide) dX10_clears_47 (fun H locs hP hD hS => ?_)
  have hP : va_P (dC, dI) vwCl [(mm, .inr (10, [.int 0, .ref lev, .ref txt, .int 0, .int 0, .int 0, .int 0, .int 0, .int 0, .int 0, .int 0, .ref stm, .ref sm, .int 0, .ref sgn, .ref vls, .ref opn, .ref opp, .ref bke, .ref bko, .ref bkl, .ref cel, .int 0, .int 0, .ref tap, .ref tpl, .int 0, .int 0, .ref rtp, .ref rlv, .int 0, .ref sen, .ref hpo, .ref hpm, .ref bgn, .ref chn, .ref sgt, .int 1, .int 0, .ref rsd])), (bgn, aI cI 8192 (upd (upd b 0 (-9)) 1 (-9))), (sgt, aJ cJ 6 (vp_updL (vp_updL (vp_updL g 0 0) 1 0) 2 0))] H := hP
  have hD : va_D A [(mm, .inr (10, [.int 0, .ref lev, .ref txt, .int 0, .int 0, .int 0, .int 0, .int 0, .int 0, .int 0, .int 0, .ref stm, .ref sm, .int 0, .ref sgn, .ref vls, .ref opn, .ref opp, .ref bke, .ref bko, .ref bkl, .ref cel, .int 0, .int 0, .ref tap, .ref tpl, .int 0, .int 0, .ref rtp, .ref rlv, .int 0, .ref sen, .ref hpo, .ref hpm, .ref bgn, .ref chn, .ref sgt, .int 1, .int 0, .ref rsd])), (bgn, aI cI 8192 (upd (upd b 0 (-9)) 1 (-9))), (sgt, aJ cJ 6 (vp_updL (vp_updL (vp_updL g 0 0) 1 0) 2 0))] := hD
  refine lv_iinc (v := 3) (lv' := [(2, .int 3), (0, .ref mm), (1, .int 1)]) hx hb dX10_clears_48 hl (k := 0) rfl (by decide) (by decide) rfl (fun ls hl => ?_)
  refine lv_goto (tgt := 35) hx hb dX10_clears_51 (by decide) ?_
  refine lv_iload_n hx hb dX10_clears_35 rfl (lv_at hl 0 rfl) ?_
  refine lv_bipush (v := 6) hx hb dX10_clears_36 (by decide) ?_
  refine lv_icmp_ge (tgt := 54) hx hb dX10_clears_38 (by decide) (fun c_7 => absurd c_7 (by decide)) (fun _ => ?_)
  refine lv_aload_n hx hb dX10_clears_41 rfl (lv_at hl 1 rfl) ?_
  refine va_get (D := (dC, dI)) (ci := 10) (v := .ref sgt) (C := RX10) (T := TX10) (N := 40) hx hb hts hiX10 hown hK hP 0 rfl rfl 36 (by decide) (hts (.fieldLink RX10 74 "WatchedProgramsModel" "sight" "[J") (by decide +kernel)) (fun _ h9 => h9) rfl dX10_clears_42 ?_
  refine lv_iload_n hx hb dX10_clears_45 rfl (lv_at hl 0 rfl) ?_
  refine lv_lconst (v := 0) hx hb dX10_clears_46 (by decide) ?_
  refine va_last hx hb hK hP hD hS 2 1 rfl rfl (by unfold vp_in; decide) dX10_clears_47 (fun H locs hP hD hS => ?_)
  have hP : va_P (dC, dI) vwCl [(mm, .inr (10, [.int 0, .ref lev, .ref txt, .int 0, .int 0, .int 0, .int 0, .int 0, .int 0, .int 0, .int 0, .ref stm, .ref sm, .int 0, .ref sgn, .ref vls, .ref opn, .ref opp, .ref bke, .ref bko, .ref bkl, .ref cel, .int 0, .int 0, .ref tap, .ref tpl, .int 0, .int 0, .ref rtp, .ref rlv, .int 0, .ref sen, .ref hpo, .ref hpm, .ref bgn, .ref chn, .ref sgt, .int 1, .int 0, .ref rsd])), (bgn, aI cI 8192 (upd (upd b 0 (-9)) 1 (-9))), (sgt, aJ cJ 6 (vp_updL (vp_updL (vp_updL (vp_updL g 0 0) 1 0) 2 0) 3 0))] H := hP
  have hD : va_D A [(mm, .inr (10, [.int 0, .ref lev, .ref txt, .int 0, .int 0, .int 0, .int 0, .int 0, .int 0, .int 0, .int 0, .ref stm, .ref sm, .int 0, .ref sgn, .ref vls, .ref opn, .ref opp, .ref bke, .ref bko, .ref bkl, .ref cel, .int 0, .int 0, .ref tap, .ref tpl, .int 0, .int 0, .ref rtp, .ref rlv, .int 0, .ref sen, .ref hpo, .ref hpm, .ref bgn, .ref chn, .ref sgt, .int 1, .int 0, .ref rsd])), (bgn, aI cI 8192 (upd (upd b 0 (-9)) 1 (-9))), (sgt, aJ cJ 6 (vp_updL (vp_updL (vp_updL (vp_updL g 0 0) 1 0) 2 0) 3 0))] := hD
  refine lv_iinc (v := 4) (lv' := [(2, .int 4), (0, .ref mm), (1, .int 1)]) hx hb dX10_clears_48 hl (k := 0) rfl (by decide) (by decide) rfl (fun ls hl => ?_)
  refine lv_goto (tgt := 35) hx hb dX10_clears_51 (by decide) ?_
  refine lv_iload_n hx hb dX10_clears_35 rfl (lv_at hl 0 rfl) ?_
  refine lv_bipush (v := 6) hx hb dX10_clears_36 (by decide) ?_
  refine lv_icmp_ge (tgt := 54) hx hb dX10_clears_38 (by decide) (fun c_8 => absurd c_8 (by decide)) (fun _ => ?_)
  refine lv_aload_n hx hb dX10_clears_41 rfl (lv_at hl 1 rfl) ?_
  refine va_get (D := (dC, dI)) (ci := 10) (v := .ref sgt) (C := RX10) (T := TX10) (N := 40) hx hb hts hiX10 hown hK hP 0 rfl rfl 36 (by decide) (hts (.fieldLink RX10 74 "WatchedProgramsModel" "sight" "[J") (by decide +kernel)) (fun _ h9 => h9) rfl dX10_clears_42 ?_
  refine lv_iload_n hx hb dX10_clears_45 rfl (lv_at hl 0 rfl) ?_
  refine lv_lconst (v := 0) hx hb dX10_clears_46 (by decide) ?_
  refine va_last hx hb hK hP hD hS 2 1 rfl rfl (by unfold vp_in; decide) dX10_clears_47 (fun H locs hP hD hS => ?_)
  have hP : va_P (dC, dI) vwCl [(mm, .inr (10, [.int 0, .ref lev, .ref txt, .int 0, .int 0, .int 0, .int 0, .int 0, .int 0, .int 0, .int 0, .ref stm, .ref sm, .int 0, .ref sgn, .ref vls, .ref opn, .ref opp, .ref bke, .ref bko, .ref bkl, .ref cel, .int 0, .int 0, .ref tap, .ref tpl, .int 0, .int 0, .ref rtp, .ref rlv, .int 0, .ref sen, .ref hpo, .ref hpm, .ref bgn, .ref chn, .ref sgt, .int 1, .int 0, .ref rsd])), (bgn, aI cI 8192 (upd (upd b 0 (-9)) 1 (-9))), (sgt, aJ cJ 6 (vp_updL (vp_updL (vp_updL (vp_updL (vp_updL g 0 0) 1 0) 2 0) 3 0) 4 0))] H := hP
  have hD : va_D A [(mm, .inr (10, [.int 0, .ref lev, .ref txt, .int 0, .int 0, .int 0, .int 0, .int 0, .int 0, .int 0, .int 0, .ref stm, .ref sm, .int 0, .ref sgn, .ref vls, .ref opn, .ref opp, .ref bke, .ref bko, .ref bkl, .ref cel, .int 0, .int 0, .ref tap, .ref tpl, .int 0, .int 0, .ref rtp, .ref rlv, .int 0, .ref sen, .ref hpo, .ref hpm, .ref bgn, .ref chn, .ref sgt, .int 1, .int 0, .ref rsd])), (bgn, aI cI 8192 (upd (upd b 0 (-9)) 1 (-9))), (sgt, aJ cJ 6 (vp_updL (vp_updL (vp_updL (vp_updL (vp_updL g 0 0) 1 0) 2 0) 3 0) 4 0))] := hD
  refine lv_iinc (v := 5) (lv' := [(2, .int 5), (0, .ref mm), (1, .int 1)]) hx hb dX10_clears_48 hl (k := 0) rfl (by decide) (by decide) rfl (fun ls hl => ?_)
  refine lv_goto (tgt := 35) hx hb dX10_clears_51 (by decide) ?_
  refine lv_iload_n hx hb dX10_clears_35 rfl (lv_at hl 0 rfl) ?_
  refine lv_bipush (v := 6) hx hb dX10_clears_36 (by decide) ?_
  refine lv_icmp_ge (tgt := 54) hx hb dX10_clears_38 (by decide) (fun c_9 => absurd c_9 (by decide)) (fun _ => ?_)
  refine lv_aload_n hx hb dX10_clears_41 rfl (lv_at hl 1 rfl) ?_
  refine va_get (D := (dC, dI)) (ci := 10) (v := .ref sgt) (C := RX10) (T := TX10) (N := 40) hx hb hts hiX10 hown hK hP 0 rfl rfl 36 (by decide) (hts (.fieldLink RX10 74 "WatchedProgramsModel" "sight" "[J") (by decide +kernel)) (fun _ h9 => h9) rfl dX10_clears_42 ?_
  refine lv_iload_n hx hb dX10_clears_45 rfl (lv_at hl 0 rfl) ?_
  refine lv_lconst (v := 0) hx hb dX10_clears_46 (by decide) ?_
  refine va_last hx hb hK hP hD hS 2 1 rfl rfl (by unfold vp_in; decide) dX10_clears_47 (fun H locs hP hD hS => ?_)
  have hP : va_P (dC, dI) vwCl [(mm, .inr (10, [.int 0, .ref lev, .ref txt, .int 0, .int 0, .int 0, .int 0, .int 0, .int 0, .int 0, .int 0, .ref stm, .ref sm, .int 0, .ref sgn, .ref vls, .ref opn, .ref opp, .ref bke, .ref bko, .ref bkl, .ref cel, .int 0, .int 0, .ref tap, .ref tpl, .int 0, .int 0, .ref rtp, .ref rlv, .int 0, .ref sen, .ref hpo, .ref hpm, .ref bgn, .ref chn, .ref sgt, .int 1, .int 0, .ref rsd])), (bgn, aI cI 8192 (upd (upd b 0 (-9)) 1 (-9))), (sgt, aJ cJ 6 (vp_updL (vp_updL (vp_updL (vp_updL (vp_updL (vp_updL g 0 0) 1 0) 2 0) 3 0) 4 0) 5 0))] H := hP
  have hD : va_D A [(mm, .inr (10, [.int 0, .ref lev, .ref txt, .int 0, .int 0, .int 0, .int 0, .int 0, .int 0, .int 0, .int 0, .ref stm, .ref sm, .int 0, .ref sgn, .ref vls, .ref opn, .ref opp, .ref bke, .ref bko, .ref bkl, .ref cel, .int 0, .int 0, .ref tap, .ref tpl, .int 0, .int 0, .ref rtp, .ref rlv, .int 0, .ref sen, .ref hpo, .ref hpm, .ref bgn, .ref chn, .ref sgt, .int 1, .int 0, .ref rsd])), (bgn, aI cI 8192 (upd (upd b 0 (-9)) 1 (-9))), (sgt, aJ cJ 6 (vp_updL (vp_updL (vp_updL (vp_updL (vp_updL (vp_updL g 0 0) 1 0) 2 0) 3 0) 4 0) 5 0))] := hD
  refine lv_iinc (v := 6) (lv' := [(2, .int 6), (0, .ref mm), (1, .int 1)]) hx hb dX10_clears_48 hl (k := 0) rfl (by decide) (by decide) rfl (fun ls hl => ?_)
  refine lv_goto (tgt := 35) hx hb dX10_clears_51 (by decide) ?_
  refine lv_iload_n hx hb dX10_clears_35 rfl (lv_at hl 0 rfl) ?_
  refine lv_bipush (v := 6) hx hb dX10_clears_36 (by decide) ?_
  refine lv_icmp_ge (tgt := 54) hx hb dX10_clears_38 (by decide) (fun _ => ?_) (fun c_10 => absurd (by decide) c_10)
  have hP9 := hP.sub (ws' := [(mm, .inr (10, [.int 0, .ref lev, .ref txt, .int 0, .int 0, .int 0, .int 0, .int 0, .int 0, .int 0, .int 0, .ref stm, .ref sm, .int 0, .ref sgn, .ref vls, .ref opn, .ref opp, .ref bke, .ref bko, .ref bkl, .ref cel, .int 0, .int 0, .ref tap, .ref tpl, .int 0, .int 0, .ref rtp, .ref rlv, .int 0, .ref sen, .ref hpo, .ref hpm, .ref bgn, .ref chn, .ref sgt, .int 1, .int 0, .ref rsd])), (bgn, aI cI 8192 (upd (upd b 0 (-9)) 1 (-9))), (sgt, aJ cJ 6 (vp_updL (vp_updL (vp_updL (vp_updL (vp_updL (vp_updL g 0 0) 1 0) 2 0) 3 0) 4 0) 5 0))]) [0, 1, 2] rfl
  have hD9 := hD.sub (ws' := [(mm, .inr (10, [.int 0, .ref lev, .ref txt, .int 0, .int 0, .int 0, .int 0, .int 0, .int 0, .int 0, .int 0, .ref stm, .ref sm, .int 0, .ref sgn, .ref vls, .ref opn, .ref opp, .ref bke, .ref bko, .ref bkl, .ref cel, .int 0, .int 0, .ref tap, .ref tpl, .int 0, .int 0, .ref rtp, .ref rlv, .int 0, .ref sen, .ref hpo, .ref hpm, .ref bgn, .ref chn, .ref sgt, .int 1, .int 0, .ref rsd])), (bgn, aI cI 8192 (upd (upd b 0 (-9)) 1 (-9))), (sgt, aJ cJ 6 (vp_updL (vp_updL (vp_updL (vp_updL (vp_updL (vp_updL g 0 0) 1 0) 2 0) 3 0) 4 0) 5 0))]) [0, 1, 2] (by decide) rfl
  exact W.vret hx hb hr (fun tt_ ht hW => ⟨⟨((vp_updL (vp_updL (vp_updL (vp_updL (vp_updL (vp_updL g 0 0) 1 0) 2 0) 3 0) 4 0) 5 0)), rfl, trivial, by rw [ht]; exact hP9, hD9⟩, hS.F ht⟩) hS.2.2 dX10_clears_54
set_option maxHeartbeats 1000000 in
set_option maxRecDepth 100000 in
theorem m_takes (l : Launch) (dC : Nat → ClassId) (dI : Nat → Nat → Nat) (cI cJ cS : ClassId) (sz : Nat) (mm : Nat) (lev : Nat) (txt : Nat) (stm : Nat) (sm : Nat) (sgn : Nat) (vls : Nat) (opn : Nat) (opp : Nat) (bke : Nat) (bko : Nat) (bkl : Nat) (cel : Nat) (tap : Nat) (tpl : Nat) (rtp : Nat) (rlv : Nat) (sen : Nat) (hpo : Nat) (hpm : Nat) (bgn : Nat) (chn : Nat) (sgt : Nat) (rsd : Nat) (g : Nat → Int64) (s : Nat → Int64) (b : Nat → Int32) (c : Nat → Int32) (o : Nat → Int32) (m : Nat → Int32)  : Met l yX10_takes wsX10_takes ({ frames := 0, cells := 0, slots := 0, locals := 0 }) (va_Pc [.ref mm, .int 0] (PE dC dI cI cJ cS [(mm, .inr (10, [.int 0, .ref lev, .ref txt, .int 0, .int 0, .int 0, .int 0, .int 0, .int 0, .int 0, .int 0, .ref stm, .ref sm, .int 0, .ref sgn, .ref vls, .ref opn, .ref opp, .ref bke, .ref bko, .ref bkl, .ref cel, .int 0, .int 0, .ref tap, .ref tpl, .int 0, .int 0, .ref rtp, .ref rlv, .int 0, .ref sen, .ref hpo, .ref hpm, .ref bgn, .ref chn, .ref sgt, .int 1, .int 0, .ref rsd])), (sgt, aJ cJ 6 g), (sen, aJ cJ 24576 s), (bgn, aI cI 8192 (upd (upd b 0 (-9)) 1 (-9))), (chn, aI cI 4096 c), (hpo, aI cI 4096 o), (hpm, aI cI 4096 m)] sz)) (va_Qv (fun (uu : ((Nat → Int64) × (Nat → Int32) × (Nat → Int32))) => True) (BE dC dI (va_A [(mm, .inr (10, [.int 0, .ref lev, .ref txt, .int 0, .int 0, .int 0, .int 0, .int 0, .int 0, .int 0, .int 0, .ref stm, .ref sm, .int 0, .ref sgn, .ref vls, .ref opn, .ref opp, .ref bke, .ref bko, .ref bkl, .ref cel, .int 0, .int 0, .ref tap, .ref tpl, .int 0, .int 0, .ref rtp, .ref rlv, .int 0, .ref sen, .ref hpo, .ref hpm, .ref bgn, .ref chn, .ref sgt, .int 1, .int 0, .ref rsd])), (sgt, aJ cJ 6 g), (sen, aJ cJ 24576 s), (bgn, aI cI 8192 (upd (upd b 0 (-9)) 1 (-9))), (chn, aI cI 4096 c), (hpo, aI cI 4096 o), (hpm, aI cI 4096 m)] sz) (fun (uu : ((Nat → Int64) × (Nat → Int32) × (Nat → Int32))) => [(mm, .inr (10, [.int 0, .ref lev, .ref txt, .int 0, .int 0, .int 0, .int 0, .int 0, .int 0, .int 0, .int 0, .ref stm, .ref sm, .int 0, .ref sgn, .ref vls, .ref opn, .ref opp, .ref bke, .ref bko, .ref bkl, .ref cel, .int 0, .int 0, .ref tap, .ref tpl, .int 0, .int 0, .ref rtp, .ref rlv, .int 0, .ref sen, .ref hpo, .ref hpm, .ref bgn, .ref chn, .ref sgt, .int 1, .int 1, .ref rsd])), (sgt, aJ cJ 6 g), (sen, aJ cJ 24576 uu.1), (bgn, aI cI 8192 uu.2.1), (chn, aI cI 4096 uu.2.2), (hpo, aI cI 4096 (upd o 0 0)), (hpm, aI cI 4096 (upd m 0 1))])) (va_A [(mm, .inr (10, [.int 0, .ref lev, .ref txt, .int 0, .int 0, .int 0, .int 0, .int 0, .int 0, .int 0, .int 0, .ref stm, .ref sm, .int 0, .ref sgn, .ref vls, .ref opn, .ref opp, .ref bke, .ref bko, .ref bkl, .ref cel, .int 0, .int 0, .ref tap, .ref tpl, .int 0, .int 0, .ref rtp, .ref rlv, .int 0, .ref sen, .ref hpo, .ref hpm, .ref bgn, .ref chn, .ref sgt, .int 1, .int 0, .ref rsd])), (sgt, aJ cJ 6 g), (sen, aJ cJ 24576 s), (bgn, aI cI 8192 (upd (upd b 0 (-9)) 1 (-9))), (chn, aI cI 4096 c), (hpo, aI cI 4096 o), (hpm, aI cI 4096 m)] sz)) 0 0 (va_A [(mm, .inr (10, [.int 0, .ref lev, .ref txt, .int 0, .int 0, .int 0, .int 0, .int 0, .int 0, .int 0, .int 0, .ref stm, .ref sm, .int 0, .ref sgn, .ref vls, .ref opn, .ref opp, .ref bke, .ref bko, .ref bkl, .ref cel, .int 0, .int 0, .ref tap, .ref tpl, .int 0, .int 0, .ref rtp, .ref rlv, .int 0, .ref sen, .ref hpo, .ref hpm, .ref bgn, .ref chn, .ref sgt, .int 1, .int 0, .ref rsd])), (sgt, aJ cJ 6 g), (sen, aJ cJ 24576 s), (bgn, aI cI 8192 (upd (upd b 0 (-9)) 1 (-9))), (chn, aI cI 4096 c), (hpo, aI cI 4096 o), (hpm, aI cI 4096 m)] sz) := by
  refine Met.ofW (cc := cX10_takes) (maxL := 6) (ret := none) (by decide) rfl ?_
  intro pp_ ee_ ss_ mm_ args below meth cc_ s₁ B hml hv
  obtain ⟨rfl, hsz, hP, hE, hD0⟩ := hv
  have hx := B.exec
  have hb := B.bytes
  have hr := B.returns
  have hts := atoms_spec (ws := wsX10_takes) B.pre
  have hown : ss_.vm.findClass RX10 = some mm_.cls := findClass_of_methodNamed B.named
  have hlocks := B.notSynchronized
  have hK := hE.1
  have hiX10 : ∀ w ∈ wsX100, w ∈ wsX10_takes := by decide +kernel
  subst hsz
  have hD := hD0.self (sz := ss_.heap.size)
  generalize hAe : va_A [(mm, .inr (10, [.int 0, .ref lev, .ref txt, .int 0, .int 0, .int 0, .int 0, .int 0, .int 0, .int 0, .int 0, .ref stm, .ref sm, .int 0, .ref sgn, .ref vls, .ref opn, .ref opp, .ref bke, .ref bko, .ref bkl, .ref cel, .int 0, .int 0, .ref tap, .ref tpl, .int 0, .int 0, .ref rtp, .ref rlv, .int 0, .ref sen, .ref hpo, .ref hpm, .ref bgn, .ref chn, .ref sgt, .int 1, .int 0, .ref rsd])), (sgt, aJ cJ 6 g), (sen, aJ cJ 24576 s), (bgn, aI cI 8192 (upd (upd b 0 (-9)) 1 (-9))), (chn, aI cI 4096 c), (hpo, aI cI 4096 o), (hpm, aI cI 4096 m)] ss_.heap.size = A at hD ⊢
  have hA : ∀ q : Nat, ss_.heap.size ≤ q → A q := fun q h => by rw [← hAe]; exact Or.inr h
  have hS : va_S A ss_.heap ss_.heap [] := va_S.rf
  have hP : va_P (dC, dI) vwCl [(mm, .inr (10, [.int 0, .ref lev, .ref txt, .int 0, .int 0, .int 0, .int 0, .int 0, .int 0, .int 0, .int 0, .ref stm, .ref sm, .int 0, .ref sgn, .ref vls, .ref opn, .ref opp, .ref bke, .ref bko, .ref bkl, .ref cel, .int 0, .int 0, .ref tap, .ref tpl, .int 0, .int 0, .ref rtp, .ref rlv, .int 0, .ref sen, .ref hpo, .ref hpm, .ref bgn, .ref chn, .ref sgt, .int 1, .int 0, .ref rsd])), (sgt, aJ cJ 6 g), (sen, aJ cJ 24576 s), (bgn, aI cI 8192 (upd (upd b 0 (-9)) 1 (-9))), (chn, aI cI 4096 c), (hpo, aI cI 4096 o), (hpm, aI cI 4096 m)] ss_.heap := hP
  have hl := lv_entry ([.ref mm, .int 0]) (n := 6) (Nat.le_of_ble_eq_true rfl)
  rw [lg_entry_eq]
  generalize (lg_sl ([.ref mm, .int 0]) ++ List.replicate (6 - (lg_sl ([.ref mm, .int 0])).length) Slot.unset).toArray = ls at hl ⊢
  have hl : lv_has ls 6 [(0, .ref mm), (1, .int 0)] := hl
  refine lv_lconst (v := 0) hx hb dX10_takes_0 (by decide) ?_
  refine lv_lstore_n (lv' := [(2, .long 0), (0, .ref mm), (1, .int 0)]) hx hb dX10_takes_1 rfl hl (by decide) rfl (fun ls hl => ?_)
  refine lv_iconst (v := 0) hx hb dX10_takes_2 (by decide) ?_
  refine lv_istore (lv' := [(4, .int 0), (2, .long 0), (0, .ref mm), (1, .int 0)]) hx hb dX10_takes_3 hl (by decide) rfl (fun ls hl => ?_)
  refine lv_iload hx hb dX10_takes_5 (lv_at hl 0 rfl) ?_
  refine lv_bipush (v := 6) hx hb dX10_takes_7 (by decide) ?_
  refine lv_icmp_ge (tgt := 51) hx hb dX10_takes_9 (by decide) (fun c_1 => absurd c_1 (by decide)) (fun _ => ?_)
  refine lv_aload_n hx hb dX10_takes_12 rfl (lv_at hl 2 rfl) ?_
  refine va_get (D := (dC, dI)) (ci := 10) (v := .ref sen) (C := RX10) (T := TX10) (N := 40) hx hb hts hiX10 hown hK hP 0 rfl rfl 31 (by decide) (hts (.fieldLink RX10 58 "WatchedProgramsModel" "seen" "[J") (by decide +kernel)) (fun _ h9 => h9) rfl dX10_takes_13 ?_
  refine lv_bipush (v := 6) hx hb dX10_takes_16 (by decide) ?_
  refine lv_iload_n hx hb dX10_takes_18 rfl (lv_at hl 3 rfl) ?_
  refine lv_imul hx hb dX10_takes_19 ?_
  refine zi (y := 0) (by decide) ?_
  refine lv_iload hx hb dX10_takes_20 (lv_at hl 0 rfl) ?_
  refine lv_iadd hx hb dX10_takes_22 ?_
  refine zi (y := 0) (by decide) ?_
  refine lv_aload_n hx hb dX10_takes_23 rfl (lv_at hl 2 rfl) ?_
  refine va_get (D := (dC, dI)) (ci := 10) (v := .ref sgt) (C := RX10) (T := TX10) (N := 40) hx hb hts hiX10 hown hK hP 0 rfl rfl 36 (by decide) (hts (.fieldLink RX10 74 "WatchedProgramsModel" "sight" "[J") (by decide +kernel)) (fun _ h9 => h9) rfl dX10_takes_24 ?_
  refine lv_iload hx hb dX10_takes_27 (lv_at hl 0 rfl) ?_
  refine va_lald hx hb hK hP 1 1 rfl rfl (by unfold vp_in; decide) dX10_takes_29 ?_
  refine zl (y := (g 0)) (by rfl) ?_
  refine va_last hx hb hK hP hD hS 2 1 rfl rfl (by unfold vp_in; decide) dX10_takes_30 (fun H locs hP hD hS => ?_)
  have hP : va_P (dC, dI) vwCl [(mm, .inr (10, [.int 0, .ref lev, .ref txt, .int 0, .int 0, .int 0, .int 0, .int 0, .int 0, .int 0, .int 0, .ref stm, .ref sm, .int 0, .ref sgn, .ref vls, .ref opn, .ref opp, .ref bke, .ref bko, .ref bkl, .ref cel, .int 0, .int 0, .ref tap, .ref tpl, .int 0, .int 0, .ref rtp, .ref rlv, .int 0, .ref sen, .ref hpo, .ref hpm, .ref bgn, .ref chn, .ref sgt, .int 1, .int 0, .ref rsd])), (sgt, aJ cJ 6 g), (sen, aJ cJ 24576 (vp_updL s 0 (g 0))), (bgn, aI cI 8192 (upd (upd b 0 (-9)) 1 (-9))), (chn, aI cI 4096 c), (hpo, aI cI 4096 o), (hpm, aI cI 4096 m)] H := hP
  have hD : va_D A [(mm, .inr (10, [.int 0, .ref lev, .ref txt, .int 0, .int 0, .int 0, .int 0, .int 0, .int 0, .int 0, .int 0, .ref stm, .ref sm, .int 0, .ref sgn, .ref vls, .ref opn, .ref opp, .ref bke, .ref bko, .ref bkl, .ref cel, .int 0, .int 0, .ref tap, .ref tpl, .int 0, .int 0, .ref rtp, .ref rlv, .int 0, .ref sen, .ref hpo, .ref hpm, .ref bgn, .ref chn, .ref sgt, .int 1, .int 0, .ref rsd])), (sgt, aJ cJ 6 g), (sen, aJ cJ 24576 (vp_updL s 0 (g 0))), (bgn, aI cI 8192 (upd (upd b 0 (-9)) 1 (-9))), (chn, aI cI 4096 c), (hpo, aI cI 4096 o), (hpm, aI cI 4096 m)] := hD
  refine lv_ldc2 (v := 1000003) hx hb hown (hts (.constantLong RX10 206 (1000003)) (by decide +kernel)) dX10_takes_31 ?_
  refine lv_lload_n hx hb dX10_takes_34 rfl (lv_at hl 1 rfl) ?_
  refine lv_lmul hx hb dX10_takes_35 ?_
  refine zl (y := 0) (by decide) ?_
  refine lv_aload_n hx hb dX10_takes_36 rfl (lv_at hl 2 rfl) ?_
  refine va_get (D := (dC, dI)) (ci := 10) (v := .ref sgt) (C := RX10) (T := TX10) (N := 40) hx hb hts hiX10 hown hK hP 0 rfl rfl 36 (by decide) (hts (.fieldLink RX10 74 "WatchedProgramsModel" "sight" "[J") (by decide +kernel)) (fun _ h9 => h9) rfl dX10_takes_37 ?_
  refine lv_iload hx hb dX10_takes_40 (lv_at hl 0 rfl) ?_
  refine va_lald hx hb hK hP 1 1 rfl rfl (by unfold vp_in; decide) dX10_takes_42 ?_
  refine zl (y := (g 0)) (by rfl) ?_
  refine lv_ladd hx hb dX10_takes_43 ?_
  refine zl (y := (g 0)) (Int64.zero_add _) ?_
  refine lv_lstore_n (lv' := [(2, .long (g 0)), (4, .int 0), (0, .ref mm), (1, .int 0)]) hx hb dX10_takes_44 rfl hl (by decide) rfl (fun ls hl => ?_)
  refine lv_iinc (v := 1) (lv' := [(4, .int 1), (2, .long (g 0)), (0, .ref mm), (1, .int 0)]) hx hb dX10_takes_45 hl (k := 1) rfl (by decide) (by decide) rfl (fun ls hl => ?_)
  refine lv_goto (tgt := 5) hx hb dX10_takes_48 (by decide) ?_
  refine lv_iload hx hb dX10_takes_5 (lv_at hl 0 rfl) ?_
  refine lv_bipush (v := 6) hx hb dX10_takes_7 (by decide) ?_
  refine lv_icmp_ge (tgt := 51) hx hb dX10_takes_9 (by decide) (fun c_2 => absurd c_2 (by decide)) (fun _ => ?_)
  refine lv_aload_n hx hb dX10_takes_12 rfl (lv_at hl 2 rfl) ?_
  refine va_get (D := (dC, dI)) (ci := 10) (v := .ref sen) (C := RX10) (T := TX10) (N := 40) hx hb hts hiX10 hown hK hP 0 rfl rfl 31 (by decide) (hts (.fieldLink RX10 58 "WatchedProgramsModel" "seen" "[J") (by decide +kernel)) (fun _ h9 => h9) rfl dX10_takes_13 ?_
  refine lv_bipush (v := 6) hx hb dX10_takes_16 (by decide) ?_
  refine lv_iload_n hx hb dX10_takes_18 rfl (lv_at hl 3 rfl) ?_
  refine lv_imul hx hb dX10_takes_19 ?_
  refine zi (y := 0) (by decide) ?_
  refine lv_iload hx hb dX10_takes_20 (lv_at hl 0 rfl) ?_
  refine lv_iadd hx hb dX10_takes_22 ?_
  refine zi (y := 1) (by decide) ?_
  refine lv_aload_n hx hb dX10_takes_23 rfl (lv_at hl 2 rfl) ?_
  refine va_get (D := (dC, dI)) (ci := 10) (v := .ref sgt) (C := RX10) (T := TX10) (N := 40) hx hb hts hiX10 hown hK hP 0 rfl rfl 36 (by decide) (hts (.fieldLink RX10 74 "WatchedProgramsModel" "sight" "[J") (by decide +kernel)) (fun _ h9 => h9) rfl dX10_takes_24 ?_
  refine lv_iload hx hb dX10_takes_27 (lv_at hl 0 rfl) ?_
  refine va_lald hx hb hK hP 1 1 rfl rfl (by unfold vp_in; decide) dX10_takes_29 ?_
  refine zl (y := (g 1)) (by rfl) ?_
  refine va_last hx hb hK hP hD hS 2 1 rfl rfl (by unfold vp_in; decide) dX10_takes_30 (fun H locs hP hD hS => ?_)
  have hP : va_P (dC, dI) vwCl [(mm, .inr (10, [.int 0, .ref lev, .ref txt, .int 0, .int 0, .int 0, .int 0, .int 0, .int 0, .int 0, .int 0, .ref stm, .ref sm, .int 0, .ref sgn, .ref vls, .ref opn, .ref opp, .ref bke, .ref bko, .ref bkl, .ref cel, .int 0, .int 0, .ref tap, .ref tpl, .int 0, .int 0, .ref rtp, .ref rlv, .int 0, .ref sen, .ref hpo, .ref hpm, .ref bgn, .ref chn, .ref sgt, .int 1, .int 0, .ref rsd])), (sgt, aJ cJ 6 g), (sen, aJ cJ 24576 (vp_updL (vp_updL s 0 (g 0)) 1 (g 1))), (bgn, aI cI 8192 (upd (upd b 0 (-9)) 1 (-9))), (chn, aI cI 4096 c), (hpo, aI cI 4096 o), (hpm, aI cI 4096 m)] H := hP
  have hD : va_D A [(mm, .inr (10, [.int 0, .ref lev, .ref txt, .int 0, .int 0, .int 0, .int 0, .int 0, .int 0, .int 0, .int 0, .ref stm, .ref sm, .int 0, .ref sgn, .ref vls, .ref opn, .ref opp, .ref bke, .ref bko, .ref bkl, .ref cel, .int 0, .int 0, .ref tap, .ref tpl, .int 0, .int 0, .ref rtp, .ref rlv, .int 0, .ref sen, .ref hpo, .ref hpm, .ref bgn, .ref chn, .ref sgt, .int 1, .int 0, .ref rsd])), (sgt, aJ cJ 6 g), (sen, aJ cJ 24576 (vp_updL (vp_updL s 0 (g 0)) 1 (g 1))), (bgn, aI cI 8192 (upd (upd b 0 (-9)) 1 (-9))), (chn, aI cI 4096 c), (hpo, aI cI 4096 o), (hpm, aI cI 4096 m)] := hD
  refine lv_ldc2 (v := 1000003) hx hb hown (hts (.constantLong RX10 206 (1000003)) (by decide +kernel)) dX10_takes_31 ?_
  refine lv_lload_n hx hb dX10_takes_34 rfl (lv_at hl 1 rfl) ?_
  refine lv_lmul hx hb dX10_takes_35 ?_
  refine lv_aload_n hx hb dX10_takes_36 rfl (lv_at hl 2 rfl) ?_
  refine va_get (D := (dC, dI)) (ci := 10) (v := .ref sgt) (C := RX10) (T := TX10) (N := 40) hx hb hts hiX10 hown hK hP 0 rfl rfl 36 (by decide) (hts (.fieldLink RX10 74 "WatchedProgramsModel" "sight" "[J") (by decide +kernel)) (fun _ h9 => h9) rfl dX10_takes_37 ?_
  refine lv_iload hx hb dX10_takes_40 (lv_at hl 0 rfl) ?_
  refine va_lald hx hb hK hP 1 1 rfl rfl (by unfold vp_in; decide) dX10_takes_42 ?_
  refine zl (y := (g 1)) (by rfl) ?_
  refine lv_ladd hx hb dX10_takes_43 ?_
  refine lv_lstore_n (lv' := [(2, .long ((1000003 * (g 0)) + (g 1))), (4, .int 1), (0, .ref mm), (1, .int 0)]) hx hb dX10_takes_44 rfl hl (by decide) rfl (fun ls hl => ?_)
  refine lv_iinc (v := 2) (lv' := [(4, .int 2), (2, .long ((1000003 * (g 0)) + (g 1))), (0, .ref mm), (1, .int 0)]) hx hb dX10_takes_45 hl (k := 1) rfl (by decide) (by decide) rfl (fun ls hl => ?_)
  refine lv_goto (tgt := 5) hx hb dX10_takes_48 (by decide) ?_
  refine lv_iload hx hb dX10_takes_5 (lv_at hl 0 rfl) ?_
  refine lv_bipush (v := 6) hx hb dX10_takes_7 (by decide) ?_
  refine lv_icmp_ge (tgt := 51) hx hb dX10_takes_9 (by decide) (fun c_3 => absurd c_3 (by decide)) (fun _ => ?_)
  refine lv_aload_n hx hb dX10_takes_12 rfl (lv_at hl 2 rfl) ?_
  refine va_get (D := (dC, dI)) (ci := 10) (v := .ref sen) (C := RX10) (T := TX10) (N := 40) hx hb hts hiX10 hown hK hP 0 rfl rfl 31 (by decide) (hts (.fieldLink RX10 58 "WatchedProgramsModel" "seen" "[J") (by decide +kernel)) (fun _ h9 => h9) rfl dX10_takes_13 ?_
  refine lv_bipush (v := 6) hx hb dX10_takes_16 (by decide) ?_
  refine lv_iload_n hx hb dX10_takes_18 rfl (lv_at hl 3 rfl) ?_
  refine lv_imul hx hb dX10_takes_19 ?_
  refine zi (y := 0) (by decide) ?_
  refine lv_iload hx hb dX10_takes_20 (lv_at hl 0 rfl) ?_
  refine lv_iadd hx hb dX10_takes_22 ?_
  refine zi (y := 2) (by decide) ?_
  refine lv_aload_n hx hb dX10_takes_23 rfl (lv_at hl 2 rfl) ?_
  refine va_get (D := (dC, dI)) (ci := 10) (v := .ref sgt) (C := RX10) (T := TX10) (N := 40) hx hb hts hiX10 hown hK hP 0 rfl rfl 36 (by decide) (hts (.fieldLink RX10 74 "WatchedProgramsModel" "sight" "[J") (by decide +kernel)) (fun _ h9 => h9) rfl dX10_takes_24 ?_
  refine lv_iload hx hb dX10_takes_27 (lv_at hl 0 rfl) ?_
  refine va_lald hx hb hK hP 1 1 rfl rfl (by unfold vp_in; decide) dX10_takes_29 ?_
  refine zl (y := (g 2)) (by rfl) ?_
  refine va_last hx hb hK hP hD hS 2 1 rfl rfl (by unfold vp_in; decide) dX10_takes_30 (fun H locs hP hD hS => ?_)
  have hP : va_P (dC, dI) vwCl [(mm, .inr (10, [.int 0, .ref lev, .ref txt, .int 0, .int 0, .int 0, .int 0, .int 0, .int 0, .int 0, .int 0, .ref stm, .ref sm, .int 0, .ref sgn, .ref vls, .ref opn, .ref opp, .ref bke, .ref bko, .ref bkl, .ref cel, .int 0, .int 0, .ref tap, .ref tpl, .int 0, .int 0, .ref rtp, .ref rlv, .int 0, .ref sen, .ref hpo, .ref hpm, .ref bgn, .ref chn, .ref sgt, .int 1, .int 0, .ref rsd])), (sgt, aJ cJ 6 g), (sen, aJ cJ 24576 (vp_updL (vp_updL (vp_updL s 0 (g 0)) 1 (g 1)) 2 (g 2))), (bgn, aI cI 8192 (upd (upd b 0 (-9)) 1 (-9))), (chn, aI cI 4096 c), (hpo, aI cI 4096 o), (hpm, aI cI 4096 m)] H := hP
  have hD : va_D A [(mm, .inr (10, [.int 0, .ref lev, .ref txt, .int 0, .int 0, .int 0, .int 0, .int 0, .int 0, .int 0, .int 0, .ref stm, .ref sm, .int 0, .ref sgn, .ref vls, .ref opn, .ref opp, .ref bke, .ref bko, .ref bkl, .ref cel, .int 0, .int 0, .ref tap, .ref tpl, .int 0, .int 0, .ref rtp, .ref rlv, .int 0, .ref sen, .ref hpo, .ref hpm, .ref bgn, .ref chn, .ref sgt, .int 1, .int 0, .ref rsd])), (sgt, aJ cJ 6 g), (sen, aJ cJ 24576 (vp_updL (vp_updL (vp_updL s 0 (g 0)) 1 (g 1)) 2 (g 2))), (bgn, aI cI 8192 (upd (upd b 0 (-9)) 1 (-9))), (chn, aI cI 4096 c), (hpo, aI cI 4096 o), (hpm, aI cI 4096 m)] := hD
  refine lv_ldc2 (v := 1000003) hx hb hown (hts (.constantLong RX10 206 (1000003)) (by decide +kernel)) dX10_takes_31 ?_
  refine lv_lload_n hx hb dX10_takes_34 rfl (lv_at hl 1 rfl) ?_
  refine lv_lmul hx hb dX10_takes_35 ?_
  refine lv_aload_n hx hb dX10_takes_36 rfl (lv_at hl 2 rfl) ?_
  refine va_get (D := (dC, dI)) (ci := 10) (v := .ref sgt) (C := RX10) (T := TX10) (N := 40) hx hb hts hiX10 hown hK hP 0 rfl rfl 36 (by decide) (hts (.fieldLink RX10 74 "WatchedProgramsModel" "sight" "[J") (by decide +kernel)) (fun _ h9 => h9) rfl dX10_takes_37 ?_
  refine lv_iload hx hb dX10_takes_40 (lv_at hl 0 rfl) ?_
  refine va_lald hx hb hK hP 1 1 rfl rfl (by unfold vp_in; decide) dX10_takes_42 ?_
  refine zl (y := (g 2)) (by rfl) ?_
  refine lv_ladd hx hb dX10_takes_43 ?_
  refine lv_topl (fun z_4 ez_4 => ?_)
  refine lv_lstore_n (lv' := [(2, .long z_4), (4, .int 2), (0, .ref mm), (1, .int 0)]) hx hb dX10_takes_44 rfl hl (by decide) rfl (fun ls hl => ?_)
  refine lv_iinc (v := 3) (lv' := [(4, .int 3), (2, .long z_4), (0, .ref mm), (1, .int 0)]) hx hb dX10_takes_45 hl (k := 1) rfl (by decide) (by decide) rfl (fun ls hl => ?_)
  refine lv_goto (tgt := 5) hx hb dX10_takes_48 (by decide) ?_
  refine lv_iload hx hb dX10_takes_5 (lv_at hl 0 rfl) ?_
  refine lv_bipush (v := 6) hx hb dX10_takes_7 (by decide) ?_
  refine lv_icmp_ge (tgt := 51) hx hb dX10_takes_9 (by decide) (fun c_5 => absurd c_5 (by decide)) (fun _ => ?_)
  refine lv_aload_n hx hb dX10_takes_12 rfl (lv_at hl 2 rfl) ?_
  refine va_get (D := (dC, dI)) (ci := 10) (v := .ref sen) (C := RX10) (T := TX10) (N := 40) hx hb hts hiX10 hown hK hP 0 rfl rfl 31 (by decide) (hts (.fieldLink RX10 58 "WatchedProgramsModel" "seen" "[J") (by decide +kernel)) (fun _ h9 => h9) rfl dX10_takes_13 ?_
  refine lv_bipush (v := 6) hx hb dX10_takes_16 (by decide) ?_
  refine lv_iload_n hx hb dX10_takes_18 rfl (lv_at hl 3 rfl) ?_
  refine lv_imul hx hb dX10_takes_19 ?_
  refine zi (y := 0) (by decide) ?_
  refine lv_iload hx hb dX10_takes_20 (lv_at hl 0 rfl) ?_
  refine lv_iadd hx hb dX10_takes_22 ?_
  refine zi (y := 3) (by decide) ?_
  refine lv_aload_n hx hb dX10_takes_23 rfl (lv_at hl 2 rfl) ?_
  refine va_get (D := (dC, dI)) (ci := 10) (v := .ref sgt) (C := RX10) (T := TX10) (N := 40) hx hb hts hiX10 hown hK hP 0 rfl rfl 36 (by decide) (hts (.fieldLink RX10 74 "WatchedProgramsModel" "sight" "[J") (by decide +kernel)) (fun _ h9 => h9) rfl dX10_takes_24 ?_
  refine lv_iload hx hb dX10_takes_27 (lv_at hl 0 rfl) ?_
  refine va_lald hx hb hK hP 1 1 rfl rfl (by unfold vp_in; decide) dX10_takes_29 ?_
  refine zl (y := (g 3)) (by rfl) ?_
  refine va_last hx hb hK hP hD hS 2 1 rfl rfl (by unfold vp_in; decide) dX10_takes_30 (fun H locs hP hD hS => ?_)
  have hP : va_P (dC, dI) vwCl [(mm, .inr (10, [.int 0, .ref lev, .ref txt, .int 0, .int 0, .int 0, .int 0, .int 0, .int 0, .int 0, .int 0, .ref stm, .ref sm, .int 0, .ref sgn, .ref vls, .ref opn, .ref opp, .ref bke, .ref bko, .ref bkl, .ref cel, .int 0, .int 0, .ref tap, .ref tpl, .int 0, .int 0, .ref rtp, .ref rlv, .int 0, .ref sen, .ref hpo, .ref hpm, .ref bgn, .ref chn, .ref sgt, .int 1, .int 0, .ref rsd])), (sgt, aJ cJ 6 g), (sen, aJ cJ 24576 (vp_updL (vp_updL (vp_updL (vp_updL s 0 (g 0)) 1 (g 1)) 2 (g 2)) 3 (g 3))), (bgn, aI cI 8192 (upd (upd b 0 (-9)) 1 (-9))), (chn, aI cI 4096 c), (hpo, aI cI 4096 o), (hpm, aI cI 4096 m)] H := hP
  have hD : va_D A [(mm, .inr (10, [.int 0, .ref lev, .ref txt, .int 0, .int 0, .int 0, .int 0, .int 0, .int 0, .int 0, .int 0, .ref stm, .ref sm, .int 0, .ref sgn, .ref vls, .ref opn, .ref opp, .ref bke, .ref bko, .ref bkl, .ref cel, .int 0, .int 0, .ref tap, .ref tpl, .int 0, .int 0, .ref rtp, .ref rlv, .int 0, .ref sen, .ref hpo, .ref hpm, .ref bgn, .ref chn, .ref sgt, .int 1, .int 0, .ref rsd])), (sgt, aJ cJ 6 g), (sen, aJ cJ 24576 (vp_updL (vp_updL (vp_updL (vp_updL s 0 (g 0)) 1 (g 1)) 2 (g 2)) 3 (g 3))), (bgn, aI cI 8192 (upd (upd b 0 (-9)) 1 (-9))), (chn, aI cI 4096 c), (hpo, aI cI 4096 o), (hpm, aI cI 4096 m)] := hD
  refine lv_ldc2 (v := 1000003) hx hb hown (hts (.constantLong RX10 206 (1000003)) (by decide +kernel)) dX10_takes_31 ?_
  refine lv_lload_n hx hb dX10_takes_34 rfl (lv_at hl 1 rfl) ?_
  refine lv_lmul hx hb dX10_takes_35 ?_
  refine lv_aload_n hx hb dX10_takes_36 rfl (lv_at hl 2 rfl) ?_
  refine va_get (D := (dC, dI)) (ci := 10) (v := .ref sgt) (C := RX10) (T := TX10) (N := 40) hx hb hts hiX10 hown hK hP 0 rfl rfl 36 (by decide) (hts (.fieldLink RX10 74 "WatchedProgramsModel" "sight" "[J") (by decide +kernel)) (fun _ h9 => h9) rfl dX10_takes_37 ?_
  refine lv_iload hx hb dX10_takes_40 (lv_at hl 0 rfl) ?_
  refine va_lald hx hb hK hP 1 1 rfl rfl (by unfold vp_in; decide) dX10_takes_42 ?_
  refine zl (y := (g 3)) (by rfl) ?_
  refine lv_ladd hx hb dX10_takes_43 ?_
  refine lv_lstore_n (lv' := [(2, .long ((1000003 * z_4) + (g 3))), (4, .int 3), (0, .ref mm), (1, .int 0)]) hx hb dX10_takes_44 rfl hl (by decide) rfl (fun ls hl => ?_)
  refine lv_iinc (v := 4) (lv' := [(4, .int 4), (2, .long ((1000003 * z_4) + (g 3))), (0, .ref mm), (1, .int 0)]) hx hb dX10_takes_45 hl (k := 1) rfl (by decide) (by decide) rfl (fun ls hl => ?_)
  refine lv_goto (tgt := 5) hx hb dX10_takes_48 (by decide) ?_
  refine lv_iload hx hb dX10_takes_5 (lv_at hl 0 rfl) ?_
  refine lv_bipush (v := 6) hx hb dX10_takes_7 (by decide) ?_
  refine lv_icmp_ge (tgt := 51) hx hb dX10_takes_9 (by decide) (fun c_6 => absurd c_6 (by decide)) (fun _ => ?_)
  refine lv_aload_n hx hb dX10_takes_12 rfl (lv_at hl 2 rfl) ?_
  refine va_get (D := (dC, dI)) (ci := 10) (v := .ref sen) (C := RX10) (T := TX10) (N := 40) hx hb hts hiX10 hown hK hP 0 rfl rfl 31 (by decide) (hts (.fieldLink RX10 58 "WatchedProgramsModel" "seen" "[J") (by decide +kernel)) (fun _ h9 => h9) rfl dX10_takes_13 ?_
  refine lv_bipush (v := 6) hx hb dX10_takes_16 (by decide) ?_
  refine lv_iload_n hx hb dX10_takes_18 rfl (lv_at hl 3 rfl) ?_
  refine lv_imul hx hb dX10_takes_19 ?_
  refine zi (y := 0) (by decide) ?_
  refine lv_iload hx hb dX10_takes_20 (lv_at hl 0 rfl) ?_
  refine lv_iadd hx hb dX10_takes_22 ?_
  refine zi (y := 4) (by decide) ?_
  refine lv_aload_n hx hb dX10_takes_23 rfl (lv_at hl 2 rfl) ?_
  refine va_get (D := (dC, dI)) (ci := 10) (v := .ref sgt) (C := RX10) (T := TX10) (N := 40) hx hb hts hiX10 hown hK hP 0 rfl rfl 36 (by decide) (hts (.fieldLink RX10 74 "WatchedProgramsModel" "sight" "[J") (by decide +kernel)) (fun _ h9 => h9) rfl dX10_takes_24 ?_
  refine lv_iload hx hb dX10_takes_27 (lv_at hl 0 rfl) ?_
  refine va_lald hx hb hK hP 1 1 rfl rfl (by unfold vp_in; decide) dX10_takes_29 ?_
  refine zl (y := (g 4)) (by rfl) ?_
  refine va_last hx hb hK hP hD hS 2 1 rfl rfl (by unfold vp_in; decide) dX10_takes_30 (fun H locs hP hD hS => ?_)
  have hP : va_P (dC, dI) vwCl [(mm, .inr (10, [.int 0, .ref lev, .ref txt, .int 0, .int 0, .int 0, .int 0, .int 0, .int 0, .int 0, .int 0, .ref stm, .ref sm, .int 0, .ref sgn, .ref vls, .ref opn, .ref opp, .ref bke, .ref bko, .ref bkl, .ref cel, .int 0, .int 0, .ref tap, .ref tpl, .int 0, .int 0, .ref rtp, .ref rlv, .int 0, .ref sen, .ref hpo, .ref hpm, .ref bgn, .ref chn, .ref sgt, .int 1, .int 0, .ref rsd])), (sgt, aJ cJ 6 g), (sen, aJ cJ 24576 (vp_updL (vp_updL (vp_updL (vp_updL (vp_updL s 0 (g 0)) 1 (g 1)) 2 (g 2)) 3 (g 3)) 4 (g 4))), (bgn, aI cI 8192 (upd (upd b 0 (-9)) 1 (-9))), (chn, aI cI 4096 c), (hpo, aI cI 4096 o), (hpm, aI cI 4096 m)] H := hP
  have hD : va_D A [(mm, .inr (10, [.int 0, .ref lev, .ref txt, .int 0, .int 0, .int 0, .int 0, .int 0, .int 0, .int 0, .int 0, .ref stm, .ref sm, .int 0, .ref sgn, .ref vls, .ref opn, .ref opp, .ref bke, .ref bko, .ref bkl, .ref cel, .int 0, .int 0, .ref tap, .ref tpl, .int 0, .int 0, .ref rtp, .ref rlv, .int 0, .ref sen, .ref hpo, .ref hpm, .ref bgn, .ref chn, .ref sgt, .int 1, .int 0, .ref rsd])), (sgt, aJ cJ 6 g), (sen, aJ cJ 24576 (vp_updL (vp_updL (vp_updL (vp_updL (vp_updL s 0 (g 0)) 1 (g 1)) 2 (g 2)) 3 (g 3)) 4 (g 4))), (bgn, aI cI 8192 (upd (upd b 0 (-9)) 1 (-9))), (chn, aI cI 4096 c), (hpo, aI cI 4096 o), (hpm, aI cI 4096 m)] := hD
  refine lv_ldc2 (v := 1000003) hx hb hown (hts (.constantLong RX10 206 (1000003)) (by decide +kernel)) dX10_takes_31 ?_
  refine lv_lload_n hx hb dX10_takes_34 rfl (lv_at hl 1 rfl) ?_
  refine lv_lmul hx hb dX10_takes_35 ?_
  refine lv_aload_n hx hb dX10_takes_36 rfl (lv_at hl 2 rfl) ?_
  refine va_get (D := (dC, dI)) (ci := 10) (v := .ref sgt) (C := RX10) (T := TX10) (N := 40) hx hb hts hiX10 hown hK hP 0 rfl rfl 36 (by decide) (hts (.fieldLink RX10 74 "WatchedProgramsModel" "sight" "[J") (by decide +kernel)) (fun _ h9 => h9) rfl dX10_takes_37 ?_
  refine lv_iload hx hb dX10_takes_40 (lv_at hl 0 rfl) ?_
  refine va_lald hx hb hK hP 1 1 rfl rfl (by unfold vp_in; decide) dX10_takes_42 ?_
  refine zl (y := (g 4)) (by rfl) ?_
  refine lv_ladd hx hb dX10_takes_43 ?_
  refine lv_topl (fun z_7 ez_7 => ?_)
  refine lv_lstore_n (lv' := [(2, .long z_7), (4, .int 4), (0, .ref mm), (1, .int 0)]) hx hb dX10_takes_44 rfl hl (by decide) rfl (fun ls hl => ?_)
  refine lv_iinc (v := 5) (lv' := [(4, .int 5), (2, .long z_7), (0, .ref mm), (1, .int 0)]) hx hb dX10_takes_45 hl (k := 1) rfl (by decide) (by decide) rfl (fun ls hl => ?_)
  refine lv_goto (tgt := 5) hx hb dX10_takes_48 (by decide) ?_
  refine lv_iload hx hb dX10_takes_5 (lv_at hl 0 rfl) ?_
  refine lv_bipush (v := 6) hx hb dX10_takes_7 (by decide) ?_
  refine lv_icmp_ge (tgt := 51) hx hb dX10_takes_9 (by decide) (fun c_8 => absurd c_8 (by decide)) (fun _ => ?_)
  refine lv_aload_n hx hb dX10_takes_12 rfl (lv_at hl 2 rfl) ?_
  refine va_get (D := (dC, dI)) (ci := 10) (v := .ref sen) (C := RX10) (T := TX10) (N := 40) hx hb hts hiX10 hown hK hP 0 rfl rfl 31 (by decide) (hts (.fieldLink RX10 58 "WatchedProgramsModel" "seen" "[J") (by decide +kernel)) (fun _ h9 => h9) rfl dX10_takes_13 ?_
  refine lv_bipush (v := 6) hx hb dX10_takes_16 (by decide) ?_
  refine lv_iload_n hx hb dX10_takes_18 rfl (lv_at hl 3 rfl) ?_
  refine lv_imul hx hb dX10_takes_19 ?_
  refine zi (y := 0) (by decide) ?_
  refine lv_iload hx hb dX10_takes_20 (lv_at hl 0 rfl) ?_
  refine lv_iadd hx hb dX10_takes_22 ?_
  refine zi (y := 5) (by decide) ?_
  refine lv_aload_n hx hb dX10_takes_23 rfl (lv_at hl 2 rfl) ?_
  refine va_get (D := (dC, dI)) (ci := 10) (v := .ref sgt) (C := RX10) (T := TX10) (N := 40) hx hb hts hiX10 hown hK hP 0 rfl rfl 36 (by decide) (hts (.fieldLink RX10 74 "WatchedProgramsModel" "sight" "[J") (by decide +kernel)) (fun _ h9 => h9) rfl dX10_takes_24 ?_
  refine lv_iload hx hb dX10_takes_27 (lv_at hl 0 rfl) ?_
  refine va_lald hx hb hK hP 1 1 rfl rfl (by unfold vp_in; decide) dX10_takes_29 ?_
  refine zl (y := (g 5)) (by rfl) ?_
  refine va_last hx hb hK hP hD hS 2 1 rfl rfl (by unfold vp_in; decide) dX10_takes_30 (fun H locs hP hD hS => ?_)
  have hP : va_P (dC, dI) vwCl [(mm, .inr (10, [.int 0, .ref lev, .ref txt, .int 0, .int 0, .int 0, .int 0, .int 0, .int 0, .int 0, .int 0, .ref stm, .ref sm, .int 0, .ref sgn, .ref vls, .ref opn, .ref opp, .ref bke, .ref bko, .ref bkl, .ref cel, .int 0, .int 0, .ref tap, .ref tpl, .int 0, .int 0, .ref rtp, .ref rlv, .int 0, .ref sen, .ref hpo, .ref hpm, .ref bgn, .ref chn, .ref sgt, .int 1, .int 0, .ref rsd])), (sgt, aJ cJ 6 g), (sen, aJ cJ 24576 (vp_updL (vp_updL (vp_updL (vp_updL (vp_updL (vp_updL s 0 (g 0)) 1 (g 1)) 2 (g 2)) 3 (g 3)) 4 (g 4)) 5 (g 5))), (bgn, aI cI 8192 (upd (upd b 0 (-9)) 1 (-9))), (chn, aI cI 4096 c), (hpo, aI cI 4096 o), (hpm, aI cI 4096 m)] H := hP
  have hD : va_D A [(mm, .inr (10, [.int 0, .ref lev, .ref txt, .int 0, .int 0, .int 0, .int 0, .int 0, .int 0, .int 0, .int 0, .ref stm, .ref sm, .int 0, .ref sgn, .ref vls, .ref opn, .ref opp, .ref bke, .ref bko, .ref bkl, .ref cel, .int 0, .int 0, .ref tap, .ref tpl, .int 0, .int 0, .ref rtp, .ref rlv, .int 0, .ref sen, .ref hpo, .ref hpm, .ref bgn, .ref chn, .ref sgt, .int 1, .int 0, .ref rsd])), (sgt, aJ cJ 6 g), (sen, aJ cJ 24576 (vp_updL (vp_updL (vp_updL (vp_updL (vp_updL (vp_updL s 0 (g 0)) 1 (g 1)) 2 (g 2)) 3 (g 3)) 4 (g 4)) 5 (g 5))), (bgn, aI cI 8192 (upd (upd b 0 (-9)) 1 (-9))), (chn, aI cI 4096 c), (hpo, aI cI 4096 o), (hpm, aI cI 4096 m)] := hD
  refine lv_ldc2 (v := 1000003) hx hb hown (hts (.constantLong RX10 206 (1000003)) (by decide +kernel)) dX10_takes_31 ?_
  refine lv_lload_n hx hb dX10_takes_34 rfl (lv_at hl 1 rfl) ?_
  refine lv_lmul hx hb dX10_takes_35 ?_
  refine lv_aload_n hx hb dX10_takes_36 rfl (lv_at hl 2 rfl) ?_
  refine va_get (D := (dC, dI)) (ci := 10) (v := .ref sgt) (C := RX10) (T := TX10) (N := 40) hx hb hts hiX10 hown hK hP 0 rfl rfl 36 (by decide) (hts (.fieldLink RX10 74 "WatchedProgramsModel" "sight" "[J") (by decide +kernel)) (fun _ h9 => h9) rfl dX10_takes_37 ?_
  refine lv_iload hx hb dX10_takes_40 (lv_at hl 0 rfl) ?_
  refine va_lald hx hb hK hP 1 1 rfl rfl (by unfold vp_in; decide) dX10_takes_42 ?_
  refine zl (y := (g 5)) (by rfl) ?_
  refine lv_ladd hx hb dX10_takes_43 ?_
  refine lv_lstore_n (lv' := [(2, .long ((1000003 * z_7) + (g 5))), (4, .int 5), (0, .ref mm), (1, .int 0)]) hx hb dX10_takes_44 rfl hl (by decide) rfl (fun ls hl => ?_)
  refine lv_iinc (v := 6) (lv' := [(4, .int 6), (2, .long ((1000003 * z_7) + (g 5))), (0, .ref mm), (1, .int 0)]) hx hb dX10_takes_45 hl (k := 1) rfl (by decide) (by decide) rfl (fun ls hl => ?_)
  refine lv_goto (tgt := 5) hx hb dX10_takes_48 (by decide) ?_
  refine lv_iload hx hb dX10_takes_5 (lv_at hl 0 rfl) ?_
  refine lv_bipush (v := 6) hx hb dX10_takes_7 (by decide) ?_
  refine lv_icmp_ge (tgt := 51) hx hb dX10_takes_9 (by decide) (fun _ => ?_) (fun c_9 => absurd (by decide) c_9)
  refine lv_lload_n hx hb dX10_takes_51 rfl (lv_at hl 1 rfl) ?_
  refine lv_lload_n hx hb dX10_takes_52 rfl (lv_at hl 1 rfl) ?_
  refine lv_bipush (v := 31) hx hb dX10_takes_53 (by decide) ?_
  refine lv_lushr (v := ((((1000003 * z_7) + (g 5))).toUInt64 >>> ((31 : Int32).toInt64.toUInt64 &&& Int64.toUInt64 63)).toInt64) hx hb dX10_takes_55 rfl ?_
  refine lv_lxor hx hb dX10_takes_56 ?_
  refine lv_ldc2 (v := 2) hx hb hown (hts (.constantLong RX10 208 (2)) (by decide +kernel)) dX10_takes_57 ?_
  refine lv_aload_n hx hb dX10_takes_60 rfl (lv_at hl 2 rfl) ?_
  refine va_get (D := (dC, dI)) (ci := 10) (v := .int 1) (C := RX10) (T := TX10) (N := 40) hx hb hts hiX10 hown hK hP 0 rfl rfl 37 (by decide) (hts (.fieldLink RX10 210 "WatchedProgramsModel" "secrets" "I") (by decide +kernel)) (fun _ h9 => h9) rfl dX10_takes_61 ?_
  refine lv_i2l (v := 1) hx hb dX10_takes_64 (by decide) ?_
  refine lv_lmul hx hb dX10_takes_65 ?_
  refine zl (y := 2) (by decide) ?_
  refine lv_lconst (v := 1) hx hb dX10_takes_66 (by decide) ?_
  refine lv_lsub hx hb dX10_takes_67 ?_
  refine zl (y := 1) (by decide) ?_
  refine lv_land hx hb dX10_takes_68 ?_
  refine lv_l2i (v := (((((1000003 * z_7) + (g 5)) ^^^ ((((1000003 * z_7) + (g 5))).toUInt64 >>> ((31 : Int32).toInt64.toUInt64 &&& Int64.toUInt64 63)).toInt64) &&& 1)).toInt32) hx hb dX10_takes_69 rfl ?_
  refine lv_topi (fun z_10 ez_10 => ?_)
  rcases and1L ez_10 with rfl | rfl
  · refine lv_istore (lv' := [(4, .int 0), (2, .long ((1000003 * z_7) + (g 5))), (0, .ref mm), (1, .int 0)]) hx hb dX10_takes_70 hl (by decide) rfl (fun ls hl => ?_)
    refine lv_aload_n hx hb dX10_takes_72 rfl (lv_at hl 2 rfl) ?_
    refine va_get (D := (dC, dI)) (ci := 10) (v := .ref bgn) (C := RX10) (T := TX10) (N := 40) hx hb hts hiX10 hown hK hP 0 rfl rfl 34 (by decide) (hts (.fieldLink RX10 68 "WatchedProgramsModel" "begin" "[I") (by decide +kernel)) (fun _ h9 => h9) rfl dX10_takes_73 ?_
    refine lv_iload hx hb dX10_takes_76 (lv_at hl 0 rfl) ?_
    refine va_iald hx hb hK hP 3 0 rfl rfl (by unfold vp_in; decide) dX10_takes_78 ?_
    refine zi (y := (-9)) (by rfl) ?_
    refine lv_istore (lv' := [(5, .int (-9)), (4, .int 0), (2, .long ((1000003 * z_7) + (g 5))), (0, .ref mm), (1, .int 0)]) hx hb dX10_takes_79 hl (by decide) rfl (fun ls hl => ?_)
    refine lv_iload hx hb dX10_takes_81 (lv_at hl 0 rfl) ?_
    refine lv_bipush (v := (-9)) hx hb dX10_takes_83 (by decide) ?_
    refine lv_icmp_eq (tgt := 110) hx hb dX10_takes_85 (by decide) (fun _ => ?_) (fun c_11 => absurd (by decide) c_11)
    refine lv_iload hx hb dX10_takes_110 (lv_at hl 0 rfl) ?_
    refine lv_bipush (v := (-9)) hx hb dX10_takes_112 (by decide) ?_
    refine lv_icmp_ne (tgt := 165) hx hb dX10_takes_114 (by decide) (fun c_12 => absurd (by decide) c_12) (fun _ => ?_)
    refine lv_aload_n hx hb dX10_takes_117 rfl (lv_at hl 3 rfl) ?_
    refine va_get (D := (dC, dI)) (ci := 10) (v := .ref chn) (C := RX10) (T := TX10) (N := 40) hx hb hts hiX10 hown hK hP 0 rfl rfl 35 (by decide) (hts (.fieldLink RX10 71 "WatchedProgramsModel" "chain" "[I") (by decide +kernel)) (fun _ h9 => h9) rfl dX10_takes_118 ?_
    refine lv_iload_n hx hb dX10_takes_121 rfl (lv_at hl 4 rfl) ?_
    refine lv_aload_n hx hb dX10_takes_122 rfl (lv_at hl 3 rfl) ?_
    refine va_get (D := (dC, dI)) (ci := 10) (v := .ref bgn) (C := RX10) (T := TX10) (N := 40) hx hb hts hiX10 hown hK hP 0 rfl rfl 34 (by decide) (hts (.fieldLink RX10 68 "WatchedProgramsModel" "begin" "[I") (by decide +kernel)) (fun _ h9 => h9) rfl dX10_takes_123 ?_
    refine lv_iload hx hb dX10_takes_126 (lv_at hl 1 rfl) ?_
    refine va_iald hx hb hK hP 3 0 rfl rfl (by unfold vp_in; decide) dX10_takes_128 ?_
    refine zi (y := (-9)) (by rfl) ?_
    refine va_iast hx hb hK hP hD hS 4 0 rfl rfl (by unfold vp_in; decide) dX10_takes_129 (fun H locs hP hD hS => ?_)
    have hP : va_P (dC, dI) vwCl [(mm, .inr (10, [.int 0, .ref lev, .ref txt, .int 0, .int 0, .int 0, .int 0, .int 0, .int 0, .int 0, .int 0, .ref stm, .ref sm, .int 0, .ref sgn, .ref vls, .ref opn, .ref opp, .ref bke, .ref bko, .ref bkl, .ref cel, .int 0, .int 0, .ref tap, .ref tpl, .int 0, .int 0, .ref rtp, .ref rlv, .int 0, .ref sen, .ref hpo, .ref hpm, .ref bgn, .ref chn, .ref sgt, .int 1, .int 0, .ref rsd])), (sgt, aJ cJ 6 g), (sen, aJ cJ 24576 (vp_updL (vp_updL (vp_updL (vp_updL (vp_updL (vp_updL s 0 (g 0)) 1 (g 1)) 2 (g 2)) 3 (g 3)) 4 (g 4)) 5 (g 5))), (bgn, aI cI 8192 (upd (upd b 0 (-9)) 1 (-9))), (chn, aI cI 4096 (upd c 0 (-9))), (hpo, aI cI 4096 o), (hpm, aI cI 4096 m)] H := hP
    have hD : va_D A [(mm, .inr (10, [.int 0, .ref lev, .ref txt, .int 0, .int 0, .int 0, .int 0, .int 0, .int 0, .int 0, .int 0, .ref stm, .ref sm, .int 0, .ref sgn, .ref vls, .ref opn, .ref opp, .ref bke, .ref bko, .ref bkl, .ref cel, .int 0, .int 0, .ref tap, .ref tpl, .int 0, .int 0, .ref rtp, .ref rlv, .int 0, .ref sen, .ref hpo, .ref hpm, .ref bgn, .ref chn, .ref sgt, .int 1, .int 0, .ref rsd])), (sgt, aJ cJ 6 g), (sen, aJ cJ 24576 (vp_updL (vp_updL (vp_updL (vp_updL (vp_updL (vp_updL s 0 (g 0)) 1 (g 1)) 2 (g 2)) 3 (g 3)) 4 (g 4)) 5 (g 5))), (bgn, aI cI 8192 (upd (upd b 0 (-9)) 1 (-9))), (chn, aI cI 4096 (upd c 0 (-9))), (hpo, aI cI 4096 o), (hpm, aI cI 4096 m)] := hD
    refine lv_aload_n hx hb dX10_takes_130 rfl (lv_at hl 3 rfl) ?_
    refine va_get (D := (dC, dI)) (ci := 10) (v := .ref bgn) (C := RX10) (T := TX10) (N := 40) hx hb hts hiX10 hown hK hP 0 rfl rfl 34 (by decide) (hts (.fieldLink RX10 68 "WatchedProgramsModel" "begin" "[I") (by decide +kernel)) (fun _ h9 => h9) rfl dX10_takes_131 ?_
    refine lv_iload hx hb dX10_takes_134 (lv_at hl 1 rfl) ?_
    refine lv_iload_n hx hb dX10_takes_136 rfl (lv_at hl 4 rfl) ?_
    refine va_iast hx hb hK hP hD hS 3 0 rfl rfl (by unfold vp_in; decide) dX10_takes_137 (fun H locs hP hD hS => ?_)
    have hP : va_P (dC, dI) vwCl [(mm, .inr (10, [.int 0, .ref lev, .ref txt, .int 0, .int 0, .int 0, .int 0, .int 0, .int 0, .int 0, .int 0, .ref stm, .ref sm, .int 0, .ref sgn, .ref vls, .ref opn, .ref opp, .ref bke, .ref bko, .ref bkl, .ref cel, .int 0, .int 0, .ref tap, .ref tpl, .int 0, .int 0, .ref rtp, .ref rlv, .int 0, .ref sen, .ref hpo, .ref hpm, .ref bgn, .ref chn, .ref sgt, .int 1, .int 0, .ref rsd])), (sgt, aJ cJ 6 g), (sen, aJ cJ 24576 (vp_updL (vp_updL (vp_updL (vp_updL (vp_updL (vp_updL s 0 (g 0)) 1 (g 1)) 2 (g 2)) 3 (g 3)) 4 (g 4)) 5 (g 5))), (bgn, aI cI 8192 (upd (upd (upd b 0 (-9)) 1 (-9)) 0 0)), (chn, aI cI 4096 (upd c 0 (-9))), (hpo, aI cI 4096 o), (hpm, aI cI 4096 m)] H := hP
    have hD : va_D A [(mm, .inr (10, [.int 0, .ref lev, .ref txt, .int 0, .int 0, .int 0, .int 0, .int 0, .int 0, .int 0, .int 0, .ref stm, .ref sm, .int 0, .ref sgn, .ref vls, .ref opn, .ref opp, .ref bke, .ref bko, .ref bkl, .ref cel, .int 0, .int 0, .ref tap, .ref tpl, .int 0, .int 0, .ref rtp, .ref rlv, .int 0, .ref sen, .ref hpo, .ref hpm, .ref bgn, .ref chn, .ref sgt, .int 1, .int 0, .ref rsd])), (sgt, aJ cJ 6 g), (sen, aJ cJ 24576 (vp_updL (vp_updL (vp_updL (vp_updL (vp_updL (vp_updL s 0 (g 0)) 1 (g 1)) 2 (g 2)) 3 (g 3)) 4 (g 4)) 5 (g 5))), (bgn, aI cI 8192 (upd (upd (upd b 0 (-9)) 1 (-9)) 0 0)), (chn, aI cI 4096 (upd c 0 (-9))), (hpo, aI cI 4096 o), (hpm, aI cI 4096 m)] := hD
    refine lv_aload_n hx hb dX10_takes_138 rfl (lv_at hl 3 rfl) ?_
    refine va_get (D := (dC, dI)) (ci := 10) (v := .ref hpo) (C := RX10) (T := TX10) (N := 40) hx hb hts hiX10 hown hK hP 0 rfl rfl 32 (by decide) (hts (.fieldLink RX10 62 "WatchedProgramsModel" "heapOf" "[I") (by decide +kernel)) (fun _ h9 => h9) rfl dX10_takes_139 ?_
    refine lv_iload_n hx hb dX10_takes_142 rfl (lv_at hl 4 rfl) ?_
    refine lv_iload_n hx hb dX10_takes_143 rfl (lv_at hl 4 rfl) ?_
    refine va_iast hx hb hK hP hD hS 5 0 rfl rfl (by unfold vp_in; decide) dX10_takes_144 (fun H locs hP hD hS => ?_)
    have hP : va_P (dC, dI) vwCl [(mm, .inr (10, [.int 0, .ref lev, .ref txt, .int 0, .int 0, .int 0, .int 0, .int 0, .int 0, .int 0, .int 0, .ref stm, .ref sm, .int 0, .ref sgn, .ref vls, .ref opn, .ref opp, .ref bke, .ref bko, .ref bkl, .ref cel, .int 0, .int 0, .ref tap, .ref tpl, .int 0, .int 0, .ref rtp, .ref rlv, .int 0, .ref sen, .ref hpo, .ref hpm, .ref bgn, .ref chn, .ref sgt, .int 1, .int 0, .ref rsd])), (sgt, aJ cJ 6 g), (sen, aJ cJ 24576 (vp_updL (vp_updL (vp_updL (vp_updL (vp_updL (vp_updL s 0 (g 0)) 1 (g 1)) 2 (g 2)) 3 (g 3)) 4 (g 4)) 5 (g 5))), (bgn, aI cI 8192 (upd (upd (upd b 0 (-9)) 1 (-9)) 0 0)), (chn, aI cI 4096 (upd c 0 (-9))), (hpo, aI cI 4096 (upd o 0 0)), (hpm, aI cI 4096 m)] H := hP
    have hD : va_D A [(mm, .inr (10, [.int 0, .ref lev, .ref txt, .int 0, .int 0, .int 0, .int 0, .int 0, .int 0, .int 0, .int 0, .ref stm, .ref sm, .int 0, .ref sgn, .ref vls, .ref opn, .ref opp, .ref bke, .ref bko, .ref bkl, .ref cel, .int 0, .int 0, .ref tap, .ref tpl, .int 0, .int 0, .ref rtp, .ref rlv, .int 0, .ref sen, .ref hpo, .ref hpm, .ref bgn, .ref chn, .ref sgt, .int 1, .int 0, .ref rsd])), (sgt, aJ cJ 6 g), (sen, aJ cJ 24576 (vp_updL (vp_updL (vp_updL (vp_updL (vp_updL (vp_updL s 0 (g 0)) 1 (g 1)) 2 (g 2)) 3 (g 3)) 4 (g 4)) 5 (g 5))), (bgn, aI cI 8192 (upd (upd (upd b 0 (-9)) 1 (-9)) 0 0)), (chn, aI cI 4096 (upd c 0 (-9))), (hpo, aI cI 4096 (upd o 0 0)), (hpm, aI cI 4096 m)] := hD
    refine lv_aload_n hx hb dX10_takes_145 rfl (lv_at hl 3 rfl) ?_
    refine va_get (D := (dC, dI)) (ci := 10) (v := .ref hpm) (C := RX10) (T := TX10) (N := 40) hx hb hts hiX10 hown hK hP 0 rfl rfl 33 (by decide) (hts (.fieldLink RX10 65 "WatchedProgramsModel" "heapMany" "[I") (by decide +kernel)) (fun _ h9 => h9) rfl dX10_takes_146 ?_
    refine lv_iload_n hx hb dX10_takes_149 rfl (lv_at hl 4 rfl) ?_
    refine lv_iconst (v := 1) hx hb dX10_takes_150 (by decide) ?_
    refine va_iast hx hb hK hP hD hS 6 0 rfl rfl (by unfold vp_in; decide) dX10_takes_151 (fun H locs hP hD hS => ?_)
    have hP : va_P (dC, dI) vwCl [(mm, .inr (10, [.int 0, .ref lev, .ref txt, .int 0, .int 0, .int 0, .int 0, .int 0, .int 0, .int 0, .int 0, .ref stm, .ref sm, .int 0, .ref sgn, .ref vls, .ref opn, .ref opp, .ref bke, .ref bko, .ref bkl, .ref cel, .int 0, .int 0, .ref tap, .ref tpl, .int 0, .int 0, .ref rtp, .ref rlv, .int 0, .ref sen, .ref hpo, .ref hpm, .ref bgn, .ref chn, .ref sgt, .int 1, .int 0, .ref rsd])), (sgt, aJ cJ 6 g), (sen, aJ cJ 24576 (vp_updL (vp_updL (vp_updL (vp_updL (vp_updL (vp_updL s 0 (g 0)) 1 (g 1)) 2 (g 2)) 3 (g 3)) 4 (g 4)) 5 (g 5))), (bgn, aI cI 8192 (upd (upd (upd b 0 (-9)) 1 (-9)) 0 0)), (chn, aI cI 4096 (upd c 0 (-9))), (hpo, aI cI 4096 (upd o 0 0)), (hpm, aI cI 4096 (upd m 0 1))] H := hP
    have hD : va_D A [(mm, .inr (10, [.int 0, .ref lev, .ref txt, .int 0, .int 0, .int 0, .int 0, .int 0, .int 0, .int 0, .int 0, .ref stm, .ref sm, .int 0, .ref sgn, .ref vls, .ref opn, .ref opp, .ref bke, .ref bko, .ref bkl, .ref cel, .int 0, .int 0, .ref tap, .ref tpl, .int 0, .int 0, .ref rtp, .ref rlv, .int 0, .ref sen, .ref hpo, .ref hpm, .ref bgn, .ref chn, .ref sgt, .int 1, .int 0, .ref rsd])), (sgt, aJ cJ 6 g), (sen, aJ cJ 24576 (vp_updL (vp_updL (vp_updL (vp_updL (vp_updL (vp_updL s 0 (g 0)) 1 (g 1)) 2 (g 2)) 3 (g 3)) 4 (g 4)) 5 (g 5))), (bgn, aI cI 8192 (upd (upd (upd b 0 (-9)) 1 (-9)) 0 0)), (chn, aI cI 4096 (upd c 0 (-9))), (hpo, aI cI 4096 (upd o 0 0)), (hpm, aI cI 4096 (upd m 0 1))] := hD
    refine lv_aload_n hx hb dX10_takes_152 rfl (lv_at hl 3 rfl) ?_
    refine lv_dup hx hb dX10_takes_153 rfl ?_
    refine va_get (D := (dC, dI)) (ci := 10) (v := .int 0) (C := RX10) (T := TX10) (N := 40) hx hb hts hiX10 hown hK hP 0 rfl rfl 38 (by decide) (hts (.fieldLink RX10 216 "WatchedProgramsModel" "heaps" "I") (by decide +kernel)) (fun _ h9 => h9) rfl dX10_takes_154 ?_
    refine lv_iconst (v := 1) hx hb dX10_takes_157 (by decide) ?_
    refine lv_iadd hx hb dX10_takes_158 ?_
    refine zi (y := 1) (by decide) ?_
    refine va_put (D := (dC, dI)) (ci := 10) (v := .int 1) (ty := .int) (C := RX10) (T := TX10) (N := 40) hx hb hts hiX10 tyX10 tyX10_ok nmX10 hown hK hP hD hS 0 rfl rfl 38 (by decide) (hts (.fieldLink RX10 216 "WatchedProgramsModel" "heaps" "I") (by decide +kernel)) (fun _ h9 => h9) rfl (by decide +kernel) rfl rfl (Nat.le_of_ble_eq_true rfl) dX10_takes_159 (fun H locs hP hD hS => ?_)
    have hP : va_P (dC, dI) vwCl [(mm, .inr (10, [.int 0, .ref lev, .ref txt, .int 0, .int 0, .int 0, .int 0, .int 0, .int 0, .int 0, .int 0, .ref stm, .ref sm, .int 0, .ref sgn, .ref vls, .ref opn, .ref opp, .ref bke, .ref bko, .ref bkl, .ref cel, .int 0, .int 0, .ref tap, .ref tpl, .int 0, .int 0, .ref rtp, .ref rlv, .int 0, .ref sen, .ref hpo, .ref hpm, .ref bgn, .ref chn, .ref sgt, .int 1, .int 1, .ref rsd])), (sgt, aJ cJ 6 g), (sen, aJ cJ 24576 (vp_updL (vp_updL (vp_updL (vp_updL (vp_updL (vp_updL s 0 (g 0)) 1 (g 1)) 2 (g 2)) 3 (g 3)) 4 (g 4)) 5 (g 5))), (bgn, aI cI 8192 (upd (upd (upd b 0 (-9)) 1 (-9)) 0 0)), (chn, aI cI 4096 (upd c 0 (-9))), (hpo, aI cI 4096 (upd o 0 0)), (hpm, aI cI 4096 (upd m 0 1))] H := hP
    have hD : va_D A [(mm, .inr (10, [.int 0, .ref lev, .ref txt, .int 0, .int 0, .int 0, .int 0, .int 0, .int 0, .int 0, .int 0, .ref stm, .ref sm, .int 0, .ref sgn, .ref vls, .ref opn, .ref opp, .ref bke, .ref bko, .ref bkl, .ref cel, .int 0, .int 0, .ref tap, .ref tpl, .int 0, .int 0, .ref rtp, .ref rlv, .int 0, .ref sen, .ref hpo, .ref hpm, .ref bgn, .ref chn, .ref sgt, .int 1, .int 1, .ref rsd])), (sgt, aJ cJ 6 g), (sen, aJ cJ 24576 (vp_updL (vp_updL (vp_updL (vp_updL (vp_updL (vp_updL s 0 (g 0)) 1 (g 1)) 2 (g 2)) 3 (g 3)) 4 (g 4)) 5 (g 5))), (bgn, aI cI 8192 (upd (upd (upd b 0 (-9)) 1 (-9)) 0 0)), (chn, aI cI 4096 (upd c 0 (-9))), (hpo, aI cI 4096 (upd o 0 0)), (hpm, aI cI 4096 (upd m 0 1))] := hD
    refine lv_goto (tgt := 184) hx hb dX10_takes_162 (by decide) ?_
    have hP9 := hP.sub (ws' := [(mm, .inr (10, [.int 0, .ref lev, .ref txt, .int 0, .int 0, .int 0, .int 0, .int 0, .int 0, .int 0, .int 0, .ref stm, .ref sm, .int 0, .ref sgn, .ref vls, .ref opn, .ref opp, .ref bke, .ref bko, .ref bkl, .ref cel, .int 0, .int 0, .ref tap, .ref tpl, .int 0, .int 0, .ref rtp, .ref rlv, .int 0, .ref sen, .ref hpo, .ref hpm, .ref bgn, .ref chn, .ref sgt, .int 1, .int 1, .ref rsd])), (sgt, aJ cJ 6 g), (sen, aJ cJ 24576 (vp_updL (vp_updL (vp_updL (vp_updL (vp_updL (vp_updL s 0 (g 0)) 1 (g 1)) 2 (g 2)) 3 (g 3)) 4 (g 4)) 5 (g 5))), (bgn, aI cI 8192 (upd (upd (upd b 0 (-9)) 1 (-9)) 0 0)), (chn, aI cI 4096 (upd c 0 (-9))), (hpo, aI cI 4096 (upd o 0 0)), (hpm, aI cI 4096 (upd m 0 1))]) [0, 1, 2, 3, 4, 5, 6] rfl
    have hD9 := hD.sub (ws' := [(mm, .inr (10, [.int 0, .ref lev, .ref txt, .int 0, .int 0, .int 0, .int 0, .int 0, .int 0, .int 0, .int 0, .ref stm, .ref sm, .int 0, .ref sgn, .ref vls, .ref opn, .ref opp, .ref bke, .ref bko, .ref bkl, .ref cel, .int 0, .int 0, .ref tap, .ref tpl, .int 0, .int 0, .ref rtp, .ref rlv, .int 0, .ref sen, .ref hpo, .ref hpm, .ref bgn, .ref chn, .ref sgt, .int 1, .int 1, .ref rsd])), (sgt, aJ cJ 6 g), (sen, aJ cJ 24576 (vp_updL (vp_updL (vp_updL (vp_updL (vp_updL (vp_updL s 0 (g 0)) 1 (g 1)) 2 (g 2)) 3 (g 3)) 4 (g 4)) 5 (g 5))), (bgn, aI cI 8192 (upd (upd (upd b 0 (-9)) 1 (-9)) 0 0)), (chn, aI cI 4096 (upd c 0 (-9))), (hpo, aI cI 4096 (upd o 0 0)), (hpm, aI cI 4096 (upd m 0 1))]) [0, 1, 2, 3, 4, 5, 6] (by decide) rfl
    exact W.vret hx hb hr (fun tt_ ht hW => ⟨⟨((vp_updL (vp_updL (vp_updL (vp_updL (vp_updL (vp_updL s 0 (g 0)) 1 (g 1)) 2 (g 2)) 3 (g 3)) 4 (g 4)) 5 (g 5)), (upd (upd (upd b 0 (-9)) 1 (-9)) 0 0), (upd c 0 (-9))), rfl, trivial, by rw [ht]; exact hP9, hD9⟩, hS.F ht⟩) hS.2.2 dX10_takes_184
  · refine lv_istore (lv' := [(4, .int 1), (2, .long ((1000003 * z_7) + (g 5))), (0, .ref mm), (1, .int 0)]) hx hb dX10_takes_70 hl (by decide) rfl (fun ls hl => ?_)
    refine lv_aload_n hx hb dX10_takes_72 rfl (lv_at hl 2 rfl) ?_
    refine va_get (D := (dC, dI)) (ci := 10) (v := .ref bgn) (C := RX10) (T := TX10) (N := 40) hx hb hts hiX10 hown hK hP 0 rfl rfl 34 (by decide) (hts (.fieldLink RX10 68 "WatchedProgramsModel" "begin" "[I") (by decide +kernel)) (fun _ h9 => h9) rfl dX10_takes_73 ?_
    refine lv_iload hx hb dX10_takes_76 (lv_at hl 0 rfl) ?_
    refine va_iald hx hb hK hP 3 0 rfl rfl (by unfold vp_in; decide) dX10_takes_78 ?_
    refine zi (y := (-9)) (by rfl) ?_
    refine lv_istore (lv' := [(5, .int (-9)), (4, .int 1), (2, .long ((1000003 * z_7) + (g 5))), (0, .ref mm), (1, .int 0)]) hx hb dX10_takes_79 hl (by decide) rfl (fun ls hl => ?_)
    refine lv_iload hx hb dX10_takes_81 (lv_at hl 0 rfl) ?_
    refine lv_bipush (v := (-9)) hx hb dX10_takes_83 (by decide) ?_
    refine lv_icmp_eq (tgt := 110) hx hb dX10_takes_85 (by decide) (fun _ => ?_) (fun c_13 => absurd (by decide) c_13)
    refine lv_iload hx hb dX10_takes_110 (lv_at hl 0 rfl) ?_
    refine lv_bipush (v := (-9)) hx hb dX10_takes_112 (by decide) ?_
    refine lv_icmp_ne (tgt := 165) hx hb dX10_takes_114 (by decide) (fun c_14 => absurd (by decide) c_14) (fun _ => ?_)
    refine lv_aload_n hx hb dX10_takes_117 rfl (lv_at hl 3 rfl) ?_
    refine va_get (D := (dC, dI)) (ci := 10) (v := .ref chn) (C := RX10) (T := TX10) (N := 40) hx hb hts hiX10 hown hK hP 0 rfl rfl 35 (by decide) (hts (.fieldLink RX10 71 "WatchedProgramsModel" "chain" "[I") (by decide +kernel)) (fun _ h9 => h9) rfl dX10_takes_118 ?_
    refine lv_iload_n hx hb dX10_takes_121 rfl (lv_at hl 4 rfl) ?_
    refine lv_aload_n hx hb dX10_takes_122 rfl (lv_at hl 3 rfl) ?_
    refine va_get (D := (dC, dI)) (ci := 10) (v := .ref bgn) (C := RX10) (T := TX10) (N := 40) hx hb hts hiX10 hown hK hP 0 rfl rfl 34 (by decide) (hts (.fieldLink RX10 68 "WatchedProgramsModel" "begin" "[I") (by decide +kernel)) (fun _ h9 => h9) rfl dX10_takes_123 ?_
    refine lv_iload hx hb dX10_takes_126 (lv_at hl 1 rfl) ?_
    refine va_iald hx hb hK hP 3 0 rfl rfl (by unfold vp_in; decide) dX10_takes_128 ?_
    refine zi (y := (-9)) (by rfl) ?_
    refine va_iast hx hb hK hP hD hS 4 0 rfl rfl (by unfold vp_in; decide) dX10_takes_129 (fun H locs hP hD hS => ?_)
    have hP : va_P (dC, dI) vwCl [(mm, .inr (10, [.int 0, .ref lev, .ref txt, .int 0, .int 0, .int 0, .int 0, .int 0, .int 0, .int 0, .int 0, .ref stm, .ref sm, .int 0, .ref sgn, .ref vls, .ref opn, .ref opp, .ref bke, .ref bko, .ref bkl, .ref cel, .int 0, .int 0, .ref tap, .ref tpl, .int 0, .int 0, .ref rtp, .ref rlv, .int 0, .ref sen, .ref hpo, .ref hpm, .ref bgn, .ref chn, .ref sgt, .int 1, .int 0, .ref rsd])), (sgt, aJ cJ 6 g), (sen, aJ cJ 24576 (vp_updL (vp_updL (vp_updL (vp_updL (vp_updL (vp_updL s 0 (g 0)) 1 (g 1)) 2 (g 2)) 3 (g 3)) 4 (g 4)) 5 (g 5))), (bgn, aI cI 8192 (upd (upd b 0 (-9)) 1 (-9))), (chn, aI cI 4096 (upd c 0 (-9))), (hpo, aI cI 4096 o), (hpm, aI cI 4096 m)] H := hP
    have hD : va_D A [(mm, .inr (10, [.int 0, .ref lev, .ref txt, .int 0, .int 0, .int 0, .int 0, .int 0, .int 0, .int 0, .int 0, .ref stm, .ref sm, .int 0, .ref sgn, .ref vls, .ref opn, .ref opp, .ref bke, .ref bko, .ref bkl, .ref cel, .int 0, .int 0, .ref tap, .ref tpl, .int 0, .int 0, .ref rtp, .ref rlv, .int 0, .ref sen, .ref hpo, .ref hpm, .ref bgn, .ref chn, .ref sgt, .int 1, .int 0, .ref rsd])), (sgt, aJ cJ 6 g), (sen, aJ cJ 24576 (vp_updL (vp_updL (vp_updL (vp_updL (vp_updL (vp_updL s 0 (g 0)) 1 (g 1)) 2 (g 2)) 3 (g 3)) 4 (g 4)) 5 (g 5))), (bgn, aI cI 8192 (upd (upd b 0 (-9)) 1 (-9))), (chn, aI cI 4096 (upd c 0 (-9))), (hpo, aI cI 4096 o), (hpm, aI cI 4096 m)] := hD
    refine lv_aload_n hx hb dX10_takes_130 rfl (lv_at hl 3 rfl) ?_
    refine va_get (D := (dC, dI)) (ci := 10) (v := .ref bgn) (C := RX10) (T := TX10) (N := 40) hx hb hts hiX10 hown hK hP 0 rfl rfl 34 (by decide) (hts (.fieldLink RX10 68 "WatchedProgramsModel" "begin" "[I") (by decide +kernel)) (fun _ h9 => h9) rfl dX10_takes_131 ?_
    refine lv_iload hx hb dX10_takes_134 (lv_at hl 1 rfl) ?_
    refine lv_iload_n hx hb dX10_takes_136 rfl (lv_at hl 4 rfl) ?_
    refine va_iast hx hb hK hP hD hS 3 0 rfl rfl (by unfold vp_in; decide) dX10_takes_137 (fun H locs hP hD hS => ?_)
    have hP : va_P (dC, dI) vwCl [(mm, .inr (10, [.int 0, .ref lev, .ref txt, .int 0, .int 0, .int 0, .int 0, .int 0, .int 0, .int 0, .int 0, .ref stm, .ref sm, .int 0, .ref sgn, .ref vls, .ref opn, .ref opp, .ref bke, .ref bko, .ref bkl, .ref cel, .int 0, .int 0, .ref tap, .ref tpl, .int 0, .int 0, .ref rtp, .ref rlv, .int 0, .ref sen, .ref hpo, .ref hpm, .ref bgn, .ref chn, .ref sgt, .int 1, .int 0, .ref rsd])), (sgt, aJ cJ 6 g), (sen, aJ cJ 24576 (vp_updL (vp_updL (vp_updL (vp_updL (vp_updL (vp_updL s 0 (g 0)) 1 (g 1)) 2 (g 2)) 3 (g 3)) 4 (g 4)) 5 (g 5))), (bgn, aI cI 8192 (upd (upd (upd b 0 (-9)) 1 (-9)) 1 0)), (chn, aI cI 4096 (upd c 0 (-9))), (hpo, aI cI 4096 o), (hpm, aI cI 4096 m)] H := hP
    have hD : va_D A [(mm, .inr (10, [.int 0, .ref lev, .ref txt, .int 0, .int 0, .int 0, .int 0, .int 0, .int 0, .int 0, .int 0, .ref stm, .ref sm, .int 0, .ref sgn, .ref vls, .ref opn, .ref opp, .ref bke, .ref bko, .ref bkl, .ref cel, .int 0, .int 0, .ref tap, .ref tpl, .int 0, .int 0, .ref rtp, .ref rlv, .int 0, .ref sen, .ref hpo, .ref hpm, .ref bgn, .ref chn, .ref sgt, .int 1, .int 0, .ref rsd])), (sgt, aJ cJ 6 g), (sen, aJ cJ 24576 (vp_updL (vp_updL (vp_updL (vp_updL (vp_updL (vp_updL s 0 (g 0)) 1 (g 1)) 2 (g 2)) 3 (g 3)) 4 (g 4)) 5 (g 5))), (bgn, aI cI 8192 (upd (upd (upd b 0 (-9)) 1 (-9)) 1 0)), (chn, aI cI 4096 (upd c 0 (-9))), (hpo, aI cI 4096 o), (hpm, aI cI 4096 m)] := hD
    refine lv_aload_n hx hb dX10_takes_138 rfl (lv_at hl 3 rfl) ?_
    refine va_get (D := (dC, dI)) (ci := 10) (v := .ref hpo) (C := RX10) (T := TX10) (N := 40) hx hb hts hiX10 hown hK hP 0 rfl rfl 32 (by decide) (hts (.fieldLink RX10 62 "WatchedProgramsModel" "heapOf" "[I") (by decide +kernel)) (fun _ h9 => h9) rfl dX10_takes_139 ?_
    refine lv_iload_n hx hb dX10_takes_142 rfl (lv_at hl 4 rfl) ?_
    refine lv_iload_n hx hb dX10_takes_143 rfl (lv_at hl 4 rfl) ?_
    refine va_iast hx hb hK hP hD hS 5 0 rfl rfl (by unfold vp_in; decide) dX10_takes_144 (fun H locs hP hD hS => ?_)
    have hP : va_P (dC, dI) vwCl [(mm, .inr (10, [.int 0, .ref lev, .ref txt, .int 0, .int 0, .int 0, .int 0, .int 0, .int 0, .int 0, .int 0, .ref stm, .ref sm, .int 0, .ref sgn, .ref vls, .ref opn, .ref opp, .ref bke, .ref bko, .ref bkl, .ref cel, .int 0, .int 0, .ref tap, .ref tpl, .int 0, .int 0, .ref rtp, .ref rlv, .int 0, .ref sen, .ref hpo, .ref hpm, .ref bgn, .ref chn, .ref sgt, .int 1, .int 0, .ref rsd])), (sgt, aJ cJ 6 g), (sen, aJ cJ 24576 (vp_updL (vp_updL (vp_updL (vp_updL (vp_updL (vp_updL s 0 (g 0)) 1 (g 1)) 2 (g 2)) 3 (g 3)) 4 (g 4)) 5 (g 5))), (bgn, aI cI 8192 (upd (upd (upd b 0 (-9)) 1 (-9)) 1 0)), (chn, aI cI 4096 (upd c 0 (-9))), (hpo, aI cI 4096 (upd o 0 0)), (hpm, aI cI 4096 m)] H := hP
    have hD : va_D A [(mm, .inr (10, [.int 0, .ref lev, .ref txt, .int 0, .int 0, .int 0, .int 0, .int 0, .int 0, .int 0, .int 0, .ref stm, .ref sm, .int 0, .ref sgn, .ref vls, .ref opn, .ref opp, .ref bke, .ref bko, .ref bkl, .ref cel, .int 0, .int 0, .ref tap, .ref tpl, .int 0, .int 0, .ref rtp, .ref rlv, .int 0, .ref sen, .ref hpo, .ref hpm, .ref bgn, .ref chn, .ref sgt, .int 1, .int 0, .ref rsd])), (sgt, aJ cJ 6 g), (sen, aJ cJ 24576 (vp_updL (vp_updL (vp_updL (vp_updL (vp_updL (vp_updL s 0 (g 0)) 1 (g 1)) 2 (g 2)) 3 (g 3)) 4 (g 4)) 5 (g 5))), (bgn, aI cI 8192 (upd (upd (upd b 0 (-9)) 1 (-9)) 1 0)), (chn, aI cI 4096 (upd c 0 (-9))), (hpo, aI cI 4096 (upd o 0 0)), (hpm, aI cI 4096 m)] := hD
    refine lv_aload_n hx hb dX10_takes_145 rfl (lv_at hl 3 rfl) ?_
    refine va_get (D := (dC, dI)) (ci := 10) (v := .ref hpm) (C := RX10) (T := TX10) (N := 40) hx hb hts hiX10 hown hK hP 0 rfl rfl 33 (by decide) (hts (.fieldLink RX10 65 "WatchedProgramsModel" "heapMany" "[I") (by decide +kernel)) (fun _ h9 => h9) rfl dX10_takes_146 ?_
    refine lv_iload_n hx hb dX10_takes_149 rfl (lv_at hl 4 rfl) ?_
    refine lv_iconst (v := 1) hx hb dX10_takes_150 (by decide) ?_
    refine va_iast hx hb hK hP hD hS 6 0 rfl rfl (by unfold vp_in; decide) dX10_takes_151 (fun H locs hP hD hS => ?_)
    have hP : va_P (dC, dI) vwCl [(mm, .inr (10, [.int 0, .ref lev, .ref txt, .int 0, .int 0, .int 0, .int 0, .int 0, .int 0, .int 0, .int 0, .ref stm, .ref sm, .int 0, .ref sgn, .ref vls, .ref opn, .ref opp, .ref bke, .ref bko, .ref bkl, .ref cel, .int 0, .int 0, .ref tap, .ref tpl, .int 0, .int 0, .ref rtp, .ref rlv, .int 0, .ref sen, .ref hpo, .ref hpm, .ref bgn, .ref chn, .ref sgt, .int 1, .int 0, .ref rsd])), (sgt, aJ cJ 6 g), (sen, aJ cJ 24576 (vp_updL (vp_updL (vp_updL (vp_updL (vp_updL (vp_updL s 0 (g 0)) 1 (g 1)) 2 (g 2)) 3 (g 3)) 4 (g 4)) 5 (g 5))), (bgn, aI cI 8192 (upd (upd (upd b 0 (-9)) 1 (-9)) 1 0)), (chn, aI cI 4096 (upd c 0 (-9))), (hpo, aI cI 4096 (upd o 0 0)), (hpm, aI cI 4096 (upd m 0 1))] H := hP
    have hD : va_D A [(mm, .inr (10, [.int 0, .ref lev, .ref txt, .int 0, .int 0, .int 0, .int 0, .int 0, .int 0, .int 0, .int 0, .ref stm, .ref sm, .int 0, .ref sgn, .ref vls, .ref opn, .ref opp, .ref bke, .ref bko, .ref bkl, .ref cel, .int 0, .int 0, .ref tap, .ref tpl, .int 0, .int 0, .ref rtp, .ref rlv, .int 0, .ref sen, .ref hpo, .ref hpm, .ref bgn, .ref chn, .ref sgt, .int 1, .int 0, .ref rsd])), (sgt, aJ cJ 6 g), (sen, aJ cJ 24576 (vp_updL (vp_updL (vp_updL (vp_updL (vp_updL (vp_updL s 0 (g 0)) 1 (g 1)) 2 (g 2)) 3 (g 3)) 4 (g 4)) 5 (g 5))), (bgn, aI cI 8192 (upd (upd (upd b 0 (-9)) 1 (-9)) 1 0)), (chn, aI cI 4096 (upd c 0 (-9))), (hpo, aI cI 4096 (upd o 0 0)), (hpm, aI cI 4096 (upd m 0 1))] := hD
    refine lv_aload_n hx hb dX10_takes_152 rfl (lv_at hl 3 rfl) ?_
    refine lv_dup hx hb dX10_takes_153 rfl ?_
    refine va_get (D := (dC, dI)) (ci := 10) (v := .int 0) (C := RX10) (T := TX10) (N := 40) hx hb hts hiX10 hown hK hP 0 rfl rfl 38 (by decide) (hts (.fieldLink RX10 216 "WatchedProgramsModel" "heaps" "I") (by decide +kernel)) (fun _ h9 => h9) rfl dX10_takes_154 ?_
    refine lv_iconst (v := 1) hx hb dX10_takes_157 (by decide) ?_
    refine lv_iadd hx hb dX10_takes_158 ?_
    refine zi (y := 1) (by decide) ?_
    refine va_put (D := (dC, dI)) (ci := 10) (v := .int 1) (ty := .int) (C := RX10) (T := TX10) (N := 40) hx hb hts hiX10 tyX10 tyX10_ok nmX10 hown hK hP hD hS 0 rfl rfl 38 (by decide) (hts (.fieldLink RX10 216 "WatchedProgramsModel" "heaps" "I") (by decide +kernel)) (fun _ h9 => h9) rfl (by decide +kernel) rfl rfl (Nat.le_of_ble_eq_true rfl) dX10_takes_159 (fun H locs hP hD hS => ?_)
    have hP : va_P (dC, dI) vwCl [(mm, .inr (10, [.int 0, .ref lev, .ref txt, .int 0, .int 0, .int 0, .int 0, .int 0, .int 0, .int 0, .int 0, .ref stm, .ref sm, .int 0, .ref sgn, .ref vls, .ref opn, .ref opp, .ref bke, .ref bko, .ref bkl, .ref cel, .int 0, .int 0, .ref tap, .ref tpl, .int 0, .int 0, .ref rtp, .ref rlv, .int 0, .ref sen, .ref hpo, .ref hpm, .ref bgn, .ref chn, .ref sgt, .int 1, .int 1, .ref rsd])), (sgt, aJ cJ 6 g), (sen, aJ cJ 24576 (vp_updL (vp_updL (vp_updL (vp_updL (vp_updL (vp_updL s 0 (g 0)) 1 (g 1)) 2 (g 2)) 3 (g 3)) 4 (g 4)) 5 (g 5))), (bgn, aI cI 8192 (upd (upd (upd b 0 (-9)) 1 (-9)) 1 0)), (chn, aI cI 4096 (upd c 0 (-9))), (hpo, aI cI 4096 (upd o 0 0)), (hpm, aI cI 4096 (upd m 0 1))] H := hP
    have hD : va_D A [(mm, .inr (10, [.int 0, .ref lev, .ref txt, .int 0, .int 0, .int 0, .int 0, .int 0, .int 0, .int 0, .int 0, .ref stm, .ref sm, .int 0, .ref sgn, .ref vls, .ref opn, .ref opp, .ref bke, .ref bko, .ref bkl, .ref cel, .int 0, .int 0, .ref tap, .ref tpl, .int 0, .int 0, .ref rtp, .ref rlv, .int 0, .ref sen, .ref hpo, .ref hpm, .ref bgn, .ref chn, .ref sgt, .int 1, .int 1, .ref rsd])), (sgt, aJ cJ 6 g), (sen, aJ cJ 24576 (vp_updL (vp_updL (vp_updL (vp_updL (vp_updL (vp_updL s 0 (g 0)) 1 (g 1)) 2 (g 2)) 3 (g 3)) 4 (g 4)) 5 (g 5))), (bgn, aI cI 8192 (upd (upd (upd b 0 (-9)) 1 (-9)) 1 0)), (chn, aI cI 4096 (upd c 0 (-9))), (hpo, aI cI 4096 (upd o 0 0)), (hpm, aI cI 4096 (upd m 0 1))] := hD
    refine lv_goto (tgt := 184) hx hb dX10_takes_162 (by decide) ?_
    have hP9 := hP.sub (ws' := [(mm, .inr (10, [.int 0, .ref lev, .ref txt, .int 0, .int 0, .int 0, .int 0, .int 0, .int 0, .int 0, .int 0, .ref stm, .ref sm, .int 0, .ref sgn, .ref vls, .ref opn, .ref opp, .ref bke, .ref bko, .ref bkl, .ref cel, .int 0, .int 0, .ref tap, .ref tpl, .int 0, .int 0, .ref rtp, .ref rlv, .int 0, .ref sen, .ref hpo, .ref hpm, .ref bgn, .ref chn, .ref sgt, .int 1, .int 1, .ref rsd])), (sgt, aJ cJ 6 g), (sen, aJ cJ 24576 (vp_updL (vp_updL (vp_updL (vp_updL (vp_updL (vp_updL s 0 (g 0)) 1 (g 1)) 2 (g 2)) 3 (g 3)) 4 (g 4)) 5 (g 5))), (bgn, aI cI 8192 (upd (upd (upd b 0 (-9)) 1 (-9)) 1 0)), (chn, aI cI 4096 (upd c 0 (-9))), (hpo, aI cI 4096 (upd o 0 0)), (hpm, aI cI 4096 (upd m 0 1))]) [0, 1, 2, 3, 4, 5, 6] rfl
    have hD9 := hD.sub (ws' := [(mm, .inr (10, [.int 0, .ref lev, .ref txt, .int 0, .int 0, .int 0, .int 0, .int 0, .int 0, .int 0, .int 0, .ref stm, .ref sm, .int 0, .ref sgn, .ref vls, .ref opn, .ref opp, .ref bke, .ref bko, .ref bkl, .ref cel, .int 0, .int 0, .ref tap, .ref tpl, .int 0, .int 0, .ref rtp, .ref rlv, .int 0, .ref sen, .ref hpo, .ref hpm, .ref bgn, .ref chn, .ref sgt, .int 1, .int 1, .ref rsd])), (sgt, aJ cJ 6 g), (sen, aJ cJ 24576 (vp_updL (vp_updL (vp_updL (vp_updL (vp_updL (vp_updL s 0 (g 0)) 1 (g 1)) 2 (g 2)) 3 (g 3)) 4 (g 4)) 5 (g 5))), (bgn, aI cI 8192 (upd (upd (upd b 0 (-9)) 1 (-9)) 1 0)), (chn, aI cI 4096 (upd c 0 (-9))), (hpo, aI cI 4096 (upd o 0 0)), (hpm, aI cI 4096 (upd m 0 1))]) [0, 1, 2, 3, 4, 5, 6] (by decide) rfl
    exact W.vret hx hb hr (fun tt_ ht hW => ⟨⟨((vp_updL (vp_updL (vp_updL (vp_updL (vp_updL (vp_updL s 0 (g 0)) 1 (g 1)) 2 (g 2)) 3 (g 3)) 4 (g 4)) 5 (g 5)), (upd (upd (upd b 0 (-9)) 1 (-9)) 1 0), (upd c 0 (-9))), rfl, trivial, by rw [ht]; exact hP9, hD9⟩, hS.F ht⟩) hS.2.2 dX10_takes_184
set_option maxHeartbeats 1000000 in
set_option maxRecDepth 100000 in
theorem m_learnsA (l : Launch) (dC : Nat → ClassId) (dI : Nat → Nat → Nat) (cI cJ cS : ClassId) (sz : Nat) (mm : Nat) (w : Int32) (t : Int32) (o1 : Int32) (lev : Nat) (txt : Nat) (stm : Nat) (sm : Nat) (sgn : Nat) (vls : Nat) (opn : Nat) (opp : Nat) (bke : Nat) (bko : Nat) (bkl : Nat) (cel : Nat) (tap : Nat) (tpl : Nat) (rtp : Nat) (rlv : Nat) (sen : Nat) (hpo : Nat) (hpm : Nat) (bgn : Nat) (chn : Nat) (sgt : Nat) (sc : Int32) (hp : Int32) (rsd : Nat) (fc : Nat → Int32) (fg : Nat → Int64) (fn : Nat → Int64) (fb : Nat → Int32) (fh : Nat → Int32) (fo : Nat → Int32) (fm : Nat → Int32)  : Met l yX10_learns wsX10_learns ({ frames := 2, cells := 0, slots := 0, locals := 52 }) (va_Pc [.ref mm, .int w, .int t, .int o1, .int (-1)] (PE dC dI cI cJ cS [(mm, .inr (10, [.int 0, .ref lev, .ref txt, .int 0, .int 0, .int 0, .int 0, .int 0, .int 0, .int 0, .int 0, .ref stm, .ref sm, .int 0, .ref sgn, .ref vls, .ref opn, .ref opp, .ref bke, .ref bko, .ref bkl, .ref cel, .int 0, .int 0, .ref tap, .ref tpl, .int 0, .int 0, .ref rtp, .ref rlv, .int 0, .ref sen, .ref hpo, .ref hpm, .ref bgn, .ref chn, .ref sgt, .int sc, .int hp, .ref rsd])), (lev, aI cI 6 (fun _ => 0)), (cel, aI cI 6 fc), (sgt, aJ cJ 6 fg), (sen, aJ cJ 24576 fn), (bgn, aI cI 8192 fb), (chn, aI cI 4096 fh), (hpo, aI cI 4096 fo), (hpm, aI cI 4096 fm)] sz)) (va_Qv (fun (uu : ((Nat → Int32) × (Nat → Int64) × (Nat → Int64) × (Nat → Int32) × (Nat → Int32))) => True) (BE dC dI (va_A [(mm, .inr (10, [.int 0, .ref lev, .ref txt, .int 0, .int 0, .int 0, .int 0, .int 0, .int 0, .int 0, .int 0, .ref stm, .ref sm, .int 0, .ref sgn, .ref vls, .ref opn, .ref opp, .ref bke, .ref bko, .ref bkl, .ref cel, .int 0, .int 0, .ref tap, .ref tpl, .int 0, .int 0, .ref rtp, .ref rlv, .int 0, .ref sen, .ref hpo, .ref hpm, .ref bgn, .ref chn, .ref sgt, .int sc, .int hp, .ref rsd])), (lev, aI cI 6 (fun _ => 0)), (cel, aI cI 6 fc), (sgt, aJ cJ 6 fg), (sen, aJ cJ 24576 fn), (bgn, aI cI 8192 fb), (chn, aI cI 4096 fh), (hpo, aI cI 4096 fo), (hpm, aI cI 4096 fm)] sz) (fun (uu : ((Nat → Int32) × (Nat → Int64) × (Nat → Int64) × (Nat → Int32) × (Nat → Int32))) => [(mm, .inr (10, [.int 0, .ref lev, .ref txt, .int 0, .int 0, .int 0, .int 0, .int 0, .int 0, .int 0, .int 0, .ref stm, .ref sm, .int 0, .ref sgn, .ref vls, .ref opn, .ref opp, .ref bke, .ref bko, .ref bkl, .ref cel, .int 0, .int 0, .ref tap, .ref tpl, .int 0, .int 0, .ref rtp, .ref rlv, .int 0, .ref sen, .ref hpo, .ref hpm, .ref bgn, .ref chn, .ref sgt, .int 1, .int 1, .ref rsd])), (lev, aI cI 6 (fun _ => 0)), (cel, aI cI 6 uu.1), (sgt, aJ cJ 6 uu.2.1), (sen, aJ cJ 24576 uu.2.2.1), (bgn, aI cI 8192 uu.2.2.2.1), (chn, aI cI 4096 uu.2.2.2.2), (hpo, aI cI 4096 (upd fo 0 0)), (hpm, aI cI 4096 (upd fm 0 1))])) (va_A [(mm, .inr (10, [.int 0, .ref lev, .ref txt, .int 0, .int 0, .int 0, .int 0, .int 0, .int 0, .int 0, .int 0, .ref stm, .ref sm, .int 0, .ref sgn, .ref vls, .ref opn, .ref opp, .ref bke, .ref bko, .ref bkl, .ref cel, .int 0, .int 0, .ref tap, .ref tpl, .int 0, .int 0, .ref rtp, .ref rlv, .int 0, .ref sen, .ref hpo, .ref hpm, .ref bgn, .ref chn, .ref sgt, .int sc, .int hp, .ref rsd])), (lev, aI cI 6 (fun _ => 0)), (cel, aI cI 6 fc), (sgt, aJ cJ 6 fg), (sen, aJ cJ 24576 fn), (bgn, aI cI 8192 fb), (chn, aI cI 4096 fh), (hpo, aI cI 4096 fo), (hpm, aI cI 4096 fm)] sz)) 0 0 (va_A [(mm, .inr (10, [.int 0, .ref lev, .ref txt, .int 0, .int 0, .int 0, .int 0, .int 0, .int 0, .int 0, .int 0, .ref stm, .ref sm, .int 0, .ref sgn, .ref vls, .ref opn, .ref opp, .ref bke, .ref bko, .ref bkl, .ref cel, .int 0, .int 0, .ref tap, .ref tpl, .int 0, .int 0, .ref rtp, .ref rlv, .int 0, .ref sen, .ref hpo, .ref hpm, .ref bgn, .ref chn, .ref sgt, .int sc, .int hp, .ref rsd])), (lev, aI cI 6 (fun _ => 0)), (cel, aI cI 6 fc), (sgt, aJ cJ 6 fg), (sen, aJ cJ 24576 fn), (bgn, aI cI 8192 fb), (chn, aI cI 4096 fh), (hpo, aI cI 4096 fo), (hpm, aI cI 4096 fm)] sz) := by
  refine Met.ofW (cc := cX10_learns) (maxL := 8) (ret := none) (by decide) rfl ?_
  intro pp_ ee_ ss_ mm_ args below meth cc_ s₁ B hml hv
  obtain ⟨rfl, hsz, hP, hE, hD0⟩ := hv
  have hx := B.exec
  have hb := B.bytes
  have hr := B.returns
  have hts := atoms_spec (ws := wsX10_learns) B.pre
  have hown : ss_.vm.findClass RX10 = some mm_.cls := findClass_of_methodNamed B.named
  have hlocks := B.notSynchronized
  have hK := hE.1
  have hiX10 : ∀ w ∈ wsX100, w ∈ wsX10_learns := by decide +kernel
  subst hsz
  have hD := hD0.self (sz := ss_.heap.size)
  generalize hAe : va_A [(mm, .inr (10, [.int 0, .ref lev, .ref txt, .int 0, .int 0, .int 0, .int 0, .int 0, .int 0, .int 0, .int 0, .ref stm, .ref sm, .int 0, .ref sgn, .ref vls, .ref opn, .ref opp, .ref bke, .ref bko, .ref bkl, .ref cel, .int 0, .int 0, .ref tap, .ref tpl, .int 0, .int 0, .ref rtp, .ref rlv, .int 0, .ref sen, .ref hpo, .ref hpm, .ref bgn, .ref chn, .ref sgt, .int sc, .int hp, .ref rsd])), (lev, aI cI 6 (fun _ => 0)), (cel, aI cI 6 fc), (sgt, aJ cJ 6 fg), (sen, aJ cJ 24576 fn), (bgn, aI cI 8192 fb), (chn, aI cI 4096 fh), (hpo, aI cI 4096 fo), (hpm, aI cI 4096 fm)] ss_.heap.size = A at hD ⊢
  have hA : ∀ q : Nat, ss_.heap.size ≤ q → A q := fun q h => by rw [← hAe]; exact Or.inr h
  have hS : va_S A ss_.heap ss_.heap [] := va_S.rf
  have hP : va_P (dC, dI) vwCl [(mm, .inr (10, [.int 0, .ref lev, .ref txt, .int 0, .int 0, .int 0, .int 0, .int 0, .int 0, .int 0, .int 0, .ref stm, .ref sm, .int 0, .ref sgn, .ref vls, .ref opn, .ref opp, .ref bke, .ref bko, .ref bkl, .ref cel, .int 0, .int 0, .ref tap, .ref tpl, .int 0, .int 0, .ref rtp, .ref rlv, .int 0, .ref sen, .ref hpo, .ref hpm, .ref bgn, .ref chn, .ref sgt, .int sc, .int hp, .ref rsd])), (lev, aI cI 6 (fun _ => 0)), (cel, aI cI 6 fc), (sgt, aJ cJ 6 fg), (sen, aJ cJ 24576 fn), (bgn, aI cI 8192 fb), (chn, aI cI 4096 fh), (hpo, aI cI 4096 fo), (hpm, aI cI 4096 fm)] ss_.heap := hP
  have hl := lv_entry ([.ref mm, .int w, .int t, .int o1, .int (-1)]) (n := 8) (Nat.le_of_ble_eq_true rfl)
  rw [lg_entry_eq]
  generalize (lg_sl ([.ref mm, .int w, .int t, .int o1, .int (-1)]) ++ List.replicate (8 - (lg_sl ([.ref mm, .int w, .int t, .int o1, .int (-1)])).length) Slot.unset).toArray = ls at hl ⊢
  have hl : lv_has ls 8 [(0, .ref mm), (1, .int w), (2, .int t), (3, .int o1), (4, .int (-1))] := hl
  refine lv_aload_n hx hb dX10_learns_0 rfl (lv_at hl 0 rfl) ?_
  refine lv_iconst (v := 1) hx hb dX10_learns_1 (by decide) ?_
  refine lv_iconst (v := 2) hx hb dX10_learns_2 (by decide) ?_
  refine lv_aload_n hx hb dX10_learns_3 rfl (lv_at hl 0 rfl) ?_
  refine lv_iload_n hx hb dX10_learns_4 rfl (lv_at hl 1 rfl) ?_
  refine lv_iconst (v := 0) hx hb dX10_learns_5 (by decide) ?_
  refine vp_callSi (va_Run.run (va_runV (As := [.int w, .int 0]) (rest := [.int 2, .int 1, .ref mm]) ⟨hx, hb, hml, hown, hts⟩ (m_cells0 l dC dI cI cJ cS  mm w lev txt stm sm sgn vls opn opp bke bko bkl cel tap tpl rtp rlv sen hpo hpm bgn chn sgt sc hp rsd ) (cwV 2 hts gX10_learns_X10_cells rfl rfl rfl (by decide +kernel) ⟨Nat.le_of_ble_eq_true rfl, Nat.le_of_ble_eq_true rfl⟩) (preRV (hP.sub (ws' := [(mm, .inr (10, [.int 0, .ref lev, .ref txt, .int 0, .int 0, .int 0, .int 0, .int 0, .int 0, .int 0, .int 0, .ref stm, .ref sm, .int 0, .ref sgn, .ref vls, .ref opn, .ref opp, .ref bke, .ref bko, .ref bkl, .ref cel, .int 0, .int 0, .ref tap, .ref tpl, .int 0, .int 0, .ref rtp, .ref rlv, .int 0, .ref sen, .ref hpo, .ref hpm, .ref bgn, .ref chn, .ref sgt, .int sc, .int hp, .ref rsd])), (lev, aI cI 6 (fun _ => 0))]) [0, 1] rfl) hE 0 (ci := 10) rfl rfl) rfl rfl hl.1 rfl (lv_room (Nat.le_of_ble_eq_true rfl)) dX10_learns_6 ⟨by decide +kernel, by decide +kernel⟩)) (fun r_1 hr_2 => ?_)
  obtain rfl := hr_2
  refine lv_imul hx hb dX10_learns_9 ?_
  refine zi (y := 0) (by decide) ?_
  refine lv_ishl hx hb dX10_learns_10 ?_
  refine zi (y := 1) (by decide) ?_
  have hFc := va_free (wc := [(mm, .inr (10, [.int 0, .ref lev, .ref txt, .int 0, .int 0, .int 0, .int 0, .int 0, .int 0, .int 0, .int 0, .ref stm, .ref sm, .int 0, .ref sgn, .ref vls, .ref opn, .ref opp, .ref bke, .ref bko, .ref bkl, .ref cel, .int 0, .int 0, .ref tap, .ref tpl, .int 0, .int 0, .ref rtp, .ref rlv, .int 0, .ref sen, .ref hpo, .ref hpm, .ref bgn, .ref chn, .ref sgt, .int sc, .int hp, .ref rsd])), (bgn, aI cI 8192 fb), (sgt, aJ cJ 6 fg)]) hD hS hA [0, 5, 3] rfl
  refine zCv (wr := [(lev, aI cI 6 (fun _ => 0)), (cel, aI cI 6 fc), (sen, aJ cJ 24576 fn), (chn, aI cI 4096 fh), (hpo, aI cI 4096 fo), (hpm, aI cI 4096 fm)]) hP hD hS hFc [0, 5, 3] [1, 2, 4, 6, 7, 8] rfl rfl (by decide) (by decide) (va_runV (As := [.int 1]) (rest := []) ⟨hx, hb, hml, hown, hts⟩ (m_clears l dC dI cI cJ cS ss_.heap.size mm lev txt stm sm sgn vls opn opp bke bko bkl cel tap tpl rtp rlv sen hpo hpm bgn chn sgt sc hp rsd fb fg ) (cwV 1 hts gX10_learns_X10_clears rfl rfl rfl (by decide +kernel) ⟨Nat.le_of_ble_eq_true rfl, Nat.le_of_ble_eq_true rfl⟩) (preEV (hP.sub (ws' := [(mm, .inr (10, [.int 0, .ref lev, .ref txt, .int 0, .int 0, .int 0, .int 0, .int 0, .int 0, .int 0, .int 0, .ref stm, .ref sm, .int 0, .ref sgn, .ref vls, .ref opn, .ref opp, .ref bke, .ref bko, .ref bkl, .ref cel, .int 0, .int 0, .ref tap, .ref tpl, .int 0, .int 0, .ref rtp, .ref rlv, .int 0, .ref sen, .ref hpo, .ref hpm, .ref bgn, .ref chn, .ref sgt, .int sc, .int hp, .ref rsd])), (bgn, aI cI 8192 fb), (sgt, aJ cJ 6 fg)]) [0, 5, 3] rfl) hE (hD.sub (ws' := [(mm, .inr (10, [.int 0, .ref lev, .ref txt, .int 0, .int 0, .int 0, .int 0, .int 0, .int 0, .int 0, .int 0, .ref stm, .ref sm, .int 0, .ref sgn, .ref vls, .ref opn, .ref opp, .ref bke, .ref bko, .ref bkl, .ref cel, .int 0, .int 0, .ref tap, .ref tpl, .int 0, .int 0, .ref rtp, .ref rlv, .int 0, .ref sen, .ref hpo, .ref hpm, .ref bgn, .ref chn, .ref sgt, .int sc, .int hp, .ref rsd])), (bgn, aI cI 8192 fb), (sgt, aJ cJ 6 fg)]) [0, 5, 3] (by decide) rfl) 0 (ci := 10) rfl rfl) rfl rfl hl.1 rfl (lv_room (Nat.le_of_ble_eq_true rfl)) dX10_learns_11 ⟨by decide +kernel, by decide +kernel⟩) (fun u_5 H locs hr_4 hP hD hS => ?_)
  try dsimp only at hr_4
  have hP : va_P (dC, dI) vwCl [(lev, aI cI 6 (fun _ => 0)), (cel, aI cI 6 fc), (sen, aJ cJ 24576 fn), (chn, aI cI 4096 fh), (hpo, aI cI 4096 fo), (hpm, aI cI 4096 fm), (mm, .inr (10, [.int 0, .ref lev, .ref txt, .int 0, .int 0, .int 0, .int 0, .int 0, .int 0, .int 0, .int 0, .ref stm, .ref sm, .int 0, .ref sgn, .ref vls, .ref opn, .ref opp, .ref bke, .ref bko, .ref bkl, .ref cel, .int 0, .int 0, .ref tap, .ref tpl, .int 0, .int 0, .ref rtp, .ref rlv, .int 0, .ref sen, .ref hpo, .ref hpm, .ref bgn, .ref chn, .ref sgt, .int 1, .int 0, .ref rsd])), (bgn, aI cI 8192 (upd (upd fb 0 (-9)) 1 (-9))), (sgt, aJ cJ 6 u_5)] H := hP
  have hD : va_D A [(lev, aI cI 6 (fun _ => 0)), (cel, aI cI 6 fc), (sen, aJ cJ 24576 fn), (chn, aI cI 4096 fh), (hpo, aI cI 4096 fo), (hpm, aI cI 4096 fm), (mm, .inr (10, [.int 0, .ref lev, .ref txt, .int 0, .int 0, .int 0, .int 0, .int 0, .int 0, .int 0, .int 0, .ref stm, .ref sm, .int 0, .ref sgn, .ref vls, .ref opn, .ref opp, .ref bke, .ref bko, .ref bkl, .ref cel, .int 0, .int 0, .ref tap, .ref tpl, .int 0, .int 0, .ref rtp, .ref rlv, .int 0, .ref sen, .ref hpo, .ref hpm, .ref bgn, .ref chn, .ref sgt, .int 1, .int 0, .ref rsd])), (bgn, aI cI 8192 (upd (upd fb 0 (-9)) 1 (-9))), (sgt, aJ cJ 6 u_5)] := hD
  refine lv_iconst (v := 0) hx hb dX10_learns_14 (by decide) ?_
  refine lv_istore (lv' := [(5, .int 0), (0, .ref mm), (1, .int w), (2, .int t), (3, .int o1), (4, .int (-1))]) hx hb dX10_learns_15 hl (by decide) rfl (fun ls hl => ?_)
  refine lv_iload hx hb dX10_learns_17 (lv_at hl 0 rfl) ?_
  refine lv_aload_n hx hb dX10_learns_19 rfl (lv_at hl 1 rfl) ?_
  refine va_get (D := (dC, dI)) (ci := 10) (v := .int 1) (C := RX10) (T := TX10) (N := 40) hx hb hts hiX10 hown hK hP 6 rfl rfl 37 (by decide) (hts (.fieldLink RX10 210 "WatchedProgramsModel" "secrets" "I") (by decide +kernel)) (fun _ h9 => h9) rfl dX10_learns_20 ?_
  refine lv_icmp_ge (tgt := 151) hx hb dX10_learns_23 (by decide) (fun c_6 => absurd c_6 (by decide)) (fun _ => ?_)
  refine lv_iconst (v := 0) hx hb dX10_learns_26 (by decide) ?_
  refine lv_istore (lv' := [(6, .int 0), (5, .int 0), (0, .ref mm), (1, .int w), (2, .int t), (3, .int o1), (4, .int (-1))]) hx hb dX10_learns_27 hl (by decide) rfl (fun ls hl => ?_)
  refine lv_iconst (v := 0) hx hb dX10_learns_29 (by decide) ?_
  refine lv_istore (lv' := [(7, .int 0), (6, .int 0), (5, .int 0), (0, .ref mm), (1, .int w), (2, .int t), (3, .int o1), (4, .int (-1))]) hx hb dX10_learns_30 hl (by decide) rfl (fun ls hl => ?_)
  refine lv_iload hx hb dX10_learns_32 (lv_at hl 0 rfl) ?_
  refine lv_iload hx hb dX10_learns_34 (lv_at hl 7 rfl) ?_
  refine lv_if_ge (tgt := 43) hx hb dX10_learns_36 (by decide) (fun c_7 => absurd c_7 (by decide)) (fun _ => ?_)
  refine lv_iconst (v := 1) hx hb dX10_learns_39 (by decide) ?_
  refine lv_goto (tgt := 44) hx hb dX10_learns_40 (by decide) ?_
  refine lv_icmp_ge (tgt := 139) hx hb dX10_learns_44 (by decide) (fun c_8 => absurd c_8 (by decide)) (fun _ => ?_)
  refine lv_aload_n hx hb dX10_learns_47 rfl (lv_at hl 3 rfl) ?_
  refine lv_iload_n hx hb dX10_learns_48 rfl (lv_at hl 4 rfl) ?_
  refine lv_iconst (v := 1) hx hb dX10_learns_49 (by decide) ?_
  refine lv_iload hx hb dX10_learns_50 (lv_at hl 0 rfl) ?_
  refine lv_if_ne (tgt := 59) hx hb dX10_learns_52 (by decide) (fun c_9 => absurd (by decide) c_9) (fun _ => ?_)
  refine lv_iload_n hx hb dX10_learns_55 rfl (lv_at hl 6 rfl) ?_
  refine lv_goto (tgt := 61) hx hb dX10_learns_56 (by decide) ?_
  have hFc := va_free (wc := [(mm, .inr (10, [.int 0, .ref lev, .ref txt, .int 0, .int 0, .int 0, .int 0, .int 0, .int 0, .int 0, .int 0, .ref stm, .ref sm, .int 0, .ref sgn, .ref vls, .ref opn, .ref opp, .ref bke, .ref bko, .ref bkl, .ref cel, .int 0, .int 0, .ref tap, .ref tpl, .int 0, .int 0, .ref rtp, .ref rlv, .int 0, .ref sen, .ref hpo, .ref hpm, .ref bgn, .ref chn, .ref sgt, .int 1, .int 0, .ref rsd])), (lev, aI cI 6 (fun _ => 0)), (cel, aI cI 6 fc)]) hD hS hA [6, 0, 1] rfl
  refine zCv (wr := [(sen, aJ cJ 24576 fn), (chn, aI cI 4096 fh), (hpo, aI cI 4096 fo), (hpm, aI cI 4096 fm), (bgn, aI cI 8192 (upd (upd fb 0 (-9)) 1 (-9))), (sgt, aJ cJ 6 u_5)]) hP hD hS hFc [6, 0, 1] [2, 3, 4, 5, 7, 8] rfl rfl (by decide) (by decide) (va_runV (As := [.int w, .int 1, .int o1]) (rest := []) ⟨hx, hb, hml, hown, hts⟩ (m_tells1 l dC dI cI cJ cS H.size mm w o1 lev txt stm sm sgn vls opn opp bke bko bkl cel tap tpl rtp rlv sen hpo hpm bgn chn sgt 1 0 rsd fc ) (cwV 3 hts gX10_learns_X10_tells rfl rfl rfl (by decide +kernel) ⟨Nat.le_of_ble_eq_true rfl, Nat.le_of_ble_eq_true rfl⟩) (preEV (hP.sub (ws' := [(mm, .inr (10, [.int 0, .ref lev, .ref txt, .int 0, .int 0, .int 0, .int 0, .int 0, .int 0, .int 0, .int 0, .ref stm, .ref sm, .int 0, .ref sgn, .ref vls, .ref opn, .ref opp, .ref bke, .ref bko, .ref bkl, .ref cel, .int 0, .int 0, .ref tap, .ref tpl, .int 0, .int 0, .ref rtp, .ref rlv, .int 0, .ref sen, .ref hpo, .ref hpm, .ref bgn, .ref chn, .ref sgt, .int 1, .int 0, .ref rsd])), (lev, aI cI 6 (fun _ => 0)), (cel, aI cI 6 fc)]) [6, 0, 1] rfl) hE (hD.sub (ws' := [(mm, .inr (10, [.int 0, .ref lev, .ref txt, .int 0, .int 0, .int 0, .int 0, .int 0, .int 0, .int 0, .int 0, .ref stm, .ref sm, .int 0, .ref sgn, .ref vls, .ref opn, .ref opp, .ref bke, .ref bko, .ref bkl, .ref cel, .int 0, .int 0, .ref tap, .ref tpl, .int 0, .int 0, .ref rtp, .ref rlv, .int 0, .ref sen, .ref hpo, .ref hpm, .ref bgn, .ref chn, .ref sgt, .int 1, .int 0, .ref rsd])), (lev, aI cI 6 (fun _ => 0)), (cel, aI cI 6 fc)]) [6, 0, 1] (by decide) rfl) 0 (ci := 10) rfl rfl) rfl rfl hl.1 rfl (lv_room (Nat.le_of_ble_eq_true rfl)) dX10_learns_61 ⟨by decide +kernel, by decide +kernel⟩) (fun u_12 H locs hr_11 hP hD hS => ?_)
  try dsimp only at hr_11
  have hP : va_P (dC, dI) vwCl [(sen, aJ cJ 24576 fn), (chn, aI cI 4096 fh), (hpo, aI cI 4096 fo), (hpm, aI cI 4096 fm), (bgn, aI cI 8192 (upd (upd fb 0 (-9)) 1 (-9))), (sgt, aJ cJ 6 u_5), (mm, .inr (10, [.int 0, .ref lev, .ref txt, .int 0, .int 0, .int 0, .int 0, .int 0, .int 0, .int 0, .int 0, .ref stm, .ref sm, .int 0, .ref sgn, .ref vls, .ref opn, .ref opp, .ref bke, .ref bko, .ref bkl, .ref cel, .int 0, .int 0, .ref tap, .ref tpl, .int 0, .int 0, .ref rtp, .ref rlv, .int 0, .ref sen, .ref hpo, .ref hpm, .ref bgn, .ref chn, .ref sgt, .int 1, .int 0, .ref rsd])), (lev, aI cI 6 (fun _ => 0)), (cel, aI cI 6 u_12)] H := hP
  have hD : va_D A [(sen, aJ cJ 24576 fn), (chn, aI cI 4096 fh), (hpo, aI cI 4096 fo), (hpm, aI cI 4096 fm), (bgn, aI cI 8192 (upd (upd fb 0 (-9)) 1 (-9))), (sgt, aJ cJ 6 u_5), (mm, .inr (10, [.int 0, .ref lev, .ref txt, .int 0, .int 0, .int 0, .int 0, .int 0, .int 0, .int 0, .int 0, .ref stm, .ref sm, .int 0, .ref sgn, .ref vls, .ref opn, .ref opp, .ref bke, .ref bko, .ref bkl, .ref cel, .int 0, .int 0, .ref tap, .ref tpl, .int 0, .int 0, .ref rtp, .ref rlv, .int 0, .ref sen, .ref hpo, .ref hpm, .ref bgn, .ref chn, .ref sgt, .int 1, .int 0, .ref rsd])), (lev, aI cI 6 (fun _ => 0)), (cel, aI cI 6 u_12)] := hD
  refine lv_aload_n hx hb dX10_learns_64 rfl (lv_at hl 3 rfl) ?_
  refine lv_iload_n hx hb dX10_learns_65 rfl (lv_at hl 4 rfl) ?_
  refine lv_iconst (v := 0) hx hb dX10_learns_66 (by decide) ?_
  refine lv_iload hx hb dX10_learns_67 (lv_at hl 2 rfl) ?_
  refine va_csv (va_Run.run (va_runV (As := [.int w, .int 0, .int 0]) (rest := []) ⟨hx, hb, hml, hown, hts⟩ (m_tells0 l dC dI cI cJ cS  mm w 0 lev txt stm sm sgn vls opn opp bke bko bkl cel tap tpl rtp rlv sen hpo hpm bgn chn sgt 1 0 rsd ) (cwV 3 hts gX10_learns_X10_tells rfl rfl rfl (by decide +kernel) ⟨Nat.le_of_ble_eq_true rfl, Nat.le_of_ble_eq_true rfl⟩) (preRV (hP.sub (ws' := [(mm, .inr (10, [.int 0, .ref lev, .ref txt, .int 0, .int 0, .int 0, .int 0, .int 0, .int 0, .int 0, .int 0, .ref stm, .ref sm, .int 0, .ref sgn, .ref vls, .ref opn, .ref opp, .ref bke, .ref bko, .ref bkl, .ref cel, .int 0, .int 0, .ref tap, .ref tpl, .int 0, .int 0, .ref rtp, .ref rlv, .int 0, .ref sen, .ref hpo, .ref hpm, .ref bgn, .ref chn, .ref sgt, .int 1, .int 0, .ref rsd])), (lev, aI cI 6 (fun _ => 0))]) [6, 7] rfl) hE 0 (ci := 10) rfl rfl) rfl rfl hl.1 rfl (lv_room (Nat.le_of_ble_eq_true rfl)) dX10_learns_69 ⟨by decide +kernel, by decide +kernel⟩)) (fun hr_14 => ?_)
  refine lv_aload_n hx hb dX10_learns_72 rfl (lv_at hl 3 rfl) ?_
  have hFc := va_free (wc := [(mm, .inr (10, [.int 0, .ref lev, .ref txt, .int 0, .int 0, .int 0, .int 0, .int 0, .int 0, .int 0, .int 0, .ref stm, .ref sm, .int 0, .ref sgn, .ref vls, .ref opn, .ref opp, .ref bke, .ref bko, .ref bkl, .ref cel, .int 0, .int 0, .ref tap, .ref tpl, .int 0, .int 0, .ref rtp, .ref rlv, .int 0, .ref sen, .ref hpo, .ref hpm, .ref bgn, .ref chn, .ref sgt, .int 1, .int 0, .ref rsd]))]) hD hS hA [6] rfl
  refine zCv (wr := [(sen, aJ cJ 24576 fn), (chn, aI cI 4096 fh), (hpo, aI cI 4096 fo), (hpm, aI cI 4096 fm), (bgn, aI cI 8192 (upd (upd fb 0 (-9)) 1 (-9))), (sgt, aJ cJ 6 u_5), (lev, aI cI 6 (fun _ => 0)), (cel, aI cI 6 u_12)]) hP hD hS hFc [6] [0, 1, 2, 3, 4, 5, 7, 8] rfl rfl (by decide) (by decide) (va_runV (As := []) (rest := []) ⟨hx, hb, hml, hown, hts⟩ (m_runs l dC dI cI cJ cS H.size mm lev txt stm sm sgn vls opn opp bke bko bkl cel tap tpl rtp rlv sen hpo hpm bgn chn sgt 1 0 rsd ) (cwV 0 hts gX10_learns_X10_runs rfl rfl rfl (by decide +kernel) ⟨Nat.le_of_ble_eq_true rfl, Nat.le_of_ble_eq_true rfl⟩) (preEV (hP.sub (ws' := [(mm, .inr (10, [.int 0, .ref lev, .ref txt, .int 0, .int 0, .int 0, .int 0, .int 0, .int 0, .int 0, .int 0, .ref stm, .ref sm, .int 0, .ref sgn, .ref vls, .ref opn, .ref opp, .ref bke, .ref bko, .ref bkl, .ref cel, .int 0, .int 0, .ref tap, .ref tpl, .int 0, .int 0, .ref rtp, .ref rlv, .int 0, .ref sen, .ref hpo, .ref hpm, .ref bgn, .ref chn, .ref sgt, .int 1, .int 0, .ref rsd]))]) [6] rfl) hE (hD.sub (ws' := [(mm, .inr (10, [.int 0, .ref lev, .ref txt, .int 0, .int 0, .int 0, .int 0, .int 0, .int 0, .int 0, .int 0, .ref stm, .ref sm, .int 0, .ref sgn, .ref vls, .ref opn, .ref opp, .ref bke, .ref bko, .ref bkl, .ref cel, .int 0, .int 0, .ref tap, .ref tpl, .int 0, .int 0, .ref rtp, .ref rlv, .int 0, .ref sen, .ref hpo, .ref hpm, .ref bgn, .ref chn, .ref sgt, .int 1, .int 0, .ref rsd]))]) [6] (by decide) rfl) 0 (ci := 10) rfl rfl) rfl rfl hl.1 rfl (lv_room (Nat.le_of_ble_eq_true rfl)) dX10_learns_73 ⟨by decide +kernel, by decide +kernel⟩) (fun u_17 H locs hr_16 hP hD hS => ?_)
  try dsimp only at hr_16
  have hP : va_P (dC, dI) vwCl [(sen, aJ cJ 24576 fn), (chn, aI cI 4096 fh), (hpo, aI cI 4096 fo), (hpm, aI cI 4096 fm), (bgn, aI cI 8192 (upd (upd fb 0 (-9)) 1 (-9))), (sgt, aJ cJ 6 u_5), (lev, aI cI 6 (fun _ => 0)), (cel, aI cI 6 u_12), (mm, .inr (10, [.int 0, .ref lev, .ref txt, .int 0, .int 0, .int 0, .int 0, .int 0, .int 0, .int 0, .int 0, .ref stm, .ref sm, .int 0, .ref sgn, .ref vls, .ref opn, .ref opp, .ref bke, .ref bko, .ref bkl, .ref cel, .int 0, .int 0, .ref tap, .ref tpl, .int 0, .int 0, .ref rtp, .ref rlv, .int 0, .ref sen, .ref hpo, .ref hpm, .ref bgn, .ref chn, .ref sgt, .int 1, .int 0, .ref rsd]))] H := hP
  have hD : va_D A [(sen, aJ cJ 24576 fn), (chn, aI cI 4096 fh), (hpo, aI cI 4096 fo), (hpm, aI cI 4096 fm), (bgn, aI cI 8192 (upd (upd fb 0 (-9)) 1 (-9))), (sgt, aJ cJ 6 u_5), (lev, aI cI 6 (fun _ => 0)), (cel, aI cI 6 u_12), (mm, .inr (10, [.int 0, .ref lev, .ref txt, .int 0, .int 0, .int 0, .int 0, .int 0, .int 0, .int 0, .int 0, .ref stm, .ref sm, .int 0, .ref sgn, .ref vls, .ref opn, .ref opp, .ref bke, .ref bko, .ref bkl, .ref cel, .int 0, .int 0, .ref tap, .ref tpl, .int 0, .int 0, .ref rtp, .ref rlv, .int 0, .ref sen, .ref hpo, .ref hpm, .ref bgn, .ref chn, .ref sgt, .int 1, .int 0, .ref rsd]))] := hD
  refine lv_aload_n hx hb dX10_learns_76 rfl (lv_at hl 3 rfl) ?_
  refine lv_iload_n hx hb dX10_learns_77 rfl (lv_at hl 4 rfl) ?_
  refine lv_iconst (v := 3) hx hb dX10_learns_78 (by decide) ?_
  refine lv_iload hx hb dX10_learns_79 (lv_at hl 0 rfl) ?_
  refine lv_imul hx hb dX10_learns_81 ?_
  refine zi (y := 0) (by decide) ?_
  have hFc := va_free (wc := [(mm, .inr (10, [.int 0, .ref lev, .ref txt, .int 0, .int 0, .int 0, .int 0, .int 0, .int 0, .int 0, .int 0, .ref stm, .ref sm, .int 0, .ref sgn, .ref vls, .ref opn, .ref opp, .ref bke, .ref bko, .ref bkl, .ref cel, .int 0, .int 0, .ref tap, .ref tpl, .int 0, .int 0, .ref rtp, .ref rlv, .int 0, .ref sen, .ref hpo, .ref hpm, .ref bgn, .ref chn, .ref sgt, .int 1, .int 0, .ref rsd])), (lev, aI cI 6 (fun _ => 0)), (cel, aI cI 6 u_12), (sgt, aJ cJ 6 u_5)]) hD hS hA [8, 6, 7, 5] rfl
  refine zCv (wr := [(sen, aJ cJ 24576 fn), (chn, aI cI 4096 fh), (hpo, aI cI 4096 fo), (hpm, aI cI 4096 fm), (bgn, aI cI 8192 (upd (upd fb 0 (-9)) 1 (-9)))]) hP hD hS hFc [8, 6, 7, 5] [0, 1, 2, 3, 4] rfl rfl (by decide) (by decide) (va_runV (As := [.int w, .int 0]) (rest := []) ⟨hx, hb, hml, hown, hts⟩ (m_sees0 l dC dI cI cJ cS H.size mm w lev txt stm sm sgn vls opn opp bke bko bkl cel tap tpl rtp rlv sen hpo hpm bgn chn sgt 1 0 rsd u_12 u_5 ) (cwV 2 hts gX10_learns_X10_sees rfl rfl rfl (by decide +kernel) ⟨Nat.le_of_ble_eq_true rfl, Nat.le_of_ble_eq_true rfl⟩) (preEV (hP.sub (ws' := [(mm, .inr (10, [.int 0, .ref lev, .ref txt, .int 0, .int 0, .int 0, .int 0, .int 0, .int 0, .int 0, .int 0, .ref stm, .ref sm, .int 0, .ref sgn, .ref vls, .ref opn, .ref opp, .ref bke, .ref bko, .ref bkl, .ref cel, .int 0, .int 0, .ref tap, .ref tpl, .int 0, .int 0, .ref rtp, .ref rlv, .int 0, .ref sen, .ref hpo, .ref hpm, .ref bgn, .ref chn, .ref sgt, .int 1, .int 0, .ref rsd])), (lev, aI cI 6 (fun _ => 0)), (cel, aI cI 6 u_12), (sgt, aJ cJ 6 u_5)]) [8, 6, 7, 5] rfl) hE (hD.sub (ws' := [(mm, .inr (10, [.int 0, .ref lev, .ref txt, .int 0, .int 0, .int 0, .int 0, .int 0, .int 0, .int 0, .int 0, .ref stm, .ref sm, .int 0, .ref sgn, .ref vls, .ref opn, .ref opp, .ref bke, .ref bko, .ref bkl, .ref cel, .int 0, .int 0, .ref tap, .ref tpl, .int 0, .int 0, .ref rtp, .ref rlv, .int 0, .ref sen, .ref hpo, .ref hpm, .ref bgn, .ref chn, .ref sgt, .int 1, .int 0, .ref rsd])), (lev, aI cI 6 (fun _ => 0)), (cel, aI cI 6 u_12), (sgt, aJ cJ 6 u_5)]) [8, 6, 7, 5] (by decide) rfl) 0 (ci := 10) rfl rfl) rfl rfl hl.1 rfl (lv_room (Nat.le_of_ble_eq_true rfl)) dX10_learns_82 ⟨by decide +kernel, by decide +kernel⟩) (fun u_20 H locs hr_19 hP hD hS => ?_)
  try dsimp only at hr_19
  have hP : va_P (dC, dI) vwCl [(sen, aJ cJ 24576 fn), (chn, aI cI 4096 fh), (hpo, aI cI 4096 fo), (hpm, aI cI 4096 fm), (bgn, aI cI 8192 (upd (upd fb 0 (-9)) 1 (-9))), (mm, .inr (10, [.int 0, .ref lev, .ref txt, .int 0, .int 0, .int 0, .int 0, .int 0, .int 0, .int 0, .int 0, .ref stm, .ref sm, .int 0, .ref sgn, .ref vls, .ref opn, .ref opp, .ref bke, .ref bko, .ref bkl, .ref cel, .int 0, .int 0, .ref tap, .ref tpl, .int 0, .int 0, .ref rtp, .ref rlv, .int 0, .ref sen, .ref hpo, .ref hpm, .ref bgn, .ref chn, .ref sgt, .int 1, .int 0, .ref rsd])), (lev, aI cI 6 (fun _ => 0)), (cel, aI cI 6 u_12), (sgt, aJ cJ 6 u_20)] H := hP
  have hD : va_D A [(sen, aJ cJ 24576 fn), (chn, aI cI 4096 fh), (hpo, aI cI 4096 fo), (hpm, aI cI 4096 fm), (bgn, aI cI 8192 (upd (upd fb 0 (-9)) 1 (-9))), (mm, .inr (10, [.int 0, .ref lev, .ref txt, .int 0, .int 0, .int 0, .int 0, .int 0, .int 0, .int 0, .int 0, .ref stm, .ref sm, .int 0, .ref sgn, .ref vls, .ref opn, .ref opp, .ref bke, .ref bko, .ref bkl, .ref cel, .int 0, .int 0, .ref tap, .ref tpl, .int 0, .int 0, .ref rtp, .ref rlv, .int 0, .ref sen, .ref hpo, .ref hpm, .ref bgn, .ref chn, .ref sgt, .int 1, .int 0, .ref rsd])), (lev, aI cI 6 (fun _ => 0)), (cel, aI cI 6 u_12), (sgt, aJ cJ 6 u_20)] := hD
  refine lv_sipush (v := 512) hx hb dX10_learns_85 (by decide) ?_
  refine lv_iload hx hb dX10_learns_88 (lv_at hl 1 rfl) ?_
  refine lv_imul hx hb dX10_learns_90 ?_
  refine zi (y := 0) (by decide) ?_
  refine lv_iload_n hx hb dX10_learns_91 rfl (lv_at hl 5 rfl) ?_
  refine lv_iconst (v := 1) hx hb dX10_learns_92 (by decide) ?_
  refine lv_icmp_ne (tgt := 103) hx hb dX10_learns_93 (by decide) (fun c_21 => ?_) (fun c_21 => ?_)
  · refine lv_iconst (v := 0) hx hb dX10_learns_103 (by decide) ?_
    refine lv_iadd hx hb dX10_learns_104 ?_
    refine zi (y := 0) (by decide) ?_
    refine lv_istore (lv' := [(6, .int 0), (7, .int 0), (5, .int 0), (0, .ref mm), (1, .int w), (2, .int t), (3, .int o1), (4, .int (-1))]) hx hb dX10_learns_105 hl (by decide) rfl (fun ls hl => ?_)
    refine lv_aload_n hx hb dX10_learns_107 rfl (lv_at hl 3 rfl) ?_
    refine va_get (D := (dC, dI)) (ci := 10) (v := .ref sgt) (C := RX10) (T := TX10) (N := 40) hx hb hts hiX10 hown hK hP 5 rfl rfl 36 (by decide) (hts (.fieldLink RX10 74 "WatchedProgramsModel" "sight" "[J") (by decide +kernel)) (fun _ h9 => h9) rfl dX10_learns_108 ?_
    refine lv_iconst (v := 3) hx hb dX10_learns_111 (by decide) ?_
    refine lv_iload hx hb dX10_learns_112 (lv_at hl 1 rfl) ?_
    refine lv_imul hx hb dX10_learns_114 ?_
    refine zi (y := 0) (by decide) ?_
    refine lv_ldc2 (v := 262144) hx hb hown (hts (.constantLong RX10 234 (262144)) (by decide +kernel)) dX10_learns_115 ?_
    refine lv_aload_n hx hb dX10_learns_118 rfl (lv_at hl 3 rfl) ?_
    refine va_get (D := (dC, dI)) (ci := 10) (v := .ref sgt) (C := RX10) (T := TX10) (N := 40) hx hb hts hiX10 hown hK hP 5 rfl rfl 36 (by decide) (hts (.fieldLink RX10 74 "WatchedProgramsModel" "sight" "[J") (by decide +kernel)) (fun _ h9 => h9) rfl dX10_learns_119 ?_
    refine lv_iconst (v := 3) hx hb dX10_learns_122 (by decide) ?_
    refine lv_iload hx hb dX10_learns_123 (lv_at hl 1 rfl) ?_
    refine lv_imul hx hb dX10_learns_125 ?_
    refine zi (y := 0) (by decide) ?_
    refine va_lald hx hb hK hP 8 1 rfl rfl (by unfold vp_in; decide) dX10_learns_126 ?_
    refine zl (y := (u_20 0)) (by rfl) ?_
    refine lv_lmul hx hb dX10_learns_127 ?_
    refine lv_iload hx hb dX10_learns_128 (lv_at hl 0 rfl) ?_
    refine lv_i2l (v := 0) hx hb dX10_learns_130 (by decide) ?_
    refine lv_ladd hx hb dX10_learns_131 ?_
    refine va_last hx hb hK hP hD hS 8 1 rfl rfl (by unfold vp_in; decide) dX10_learns_132 (fun H locs hP hD hS => ?_)
    have hP : va_P (dC, dI) vwCl [(sen, aJ cJ 24576 fn), (chn, aI cI 4096 fh), (hpo, aI cI 4096 fo), (hpm, aI cI 4096 fm), (bgn, aI cI 8192 (upd (upd fb 0 (-9)) 1 (-9))), (mm, .inr (10, [.int 0, .ref lev, .ref txt, .int 0, .int 0, .int 0, .int 0, .int 0, .int 0, .int 0, .int 0, .ref stm, .ref sm, .int 0, .ref sgn, .ref vls, .ref opn, .ref opp, .ref bke, .ref bko, .ref bkl, .ref cel, .int 0, .int 0, .ref tap, .ref tpl, .int 0, .int 0, .ref rtp, .ref rlv, .int 0, .ref sen, .ref hpo, .ref hpm, .ref bgn, .ref chn, .ref sgt, .int 1, .int 0, .ref rsd])), (lev, aI cI 6 (fun _ => 0)), (cel, aI cI 6 u_12), (sgt, aJ cJ 6 (vp_updL u_20 0 ((262144 * (u_20 0)) + 0)))] H := hP
    have hD : va_D A [(sen, aJ cJ 24576 fn), (chn, aI cI 4096 fh), (hpo, aI cI 4096 fo), (hpm, aI cI 4096 fm), (bgn, aI cI 8192 (upd (upd fb 0 (-9)) 1 (-9))), (mm, .inr (10, [.int 0, .ref lev, .ref txt, .int 0, .int 0, .int 0, .int 0, .int 0, .int 0, .int 0, .int 0, .ref stm, .ref sm, .int 0, .ref sgn, .ref vls, .ref opn, .ref opp, .ref bke, .ref bko, .ref bkl, .ref cel, .int 0, .int 0, .ref tap, .ref tpl, .int 0, .int 0, .ref rtp, .ref rlv, .int 0, .ref sen, .ref hpo, .ref hpm, .ref bgn, .ref chn, .ref sgt, .int 1, .int 0, .ref rsd])), (lev, aI cI 6 (fun _ => 0)), (cel, aI cI 6 u_12), (sgt, aJ cJ 6 (vp_updL u_20 0 ((262144 * (u_20 0)) + 0)))] := hD
    refine lv_iinc (v := 1) (lv' := [(7, .int 1), (6, .int 0), (5, .int 0), (0, .ref mm), (1, .int w), (2, .int t), (3, .int o1), (4, .int (-1))]) hx hb dX10_learns_133 hl (k := 1) rfl (by decide) (by decide) rfl (fun ls hl => ?_)
    refine lv_goto (tgt := 32) hx hb dX10_learns_136 (by decide) ?_
    refine lv_iload hx hb dX10_learns_32 (lv_at hl 0 rfl) ?_
    refine lv_iload hx hb dX10_learns_34 (lv_at hl 7 rfl) ?_
    refine lv_if_ge (tgt := 43) hx hb dX10_learns_36 (by decide) (fun c_22 => absurd c_22 (by decide)) (fun _ => ?_)
    refine lv_iconst (v := 1) hx hb dX10_learns_39 (by decide) ?_
    refine lv_goto (tgt := 44) hx hb dX10_learns_40 (by decide) ?_
    refine lv_icmp_ge (tgt := 139) hx hb dX10_learns_44 (by decide) (fun _ => ?_) (fun c_23 => absurd (by decide) c_23)
    refine lv_aload_n hx hb dX10_learns_139 rfl (lv_at hl 3 rfl) ?_
    refine lv_iload hx hb dX10_learns_140 (lv_at hl 2 rfl) ?_
    have hFc := va_free (wc := [(mm, .inr (10, [.int 0, .ref lev, .ref txt, .int 0, .int 0, .int 0, .int 0, .int 0, .int 0, .int 0, .int 0, .ref stm, .ref sm, .int 0, .ref sgn, .ref vls, .ref opn, .ref opp, .ref bke, .ref bko, .ref bkl, .ref cel, .int 0, .int 0, .ref tap, .ref tpl, .int 0, .int 0, .ref rtp, .ref rlv, .int 0, .ref sen, .ref hpo, .ref hpm, .ref bgn, .ref chn, .ref sgt, .int 1, .int 0, .ref rsd])), (sgt, aJ cJ 6 (vp_updL u_20 0 ((262144 * (u_20 0)) + 0))), (sen, aJ cJ 24576 fn), (bgn, aI cI 8192 (upd (upd fb 0 (-9)) 1 (-9))), (chn, aI cI 4096 fh), (hpo, aI cI 4096 fo), (hpm, aI cI 4096 fm)]) hD hS hA [5, 8, 0, 4, 1, 2, 3] rfl
    refine zCv (wr := [(lev, aI cI 6 (fun _ => 0)), (cel, aI cI 6 u_12)]) hP hD hS hFc [5, 8, 0, 4, 1, 2, 3] [6, 7] rfl rfl (by decide) (by decide) (va_runV (As := [.int 0]) (rest := []) ⟨hx, hb, hml, hown, hts⟩ (m_takes l dC dI cI cJ cS H.size mm lev txt stm sm sgn vls opn opp bke bko bkl cel tap tpl rtp rlv sen hpo hpm bgn chn sgt rsd (vp_updL u_20 0 ((262144 * (u_20 0)) + 0)) fn fb fh fo fm ) (cwV 1 hts gX10_learns_X10_takes rfl rfl rfl (by decide +kernel) ⟨Nat.le_of_ble_eq_true rfl, Nat.le_of_ble_eq_true rfl⟩) (preEV (hP.sub (ws' := [(mm, .inr (10, [.int 0, .ref lev, .ref txt, .int 0, .int 0, .int 0, .int 0, .int 0, .int 0, .int 0, .int 0, .ref stm, .ref sm, .int 0, .ref sgn, .ref vls, .ref opn, .ref opp, .ref bke, .ref bko, .ref bkl, .ref cel, .int 0, .int 0, .ref tap, .ref tpl, .int 0, .int 0, .ref rtp, .ref rlv, .int 0, .ref sen, .ref hpo, .ref hpm, .ref bgn, .ref chn, .ref sgt, .int 1, .int 0, .ref rsd])), (sgt, aJ cJ 6 (vp_updL u_20 0 ((262144 * (u_20 0)) + 0))), (sen, aJ cJ 24576 fn), (bgn, aI cI 8192 (upd (upd fb 0 (-9)) 1 (-9))), (chn, aI cI 4096 fh), (hpo, aI cI 4096 fo), (hpm, aI cI 4096 fm)]) [5, 8, 0, 4, 1, 2, 3] rfl) hE (hD.sub (ws' := [(mm, .inr (10, [.int 0, .ref lev, .ref txt, .int 0, .int 0, .int 0, .int 0, .int 0, .int 0, .int 0, .int 0, .ref stm, .ref sm, .int 0, .ref sgn, .ref vls, .ref opn, .ref opp, .ref bke, .ref bko, .ref bkl, .ref cel, .int 0, .int 0, .ref tap, .ref tpl, .int 0, .int 0, .ref rtp, .ref rlv, .int 0, .ref sen, .ref hpo, .ref hpm, .ref bgn, .ref chn, .ref sgt, .int 1, .int 0, .ref rsd])), (sgt, aJ cJ 6 (vp_updL u_20 0 ((262144 * (u_20 0)) + 0))), (sen, aJ cJ 24576 fn), (bgn, aI cI 8192 (upd (upd fb 0 (-9)) 1 (-9))), (chn, aI cI 4096 fh), (hpo, aI cI 4096 fo), (hpm, aI cI 4096 fm)]) [5, 8, 0, 4, 1, 2, 3] (by decide) rfl) 0 (ci := 10) rfl rfl) rfl rfl hl.1 rfl (lv_room (Nat.le_of_ble_eq_true rfl)) dX10_learns_142 ⟨by decide +kernel, by decide +kernel⟩) (fun u_26 H locs hr_25 hP hD hS => ?_)
    obtain ⟨fs_27, fb_28, fh_29⟩ := u_26
    try dsimp only at hr_25
    have hP : va_P (dC, dI) vwCl [(lev, aI cI 6 (fun _ => 0)), (cel, aI cI 6 u_12), (mm, .inr (10, [.int 0, .ref lev, .ref txt, .int 0, .int 0, .int 0, .int 0, .int 0, .int 0, .int 0, .int 0, .ref stm, .ref sm, .int 0, .ref sgn, .ref vls, .ref opn, .ref opp, .ref bke, .ref bko, .ref bkl, .ref cel, .int 0, .int 0, .ref tap, .ref tpl, .int 0, .int 0, .ref rtp, .ref rlv, .int 0, .ref sen, .ref hpo, .ref hpm, .ref bgn, .ref chn, .ref sgt, .int 1, .int 1, .ref rsd])), (sgt, aJ cJ 6 (vp_updL u_20 0 ((262144 * (u_20 0)) + 0))), (sen, aJ cJ 24576 fs_27), (bgn, aI cI 8192 fb_28), (chn, aI cI 4096 fh_29), (hpo, aI cI 4096 (upd fo 0 0)), (hpm, aI cI 4096 (upd fm 0 1))] H := hP
    have hD : va_D A [(lev, aI cI 6 (fun _ => 0)), (cel, aI cI 6 u_12), (mm, .inr (10, [.int 0, .ref lev, .ref txt, .int 0, .int 0, .int 0, .int 0, .int 0, .int 0, .int 0, .int 0, .ref stm, .ref sm, .int 0, .ref sgn, .ref vls, .ref opn, .ref opp, .ref bke, .ref bko, .ref bkl, .ref cel, .int 0, .int 0, .ref tap, .ref tpl, .int 0, .int 0, .ref rtp, .ref rlv, .int 0, .ref sen, .ref hpo, .ref hpm, .ref bgn, .ref chn, .ref sgt, .int 1, .int 1, .ref rsd])), (sgt, aJ cJ 6 (vp_updL u_20 0 ((262144 * (u_20 0)) + 0))), (sen, aJ cJ 24576 fs_27), (bgn, aI cI 8192 fb_28), (chn, aI cI 4096 fh_29), (hpo, aI cI 4096 (upd fo 0 0)), (hpm, aI cI 4096 (upd fm 0 1))] := hD
    refine lv_iinc (v := 1) (lv' := [(5, .int 1), (7, .int 1), (6, .int 0), (0, .ref mm), (1, .int w), (2, .int t), (3, .int o1), (4, .int (-1))]) hx hb dX10_learns_145 hl (k := 2) rfl (by decide) (by decide) rfl (fun ls hl => ?_)
    refine lv_goto (tgt := 17) hx hb dX10_learns_148 (by decide) ?_
    refine lv_iload hx hb dX10_learns_17 (lv_at hl 0 rfl) ?_
    refine lv_aload_n hx hb dX10_learns_19 rfl (lv_at hl 3 rfl) ?_
    refine va_get (D := (dC, dI)) (ci := 10) (v := .int 1) (C := RX10) (T := TX10) (N := 40) hx hb hts hiX10 hown hK hP 2 rfl rfl 37 (by decide) (hts (.fieldLink RX10 210 "WatchedProgramsModel" "secrets" "I") (by decide +kernel)) (fun _ h9 => h9) rfl dX10_learns_20 ?_
    refine lv_icmp_ge (tgt := 151) hx hb dX10_learns_23 (by decide) (fun _ => ?_) (fun c_30 => absurd (by decide) c_30)
    have hP9 := hP.sub (ws' := [(mm, .inr (10, [.int 0, .ref lev, .ref txt, .int 0, .int 0, .int 0, .int 0, .int 0, .int 0, .int 0, .int 0, .ref stm, .ref sm, .int 0, .ref sgn, .ref vls, .ref opn, .ref opp, .ref bke, .ref bko, .ref bkl, .ref cel, .int 0, .int 0, .ref tap, .ref tpl, .int 0, .int 0, .ref rtp, .ref rlv, .int 0, .ref sen, .ref hpo, .ref hpm, .ref bgn, .ref chn, .ref sgt, .int 1, .int 1, .ref rsd])), (lev, aI cI 6 (fun _ => 0)), (cel, aI cI 6 u_12), (sgt, aJ cJ 6 (vp_updL u_20 0 ((262144 * (u_20 0)) + 0))), (sen, aJ cJ 24576 fs_27), (bgn, aI cI 8192 fb_28), (chn, aI cI 4096 fh_29), (hpo, aI cI 4096 (upd fo 0 0)), (hpm, aI cI 4096 (upd fm 0 1))]) [2, 0, 1, 3, 4, 5, 6, 7, 8] rfl
    have hD9 := hD.sub (ws' := [(mm, .inr (10, [.int 0, .ref lev, .ref txt, .int 0, .int 0, .int 0, .int 0, .int 0, .int 0, .int 0, .int 0, .ref stm, .ref sm, .int 0, .ref sgn, .ref vls, .ref opn, .ref opp, .ref bke, .ref bko, .ref bkl, .ref cel, .int 0, .int 0, .ref tap, .ref tpl, .int 0, .int 0, .ref rtp, .ref rlv, .int 0, .ref sen, .ref hpo, .ref hpm, .ref bgn, .ref chn, .ref sgt, .int 1, .int 1, .ref rsd])), (lev, aI cI 6 (fun _ => 0)), (cel, aI cI 6 u_12), (sgt, aJ cJ 6 (vp_updL u_20 0 ((262144 * (u_20 0)) + 0))), (sen, aJ cJ 24576 fs_27), (bgn, aI cI 8192 fb_28), (chn, aI cI 4096 fh_29), (hpo, aI cI 4096 (upd fo 0 0)), (hpm, aI cI 4096 (upd fm 0 1))]) [2, 0, 1, 3, 4, 5, 6, 7, 8] (by decide) rfl
    exact W.vret hx hb hr (fun tt_ ht hW => ⟨⟨(u_12, (vp_updL u_20 0 ((262144 * (u_20 0)) + 0)), fs_27, fb_28, fh_29), rfl, trivial, by rw [ht]; exact hP9, hD9⟩, hS.F ht⟩) hS.2.2 dX10_learns_151
  · refine lv_aload_n hx hb dX10_learns_96 rfl (lv_at hl 3 rfl) ?_
    refine va_get (D := (dC, dI)) (ci := 10) (v := .int 0) (C := RX10) (T := TX10) (N := 40) hx hb hts hiX10 hown hK hP 5 rfl rfl 22 (by decide) (hts (.fieldLink RX10 171 "WatchedProgramsModel" "steps" "I") (by decide +kernel)) (fun _ h9 => h9) rfl dX10_learns_97 ?_
    refine lv_goto (tgt := 104) hx hb dX10_learns_100 (by decide) ?_
    refine lv_iadd hx hb dX10_learns_104 ?_
    refine zi (y := 0) (by decide) ?_
    refine lv_istore (lv' := [(6, .int 0), (7, .int 0), (5, .int 0), (0, .ref mm), (1, .int w), (2, .int t), (3, .int o1), (4, .int (-1))]) hx hb dX10_learns_105 hl (by decide) rfl (fun ls hl => ?_)
    refine lv_aload_n hx hb dX10_learns_107 rfl (lv_at hl 3 rfl) ?_
    refine va_get (D := (dC, dI)) (ci := 10) (v := .ref sgt) (C := RX10) (T := TX10) (N := 40) hx hb hts hiX10 hown hK hP 5 rfl rfl 36 (by decide) (hts (.fieldLink RX10 74 "WatchedProgramsModel" "sight" "[J") (by decide +kernel)) (fun _ h9 => h9) rfl dX10_learns_108 ?_
    refine lv_iconst (v := 3) hx hb dX10_learns_111 (by decide) ?_
    refine lv_iload hx hb dX10_learns_112 (lv_at hl 1 rfl) ?_
    refine lv_imul hx hb dX10_learns_114 ?_
    refine zi (y := 0) (by decide) ?_
    refine lv_ldc2 (v := 262144) hx hb hown (hts (.constantLong RX10 234 (262144)) (by decide +kernel)) dX10_learns_115 ?_
    refine lv_aload_n hx hb dX10_learns_118 rfl (lv_at hl 3 rfl) ?_
    refine va_get (D := (dC, dI)) (ci := 10) (v := .ref sgt) (C := RX10) (T := TX10) (N := 40) hx hb hts hiX10 hown hK hP 5 rfl rfl 36 (by decide) (hts (.fieldLink RX10 74 "WatchedProgramsModel" "sight" "[J") (by decide +kernel)) (fun _ h9 => h9) rfl dX10_learns_119 ?_
    refine lv_iconst (v := 3) hx hb dX10_learns_122 (by decide) ?_
    refine lv_iload hx hb dX10_learns_123 (lv_at hl 1 rfl) ?_
    refine lv_imul hx hb dX10_learns_125 ?_
    refine zi (y := 0) (by decide) ?_
    refine va_lald hx hb hK hP 8 1 rfl rfl (by unfold vp_in; decide) dX10_learns_126 ?_
    refine zl (y := (u_20 0)) (by rfl) ?_
    refine lv_lmul hx hb dX10_learns_127 ?_
    refine lv_iload hx hb dX10_learns_128 (lv_at hl 0 rfl) ?_
    refine lv_i2l (v := 0) hx hb dX10_learns_130 (by decide) ?_
    refine lv_ladd hx hb dX10_learns_131 ?_
    refine va_last hx hb hK hP hD hS 8 1 rfl rfl (by unfold vp_in; decide) dX10_learns_132 (fun H locs hP hD hS => ?_)
    have hP : va_P (dC, dI) vwCl [(sen, aJ cJ 24576 fn), (chn, aI cI 4096 fh), (hpo, aI cI 4096 fo), (hpm, aI cI 4096 fm), (bgn, aI cI 8192 (upd (upd fb 0 (-9)) 1 (-9))), (mm, .inr (10, [.int 0, .ref lev, .ref txt, .int 0, .int 0, .int 0, .int 0, .int 0, .int 0, .int 0, .int 0, .ref stm, .ref sm, .int 0, .ref sgn, .ref vls, .ref opn, .ref opp, .ref bke, .ref bko, .ref bkl, .ref cel, .int 0, .int 0, .ref tap, .ref tpl, .int 0, .int 0, .ref rtp, .ref rlv, .int 0, .ref sen, .ref hpo, .ref hpm, .ref bgn, .ref chn, .ref sgt, .int 1, .int 0, .ref rsd])), (lev, aI cI 6 (fun _ => 0)), (cel, aI cI 6 u_12), (sgt, aJ cJ 6 (vp_updL u_20 0 ((262144 * (u_20 0)) + 0)))] H := hP
    have hD : va_D A [(sen, aJ cJ 24576 fn), (chn, aI cI 4096 fh), (hpo, aI cI 4096 fo), (hpm, aI cI 4096 fm), (bgn, aI cI 8192 (upd (upd fb 0 (-9)) 1 (-9))), (mm, .inr (10, [.int 0, .ref lev, .ref txt, .int 0, .int 0, .int 0, .int 0, .int 0, .int 0, .int 0, .int 0, .ref stm, .ref sm, .int 0, .ref sgn, .ref vls, .ref opn, .ref opp, .ref bke, .ref bko, .ref bkl, .ref cel, .int 0, .int 0, .ref tap, .ref tpl, .int 0, .int 0, .ref rtp, .ref rlv, .int 0, .ref sen, .ref hpo, .ref hpm, .ref bgn, .ref chn, .ref sgt, .int 1, .int 0, .ref rsd])), (lev, aI cI 6 (fun _ => 0)), (cel, aI cI 6 u_12), (sgt, aJ cJ 6 (vp_updL u_20 0 ((262144 * (u_20 0)) + 0)))] := hD
    refine lv_iinc (v := 1) (lv' := [(7, .int 1), (6, .int 0), (5, .int 0), (0, .ref mm), (1, .int w), (2, .int t), (3, .int o1), (4, .int (-1))]) hx hb dX10_learns_133 hl (k := 1) rfl (by decide) (by decide) rfl (fun ls hl => ?_)
    refine lv_goto (tgt := 32) hx hb dX10_learns_136 (by decide) ?_
    refine lv_iload hx hb dX10_learns_32 (lv_at hl 0 rfl) ?_
    refine lv_iload hx hb dX10_learns_34 (lv_at hl 7 rfl) ?_
    refine lv_if_ge (tgt := 43) hx hb dX10_learns_36 (by decide) (fun c_31 => absurd c_31 (by decide)) (fun _ => ?_)
    refine lv_iconst (v := 1) hx hb dX10_learns_39 (by decide) ?_
    refine lv_goto (tgt := 44) hx hb dX10_learns_40 (by decide) ?_
    refine lv_icmp_ge (tgt := 139) hx hb dX10_learns_44 (by decide) (fun _ => ?_) (fun c_32 => absurd (by decide) c_32)
    refine lv_aload_n hx hb dX10_learns_139 rfl (lv_at hl 3 rfl) ?_
    refine lv_iload hx hb dX10_learns_140 (lv_at hl 2 rfl) ?_
    have hFc := va_free (wc := [(mm, .inr (10, [.int 0, .ref lev, .ref txt, .int 0, .int 0, .int 0, .int 0, .int 0, .int 0, .int 0, .int 0, .ref stm, .ref sm, .int 0, .ref sgn, .ref vls, .ref opn, .ref opp, .ref bke, .ref bko, .ref bkl, .ref cel, .int 0, .int 0, .ref tap, .ref tpl, .int 0, .int 0, .ref rtp, .ref rlv, .int 0, .ref sen, .ref hpo, .ref hpm, .ref bgn, .ref chn, .ref sgt, .int 1, .int 0, .ref rsd])), (sgt, aJ cJ 6 (vp_updL u_20 0 ((262144 * (u_20 0)) + 0))), (sen, aJ cJ 24576 fn), (bgn, aI cI 8192 (upd (upd fb 0 (-9)) 1 (-9))), (chn, aI cI 4096 fh), (hpo, aI cI 4096 fo), (hpm, aI cI 4096 fm)]) hD hS hA [5, 8, 0, 4, 1, 2, 3] rfl
    refine zCv (wr := [(lev, aI cI 6 (fun _ => 0)), (cel, aI cI 6 u_12)]) hP hD hS hFc [5, 8, 0, 4, 1, 2, 3] [6, 7] rfl rfl (by decide) (by decide) (va_runV (As := [.int 0]) (rest := []) ⟨hx, hb, hml, hown, hts⟩ (m_takes l dC dI cI cJ cS H.size mm lev txt stm sm sgn vls opn opp bke bko bkl cel tap tpl rtp rlv sen hpo hpm bgn chn sgt rsd (vp_updL u_20 0 ((262144 * (u_20 0)) + 0)) fn fb fh fo fm ) (cwV 1 hts gX10_learns_X10_takes rfl rfl rfl (by decide +kernel) ⟨Nat.le_of_ble_eq_true rfl, Nat.le_of_ble_eq_true rfl⟩) (preEV (hP.sub (ws' := [(mm, .inr (10, [.int 0, .ref lev, .ref txt, .int 0, .int 0, .int 0, .int 0, .int 0, .int 0, .int 0, .int 0, .ref stm, .ref sm, .int 0, .ref sgn, .ref vls, .ref opn, .ref opp, .ref bke, .ref bko, .ref bkl, .ref cel, .int 0, .int 0, .ref tap, .ref tpl, .int 0, .int 0, .ref rtp, .ref rlv, .int 0, .ref sen, .ref hpo, .ref hpm, .ref bgn, .ref chn, .ref sgt, .int 1, .int 0, .ref rsd])), (sgt, aJ cJ 6 (vp_updL u_20 0 ((262144 * (u_20 0)) + 0))), (sen, aJ cJ 24576 fn), (bgn, aI cI 8192 (upd (upd fb 0 (-9)) 1 (-9))), (chn, aI cI 4096 fh), (hpo, aI cI 4096 fo), (hpm, aI cI 4096 fm)]) [5, 8, 0, 4, 1, 2, 3] rfl) hE (hD.sub (ws' := [(mm, .inr (10, [.int 0, .ref lev, .ref txt, .int 0, .int 0, .int 0, .int 0, .int 0, .int 0, .int 0, .int 0, .ref stm, .ref sm, .int 0, .ref sgn, .ref vls, .ref opn, .ref opp, .ref bke, .ref bko, .ref bkl, .ref cel, .int 0, .int 0, .ref tap, .ref tpl, .int 0, .int 0, .ref rtp, .ref rlv, .int 0, .ref sen, .ref hpo, .ref hpm, .ref bgn, .ref chn, .ref sgt, .int 1, .int 0, .ref rsd])), (sgt, aJ cJ 6 (vp_updL u_20 0 ((262144 * (u_20 0)) + 0))), (sen, aJ cJ 24576 fn), (bgn, aI cI 8192 (upd (upd fb 0 (-9)) 1 (-9))), (chn, aI cI 4096 fh), (hpo, aI cI 4096 fo), (hpm, aI cI 4096 fm)]) [5, 8, 0, 4, 1, 2, 3] (by decide) rfl) 0 (ci := 10) rfl rfl) rfl rfl hl.1 rfl (lv_room (Nat.le_of_ble_eq_true rfl)) dX10_learns_142 ⟨by decide +kernel, by decide +kernel⟩) (fun u_35 H locs hr_34 hP hD hS => ?_)
    obtain ⟨fs_36, fb_37, fh_38⟩ := u_35
    try dsimp only at hr_34
    have hP : va_P (dC, dI) vwCl [(lev, aI cI 6 (fun _ => 0)), (cel, aI cI 6 u_12), (mm, .inr (10, [.int 0, .ref lev, .ref txt, .int 0, .int 0, .int 0, .int 0, .int 0, .int 0, .int 0, .int 0, .ref stm, .ref sm, .int 0, .ref sgn, .ref vls, .ref opn, .ref opp, .ref bke, .ref bko, .ref bkl, .ref cel, .int 0, .int 0, .ref tap, .ref tpl, .int 0, .int 0, .ref rtp, .ref rlv, .int 0, .ref sen, .ref hpo, .ref hpm, .ref bgn, .ref chn, .ref sgt, .int 1, .int 1, .ref rsd])), (sgt, aJ cJ 6 (vp_updL u_20 0 ((262144 * (u_20 0)) + 0))), (sen, aJ cJ 24576 fs_36), (bgn, aI cI 8192 fb_37), (chn, aI cI 4096 fh_38), (hpo, aI cI 4096 (upd fo 0 0)), (hpm, aI cI 4096 (upd fm 0 1))] H := hP
    have hD : va_D A [(lev, aI cI 6 (fun _ => 0)), (cel, aI cI 6 u_12), (mm, .inr (10, [.int 0, .ref lev, .ref txt, .int 0, .int 0, .int 0, .int 0, .int 0, .int 0, .int 0, .int 0, .ref stm, .ref sm, .int 0, .ref sgn, .ref vls, .ref opn, .ref opp, .ref bke, .ref bko, .ref bkl, .ref cel, .int 0, .int 0, .ref tap, .ref tpl, .int 0, .int 0, .ref rtp, .ref rlv, .int 0, .ref sen, .ref hpo, .ref hpm, .ref bgn, .ref chn, .ref sgt, .int 1, .int 1, .ref rsd])), (sgt, aJ cJ 6 (vp_updL u_20 0 ((262144 * (u_20 0)) + 0))), (sen, aJ cJ 24576 fs_36), (bgn, aI cI 8192 fb_37), (chn, aI cI 4096 fh_38), (hpo, aI cI 4096 (upd fo 0 0)), (hpm, aI cI 4096 (upd fm 0 1))] := hD
    refine lv_iinc (v := 1) (lv' := [(5, .int 1), (7, .int 1), (6, .int 0), (0, .ref mm), (1, .int w), (2, .int t), (3, .int o1), (4, .int (-1))]) hx hb dX10_learns_145 hl (k := 2) rfl (by decide) (by decide) rfl (fun ls hl => ?_)
    refine lv_goto (tgt := 17) hx hb dX10_learns_148 (by decide) ?_
    refine lv_iload hx hb dX10_learns_17 (lv_at hl 0 rfl) ?_
    refine lv_aload_n hx hb dX10_learns_19 rfl (lv_at hl 3 rfl) ?_
    refine va_get (D := (dC, dI)) (ci := 10) (v := .int 1) (C := RX10) (T := TX10) (N := 40) hx hb hts hiX10 hown hK hP 2 rfl rfl 37 (by decide) (hts (.fieldLink RX10 210 "WatchedProgramsModel" "secrets" "I") (by decide +kernel)) (fun _ h9 => h9) rfl dX10_learns_20 ?_
    refine lv_icmp_ge (tgt := 151) hx hb dX10_learns_23 (by decide) (fun _ => ?_) (fun c_39 => absurd (by decide) c_39)
    have hP9 := hP.sub (ws' := [(mm, .inr (10, [.int 0, .ref lev, .ref txt, .int 0, .int 0, .int 0, .int 0, .int 0, .int 0, .int 0, .int 0, .ref stm, .ref sm, .int 0, .ref sgn, .ref vls, .ref opn, .ref opp, .ref bke, .ref bko, .ref bkl, .ref cel, .int 0, .int 0, .ref tap, .ref tpl, .int 0, .int 0, .ref rtp, .ref rlv, .int 0, .ref sen, .ref hpo, .ref hpm, .ref bgn, .ref chn, .ref sgt, .int 1, .int 1, .ref rsd])), (lev, aI cI 6 (fun _ => 0)), (cel, aI cI 6 u_12), (sgt, aJ cJ 6 (vp_updL u_20 0 ((262144 * (u_20 0)) + 0))), (sen, aJ cJ 24576 fs_36), (bgn, aI cI 8192 fb_37), (chn, aI cI 4096 fh_38), (hpo, aI cI 4096 (upd fo 0 0)), (hpm, aI cI 4096 (upd fm 0 1))]) [2, 0, 1, 3, 4, 5, 6, 7, 8] rfl
    have hD9 := hD.sub (ws' := [(mm, .inr (10, [.int 0, .ref lev, .ref txt, .int 0, .int 0, .int 0, .int 0, .int 0, .int 0, .int 0, .int 0, .ref stm, .ref sm, .int 0, .ref sgn, .ref vls, .ref opn, .ref opp, .ref bke, .ref bko, .ref bkl, .ref cel, .int 0, .int 0, .ref tap, .ref tpl, .int 0, .int 0, .ref rtp, .ref rlv, .int 0, .ref sen, .ref hpo, .ref hpm, .ref bgn, .ref chn, .ref sgt, .int 1, .int 1, .ref rsd])), (lev, aI cI 6 (fun _ => 0)), (cel, aI cI 6 u_12), (sgt, aJ cJ 6 (vp_updL u_20 0 ((262144 * (u_20 0)) + 0))), (sen, aJ cJ 24576 fs_36), (bgn, aI cI 8192 fb_37), (chn, aI cI 4096 fh_38), (hpo, aI cI 4096 (upd fo 0 0)), (hpm, aI cI 4096 (upd fm 0 1))]) [2, 0, 1, 3, 4, 5, 6, 7, 8] (by decide) rfl
    exact W.vret hx hb hr (fun tt_ ht hW => ⟨⟨(u_12, (vp_updL u_20 0 ((262144 * (u_20 0)) + 0)), fs_36, fb_37, fh_38), rfl, trivial, by rw [ht]; exact hP9, hD9⟩, hS.F ht⟩) hS.2.2 dX10_learns_151
set_option maxHeartbeats 1000000 in
set_option maxRecDepth 100000 in
theorem m_learnsB (l : Launch) (dC : Nat → ClassId) (dI : Nat → Nat → Nat) (cI cJ cS : ClassId) (sz : Nat) (mm : Nat) (w : Int32) (t : Int32) (o1 : Int32) (tw : Int32) (lev : Nat) (txt : Nat) (stm : Nat) (sm : Nat) (sgn : Nat) (vls : Nat) (opn : Nat) (opp : Nat) (bke : Nat) (bko : Nat) (bkl : Nat) (cel : Nat) (tap : Nat) (tpl : Nat) (rtp : Nat) (rlv : Nat) (sen : Nat) (hpo : Nat) (hpm : Nat) (bgn : Nat) (chn : Nat) (sgt : Nat) (sc : Int32) (hp : Int32) (rsd : Nat) (fc : Nat → Int32) (fg : Nat → Int64) (fn : Nat → Int64) (fb : Nat → Int32) (fh : Nat → Int32) (fo : Nat → Int32) (fm : Nat → Int32) (htw : ¬ tw < 0) : Met l yX10_learns wsX10_learns ({ frames := 2, cells := 0, slots := 0, locals := 52 }) (va_Pc [.ref mm, .int w, .int t, .int o1, .int tw] (PE dC dI cI cJ cS [(mm, .inr (10, [.int 0, .ref lev, .ref txt, .int 0, .int 0, .int 0, .int 0, .int 0, .int 0, .int 0, .int 0, .ref stm, .ref sm, .int 0, .ref sgn, .ref vls, .ref opn, .ref opp, .ref bke, .ref bko, .ref bkl, .ref cel, .int 0, .int 0, .ref tap, .ref tpl, .int 0, .int 0, .ref rtp, .ref rlv, .int 0, .ref sen, .ref hpo, .ref hpm, .ref bgn, .ref chn, .ref sgt, .int sc, .int hp, .ref rsd])), (lev, aI cI 6 (fun _ => 0)), (cel, aI cI 6 fc), (sgt, aJ cJ 6 fg), (sen, aJ cJ 24576 fn), (bgn, aI cI 8192 fb), (chn, aI cI 4096 fh), (hpo, aI cI 4096 fo), (hpm, aI cI 4096 fm)] sz)) (va_Qv (fun (uu : ((Nat → Int32) × (Nat → Int64) × (Nat → Int64) × (Nat → Int32) × (Nat → Int32))) => True) (BE dC dI (va_A [(mm, .inr (10, [.int 0, .ref lev, .ref txt, .int 0, .int 0, .int 0, .int 0, .int 0, .int 0, .int 0, .int 0, .ref stm, .ref sm, .int 0, .ref sgn, .ref vls, .ref opn, .ref opp, .ref bke, .ref bko, .ref bkl, .ref cel, .int 0, .int 0, .ref tap, .ref tpl, .int 0, .int 0, .ref rtp, .ref rlv, .int 0, .ref sen, .ref hpo, .ref hpm, .ref bgn, .ref chn, .ref sgt, .int sc, .int hp, .ref rsd])), (lev, aI cI 6 (fun _ => 0)), (cel, aI cI 6 fc), (sgt, aJ cJ 6 fg), (sen, aJ cJ 24576 fn), (bgn, aI cI 8192 fb), (chn, aI cI 4096 fh), (hpo, aI cI 4096 fo), (hpm, aI cI 4096 fm)] sz) (fun (uu : ((Nat → Int32) × (Nat → Int64) × (Nat → Int64) × (Nat → Int32) × (Nat → Int32))) => [(mm, .inr (10, [.int 0, .ref lev, .ref txt, .int 0, .int 0, .int 0, .int 0, .int 0, .int 0, .int 0, .int 0, .ref stm, .ref sm, .int 0, .ref sgn, .ref vls, .ref opn, .ref opp, .ref bke, .ref bko, .ref bkl, .ref cel, .int 0, .int 0, .ref tap, .ref tpl, .int 0, .int 0, .ref rtp, .ref rlv, .int 0, .ref sen, .ref hpo, .ref hpm, .ref bgn, .ref chn, .ref sgt, .int 1, .int 1, .ref rsd])), (lev, aI cI 6 (fun _ => 0)), (cel, aI cI 6 uu.1), (sgt, aJ cJ 6 uu.2.1), (sen, aJ cJ 24576 uu.2.2.1), (bgn, aI cI 8192 uu.2.2.2.1), (chn, aI cI 4096 uu.2.2.2.2), (hpo, aI cI 4096 (upd fo 0 0)), (hpm, aI cI 4096 (upd fm 0 1))])) (va_A [(mm, .inr (10, [.int 0, .ref lev, .ref txt, .int 0, .int 0, .int 0, .int 0, .int 0, .int 0, .int 0, .int 0, .ref stm, .ref sm, .int 0, .ref sgn, .ref vls, .ref opn, .ref opp, .ref bke, .ref bko, .ref bkl, .ref cel, .int 0, .int 0, .ref tap, .ref tpl, .int 0, .int 0, .ref rtp, .ref rlv, .int 0, .ref sen, .ref hpo, .ref hpm, .ref bgn, .ref chn, .ref sgt, .int sc, .int hp, .ref rsd])), (lev, aI cI 6 (fun _ => 0)), (cel, aI cI 6 fc), (sgt, aJ cJ 6 fg), (sen, aJ cJ 24576 fn), (bgn, aI cI 8192 fb), (chn, aI cI 4096 fh), (hpo, aI cI 4096 fo), (hpm, aI cI 4096 fm)] sz)) 0 0 (va_A [(mm, .inr (10, [.int 0, .ref lev, .ref txt, .int 0, .int 0, .int 0, .int 0, .int 0, .int 0, .int 0, .int 0, .ref stm, .ref sm, .int 0, .ref sgn, .ref vls, .ref opn, .ref opp, .ref bke, .ref bko, .ref bkl, .ref cel, .int 0, .int 0, .ref tap, .ref tpl, .int 0, .int 0, .ref rtp, .ref rlv, .int 0, .ref sen, .ref hpo, .ref hpm, .ref bgn, .ref chn, .ref sgt, .int sc, .int hp, .ref rsd])), (lev, aI cI 6 (fun _ => 0)), (cel, aI cI 6 fc), (sgt, aJ cJ 6 fg), (sen, aJ cJ 24576 fn), (bgn, aI cI 8192 fb), (chn, aI cI 4096 fh), (hpo, aI cI 4096 fo), (hpm, aI cI 4096 fm)] sz) := by
  refine Met.ofW (cc := cX10_learns) (maxL := 8) (ret := none) (by decide) rfl ?_
  intro pp_ ee_ ss_ mm_ args below meth cc_ s₁ B hml hv
  obtain ⟨rfl, hsz, hP, hE, hD0⟩ := hv
  have hx := B.exec
  have hb := B.bytes
  have hr := B.returns
  have hts := atoms_spec (ws := wsX10_learns) B.pre
  have hown : ss_.vm.findClass RX10 = some mm_.cls := findClass_of_methodNamed B.named
  have hlocks := B.notSynchronized
  have hK := hE.1
  have hiX10 : ∀ w ∈ wsX100, w ∈ wsX10_learns := by decide +kernel
  subst hsz
  have hD := hD0.self (sz := ss_.heap.size)
  generalize hAe : va_A [(mm, .inr (10, [.int 0, .ref lev, .ref txt, .int 0, .int 0, .int 0, .int 0, .int 0, .int 0, .int 0, .int 0, .ref stm, .ref sm, .int 0, .ref sgn, .ref vls, .ref opn, .ref opp, .ref bke, .ref bko, .ref bkl, .ref cel, .int 0, .int 0, .ref tap, .ref tpl, .int 0, .int 0, .ref rtp, .ref rlv, .int 0, .ref sen, .ref hpo, .ref hpm, .ref bgn, .ref chn, .ref sgt, .int sc, .int hp, .ref rsd])), (lev, aI cI 6 (fun _ => 0)), (cel, aI cI 6 fc), (sgt, aJ cJ 6 fg), (sen, aJ cJ 24576 fn), (bgn, aI cI 8192 fb), (chn, aI cI 4096 fh), (hpo, aI cI 4096 fo), (hpm, aI cI 4096 fm)] ss_.heap.size = A at hD ⊢
  have hA : ∀ q : Nat, ss_.heap.size ≤ q → A q := fun q h => by rw [← hAe]; exact Or.inr h
  have hS : va_S A ss_.heap ss_.heap [] := va_S.rf
  have hP : va_P (dC, dI) vwCl [(mm, .inr (10, [.int 0, .ref lev, .ref txt, .int 0, .int 0, .int 0, .int 0, .int 0, .int 0, .int 0, .int 0, .ref stm, .ref sm, .int 0, .ref sgn, .ref vls, .ref opn, .ref opp, .ref bke, .ref bko, .ref bkl, .ref cel, .int 0, .int 0, .ref tap, .ref tpl, .int 0, .int 0, .ref rtp, .ref rlv, .int 0, .ref sen, .ref hpo, .ref hpm, .ref bgn, .ref chn, .ref sgt, .int sc, .int hp, .ref rsd])), (lev, aI cI 6 (fun _ => 0)), (cel, aI cI 6 fc), (sgt, aJ cJ 6 fg), (sen, aJ cJ 24576 fn), (bgn, aI cI 8192 fb), (chn, aI cI 4096 fh), (hpo, aI cI 4096 fo), (hpm, aI cI 4096 fm)] ss_.heap := hP
  have hl := lv_entry ([.ref mm, .int w, .int t, .int o1, .int tw]) (n := 8) (Nat.le_of_ble_eq_true rfl)
  rw [lg_entry_eq]
  generalize (lg_sl ([.ref mm, .int w, .int t, .int o1, .int tw]) ++ List.replicate (8 - (lg_sl ([.ref mm, .int w, .int t, .int o1, .int tw])).length) Slot.unset).toArray = ls at hl ⊢
  have hl : lv_has ls 8 [(0, .ref mm), (1, .int w), (2, .int t), (3, .int o1), (4, .int tw)] := hl
  refine lv_aload_n hx hb dX10_learns_0 rfl (lv_at hl 0 rfl) ?_
  refine lv_iconst (v := 1) hx hb dX10_learns_1 (by decide) ?_
  refine lv_iconst (v := 2) hx hb dX10_learns_2 (by decide) ?_
  refine lv_aload_n hx hb dX10_learns_3 rfl (lv_at hl 0 rfl) ?_
  refine lv_iload_n hx hb dX10_learns_4 rfl (lv_at hl 1 rfl) ?_
  refine lv_iconst (v := 0) hx hb dX10_learns_5 (by decide) ?_
  refine vp_callSi (va_Run.run (va_runV (As := [.int w, .int 0]) (rest := [.int 2, .int 1, .ref mm]) ⟨hx, hb, hml, hown, hts⟩ (m_cells0 l dC dI cI cJ cS  mm w lev txt stm sm sgn vls opn opp bke bko bkl cel tap tpl rtp rlv sen hpo hpm bgn chn sgt sc hp rsd ) (cwV 2 hts gX10_learns_X10_cells rfl rfl rfl (by decide +kernel) ⟨Nat.le_of_ble_eq_true rfl, Nat.le_of_ble_eq_true rfl⟩) (preRV (hP.sub (ws' := [(mm, .inr (10, [.int 0, .ref lev, .ref txt, .int 0, .int 0, .int 0, .int 0, .int 0, .int 0, .int 0, .int 0, .ref stm, .ref sm, .int 0, .ref sgn, .ref vls, .ref opn, .ref opp, .ref bke, .ref bko, .ref bkl, .ref cel, .int 0, .int 0, .ref tap, .ref tpl, .int 0, .int 0, .ref rtp, .ref rlv, .int 0, .ref sen, .ref hpo, .ref hpm, .ref bgn, .ref chn, .ref sgt, .int sc, .int hp, .ref rsd])), (lev, aI cI 6 (fun _ => 0))]) [0, 1] rfl) hE 0 (ci := 10) rfl rfl) rfl rfl hl.1 rfl (lv_room (Nat.le_of_ble_eq_true rfl)) dX10_learns_6 ⟨by decide +kernel, by decide +kernel⟩)) (fun r_1 hr_2 => ?_)
  obtain rfl := hr_2
  refine lv_imul hx hb dX10_learns_9 ?_
  refine zi (y := 0) (by decide) ?_
  refine lv_ishl hx hb dX10_learns_10 ?_
  refine zi (y := 1) (by decide) ?_
  have hFc := va_free (wc := [(mm, .inr (10, [.int 0, .ref lev, .ref txt, .int 0, .int 0, .int 0, .int 0, .int 0, .int 0, .int 0, .int 0, .ref stm, .ref sm, .int 0, .ref sgn, .ref vls, .ref opn, .ref opp, .ref bke, .ref bko, .ref bkl, .ref cel, .int 0, .int 0, .ref tap, .ref tpl, .int 0, .int 0, .ref rtp, .ref rlv, .int 0, .ref sen, .ref hpo, .ref hpm, .ref bgn, .ref chn, .ref sgt, .int sc, .int hp, .ref rsd])), (bgn, aI cI 8192 fb), (sgt, aJ cJ 6 fg)]) hD hS hA [0, 5, 3] rfl
  refine zCv (wr := [(lev, aI cI 6 (fun _ => 0)), (cel, aI cI 6 fc), (sen, aJ cJ 24576 fn), (chn, aI cI 4096 fh), (hpo, aI cI 4096 fo), (hpm, aI cI 4096 fm)]) hP hD hS hFc [0, 5, 3] [1, 2, 4, 6, 7, 8] rfl rfl (by decide) (by decide) (va_runV (As := [.int 1]) (rest := []) ⟨hx, hb, hml, hown, hts⟩ (m_clears l dC dI cI cJ cS ss_.heap.size mm lev txt stm sm sgn vls opn opp bke bko bkl cel tap tpl rtp rlv sen hpo hpm bgn chn sgt sc hp rsd fb fg ) (cwV 1 hts gX10_learns_X10_clears rfl rfl rfl (by decide +kernel) ⟨Nat.le_of_ble_eq_true rfl, Nat.le_of_ble_eq_true rfl⟩) (preEV (hP.sub (ws' := [(mm, .inr (10, [.int 0, .ref lev, .ref txt, .int 0, .int 0, .int 0, .int 0, .int 0, .int 0, .int 0, .int 0, .ref stm, .ref sm, .int 0, .ref sgn, .ref vls, .ref opn, .ref opp, .ref bke, .ref bko, .ref bkl, .ref cel, .int 0, .int 0, .ref tap, .ref tpl, .int 0, .int 0, .ref rtp, .ref rlv, .int 0, .ref sen, .ref hpo, .ref hpm, .ref bgn, .ref chn, .ref sgt, .int sc, .int hp, .ref rsd])), (bgn, aI cI 8192 fb), (sgt, aJ cJ 6 fg)]) [0, 5, 3] rfl) hE (hD.sub (ws' := [(mm, .inr (10, [.int 0, .ref lev, .ref txt, .int 0, .int 0, .int 0, .int 0, .int 0, .int 0, .int 0, .int 0, .ref stm, .ref sm, .int 0, .ref sgn, .ref vls, .ref opn, .ref opp, .ref bke, .ref bko, .ref bkl, .ref cel, .int 0, .int 0, .ref tap, .ref tpl, .int 0, .int 0, .ref rtp, .ref rlv, .int 0, .ref sen, .ref hpo, .ref hpm, .ref bgn, .ref chn, .ref sgt, .int sc, .int hp, .ref rsd])), (bgn, aI cI 8192 fb), (sgt, aJ cJ 6 fg)]) [0, 5, 3] (by decide) rfl) 0 (ci := 10) rfl rfl) rfl rfl hl.1 rfl (lv_room (Nat.le_of_ble_eq_true rfl)) dX10_learns_11 ⟨by decide +kernel, by decide +kernel⟩) (fun u_5 H locs hr_4 hP hD hS => ?_)
  try dsimp only at hr_4
  have hP : va_P (dC, dI) vwCl [(lev, aI cI 6 (fun _ => 0)), (cel, aI cI 6 fc), (sen, aJ cJ 24576 fn), (chn, aI cI 4096 fh), (hpo, aI cI 4096 fo), (hpm, aI cI 4096 fm), (mm, .inr (10, [.int 0, .ref lev, .ref txt, .int 0, .int 0, .int 0, .int 0, .int 0, .int 0, .int 0, .int 0, .ref stm, .ref sm, .int 0, .ref sgn, .ref vls, .ref opn, .ref opp, .ref bke, .ref bko, .ref bkl, .ref cel, .int 0, .int 0, .ref tap, .ref tpl, .int 0, .int 0, .ref rtp, .ref rlv, .int 0, .ref sen, .ref hpo, .ref hpm, .ref bgn, .ref chn, .ref sgt, .int 1, .int 0, .ref rsd])), (bgn, aI cI 8192 (upd (upd fb 0 (-9)) 1 (-9))), (sgt, aJ cJ 6 u_5)] H := hP
  have hD : va_D A [(lev, aI cI 6 (fun _ => 0)), (cel, aI cI 6 fc), (sen, aJ cJ 24576 fn), (chn, aI cI 4096 fh), (hpo, aI cI 4096 fo), (hpm, aI cI 4096 fm), (mm, .inr (10, [.int 0, .ref lev, .ref txt, .int 0, .int 0, .int 0, .int 0, .int 0, .int 0, .int 0, .int 0, .ref stm, .ref sm, .int 0, .ref sgn, .ref vls, .ref opn, .ref opp, .ref bke, .ref bko, .ref bkl, .ref cel, .int 0, .int 0, .ref tap, .ref tpl, .int 0, .int 0, .ref rtp, .ref rlv, .int 0, .ref sen, .ref hpo, .ref hpm, .ref bgn, .ref chn, .ref sgt, .int 1, .int 0, .ref rsd])), (bgn, aI cI 8192 (upd (upd fb 0 (-9)) 1 (-9))), (sgt, aJ cJ 6 u_5)] := hD
  refine lv_iconst (v := 0) hx hb dX10_learns_14 (by decide) ?_
  refine lv_istore (lv' := [(5, .int 0), (0, .ref mm), (1, .int w), (2, .int t), (3, .int o1), (4, .int tw)]) hx hb dX10_learns_15 hl (by decide) rfl (fun ls hl => ?_)
  refine lv_iload hx hb dX10_learns_17 (lv_at hl 0 rfl) ?_
  refine lv_aload_n hx hb dX10_learns_19 rfl (lv_at hl 1 rfl) ?_
  refine va_get (D := (dC, dI)) (ci := 10) (v := .int 1) (C := RX10) (T := TX10) (N := 40) hx hb hts hiX10 hown hK hP 6 rfl rfl 37 (by decide) (hts (.fieldLink RX10 210 "WatchedProgramsModel" "secrets" "I") (by decide +kernel)) (fun _ h9 => h9) rfl dX10_learns_20 ?_
  refine lv_icmp_ge (tgt := 151) hx hb dX10_learns_23 (by decide) (fun c_6 => absurd c_6 (by decide)) (fun _ => ?_)
  refine lv_iconst (v := 0) hx hb dX10_learns_26 (by decide) ?_
  refine lv_istore (lv' := [(6, .int 0), (5, .int 0), (0, .ref mm), (1, .int w), (2, .int t), (3, .int o1), (4, .int tw)]) hx hb dX10_learns_27 hl (by decide) rfl (fun ls hl => ?_)
  refine lv_iconst (v := 0) hx hb dX10_learns_29 (by decide) ?_
  refine lv_istore (lv' := [(7, .int 0), (6, .int 0), (5, .int 0), (0, .ref mm), (1, .int w), (2, .int t), (3, .int o1), (4, .int tw)]) hx hb dX10_learns_30 hl (by decide) rfl (fun ls hl => ?_)
  refine lv_iload hx hb dX10_learns_32 (lv_at hl 0 rfl) ?_
  refine lv_iload hx hb dX10_learns_34 (lv_at hl 7 rfl) ?_
  refine lv_if_ge (tgt := 43) hx hb dX10_learns_36 (by decide) (fun _ => ?_) (fun c_7 => absurd (by simp only [Int32.lt_iff_toInt_lt, Int32.le_iff_toInt_le, ← Int32.toInt_inj, tI_0, tI_1, tI_2, tI_3, tI_4, tI_5, tI_6, tI_7, tI_8, tI_20, tI_30, tI_300, tI_400, tI_4095, tI_4096, tI_m1, tI_m2, tI_m3, tI_m9] at htw ⊢ <;> omega) c_7)
  refine lv_iconst (v := 2) hx hb dX10_learns_43 (by decide) ?_
  refine lv_icmp_ge (tgt := 139) hx hb dX10_learns_44 (by decide) (fun c_8 => absurd c_8 (by decide)) (fun _ => ?_)
  refine lv_aload_n hx hb dX10_learns_47 rfl (lv_at hl 3 rfl) ?_
  refine lv_iload_n hx hb dX10_learns_48 rfl (lv_at hl 4 rfl) ?_
  refine lv_iconst (v := 1) hx hb dX10_learns_49 (by decide) ?_
  refine lv_iload hx hb dX10_learns_50 (lv_at hl 0 rfl) ?_
  refine lv_if_ne (tgt := 59) hx hb dX10_learns_52 (by decide) (fun c_9 => absurd (by decide) c_9) (fun _ => ?_)
  refine lv_iload_n hx hb dX10_learns_55 rfl (lv_at hl 6 rfl) ?_
  refine lv_goto (tgt := 61) hx hb dX10_learns_56 (by decide) ?_
  have hFc := va_free (wc := [(mm, .inr (10, [.int 0, .ref lev, .ref txt, .int 0, .int 0, .int 0, .int 0, .int 0, .int 0, .int 0, .int 0, .ref stm, .ref sm, .int 0, .ref sgn, .ref vls, .ref opn, .ref opp, .ref bke, .ref bko, .ref bkl, .ref cel, .int 0, .int 0, .ref tap, .ref tpl, .int 0, .int 0, .ref rtp, .ref rlv, .int 0, .ref sen, .ref hpo, .ref hpm, .ref bgn, .ref chn, .ref sgt, .int 1, .int 0, .ref rsd])), (lev, aI cI 6 (fun _ => 0)), (cel, aI cI 6 fc)]) hD hS hA [6, 0, 1] rfl
  refine zCv (wr := [(sen, aJ cJ 24576 fn), (chn, aI cI 4096 fh), (hpo, aI cI 4096 fo), (hpm, aI cI 4096 fm), (bgn, aI cI 8192 (upd (upd fb 0 (-9)) 1 (-9))), (sgt, aJ cJ 6 u_5)]) hP hD hS hFc [6, 0, 1] [2, 3, 4, 5, 7, 8] rfl rfl (by decide) (by decide) (va_runV (As := [.int w, .int 1, .int o1]) (rest := []) ⟨hx, hb, hml, hown, hts⟩ (m_tells1 l dC dI cI cJ cS H.size mm w o1 lev txt stm sm sgn vls opn opp bke bko bkl cel tap tpl rtp rlv sen hpo hpm bgn chn sgt 1 0 rsd fc ) (cwV 3 hts gX10_learns_X10_tells rfl rfl rfl (by decide +kernel) ⟨Nat.le_of_ble_eq_true rfl, Nat.le_of_ble_eq_true rfl⟩) (preEV (hP.sub (ws' := [(mm, .inr (10, [.int 0, .ref lev, .ref txt, .int 0, .int 0, .int 0, .int 0, .int 0, .int 0, .int 0, .int 0, .ref stm, .ref sm, .int 0, .ref sgn, .ref vls, .ref opn, .ref opp, .ref bke, .ref bko, .ref bkl, .ref cel, .int 0, .int 0, .ref tap, .ref tpl, .int 0, .int 0, .ref rtp, .ref rlv, .int 0, .ref sen, .ref hpo, .ref hpm, .ref bgn, .ref chn, .ref sgt, .int 1, .int 0, .ref rsd])), (lev, aI cI 6 (fun _ => 0)), (cel, aI cI 6 fc)]) [6, 0, 1] rfl) hE (hD.sub (ws' := [(mm, .inr (10, [.int 0, .ref lev, .ref txt, .int 0, .int 0, .int 0, .int 0, .int 0, .int 0, .int 0, .int 0, .ref stm, .ref sm, .int 0, .ref sgn, .ref vls, .ref opn, .ref opp, .ref bke, .ref bko, .ref bkl, .ref cel, .int 0, .int 0, .ref tap, .ref tpl, .int 0, .int 0, .ref rtp, .ref rlv, .int 0, .ref sen, .ref hpo, .ref hpm, .ref bgn, .ref chn, .ref sgt, .int 1, .int 0, .ref rsd])), (lev, aI cI 6 (fun _ => 0)), (cel, aI cI 6 fc)]) [6, 0, 1] (by decide) rfl) 0 (ci := 10) rfl rfl) rfl rfl hl.1 rfl (lv_room (Nat.le_of_ble_eq_true rfl)) dX10_learns_61 ⟨by decide +kernel, by decide +kernel⟩) (fun u_12 H locs hr_11 hP hD hS => ?_)
  try dsimp only at hr_11
  have hP : va_P (dC, dI) vwCl [(sen, aJ cJ 24576 fn), (chn, aI cI 4096 fh), (hpo, aI cI 4096 fo), (hpm, aI cI 4096 fm), (bgn, aI cI 8192 (upd (upd fb 0 (-9)) 1 (-9))), (sgt, aJ cJ 6 u_5), (mm, .inr (10, [.int 0, .ref lev, .ref txt, .int 0, .int 0, .int 0, .int 0, .int 0, .int 0, .int 0, .int 0, .ref stm, .ref sm, .int 0, .ref sgn, .ref vls, .ref opn, .ref opp, .ref bke, .ref bko, .ref bkl, .ref cel, .int 0, .int 0, .ref tap, .ref tpl, .int 0, .int 0, .ref rtp, .ref rlv, .int 0, .ref sen, .ref hpo, .ref hpm, .ref bgn, .ref chn, .ref sgt, .int 1, .int 0, .ref rsd])), (lev, aI cI 6 (fun _ => 0)), (cel, aI cI 6 u_12)] H := hP
  have hD : va_D A [(sen, aJ cJ 24576 fn), (chn, aI cI 4096 fh), (hpo, aI cI 4096 fo), (hpm, aI cI 4096 fm), (bgn, aI cI 8192 (upd (upd fb 0 (-9)) 1 (-9))), (sgt, aJ cJ 6 u_5), (mm, .inr (10, [.int 0, .ref lev, .ref txt, .int 0, .int 0, .int 0, .int 0, .int 0, .int 0, .int 0, .int 0, .ref stm, .ref sm, .int 0, .ref sgn, .ref vls, .ref opn, .ref opp, .ref bke, .ref bko, .ref bkl, .ref cel, .int 0, .int 0, .ref tap, .ref tpl, .int 0, .int 0, .ref rtp, .ref rlv, .int 0, .ref sen, .ref hpo, .ref hpm, .ref bgn, .ref chn, .ref sgt, .int 1, .int 0, .ref rsd])), (lev, aI cI 6 (fun _ => 0)), (cel, aI cI 6 u_12)] := hD
  refine lv_aload_n hx hb dX10_learns_64 rfl (lv_at hl 3 rfl) ?_
  refine lv_iload_n hx hb dX10_learns_65 rfl (lv_at hl 4 rfl) ?_
  refine lv_iconst (v := 0) hx hb dX10_learns_66 (by decide) ?_
  refine lv_iload hx hb dX10_learns_67 (lv_at hl 2 rfl) ?_
  refine va_csv (va_Run.run (va_runV (As := [.int w, .int 0, .int 0]) (rest := []) ⟨hx, hb, hml, hown, hts⟩ (m_tells0 l dC dI cI cJ cS  mm w 0 lev txt stm sm sgn vls opn opp bke bko bkl cel tap tpl rtp rlv sen hpo hpm bgn chn sgt 1 0 rsd ) (cwV 3 hts gX10_learns_X10_tells rfl rfl rfl (by decide +kernel) ⟨Nat.le_of_ble_eq_true rfl, Nat.le_of_ble_eq_true rfl⟩) (preRV (hP.sub (ws' := [(mm, .inr (10, [.int 0, .ref lev, .ref txt, .int 0, .int 0, .int 0, .int 0, .int 0, .int 0, .int 0, .int 0, .ref stm, .ref sm, .int 0, .ref sgn, .ref vls, .ref opn, .ref opp, .ref bke, .ref bko, .ref bkl, .ref cel, .int 0, .int 0, .ref tap, .ref tpl, .int 0, .int 0, .ref rtp, .ref rlv, .int 0, .ref sen, .ref hpo, .ref hpm, .ref bgn, .ref chn, .ref sgt, .int 1, .int 0, .ref rsd])), (lev, aI cI 6 (fun _ => 0))]) [6, 7] rfl) hE 0 (ci := 10) rfl rfl) rfl rfl hl.1 rfl (lv_room (Nat.le_of_ble_eq_true rfl)) dX10_learns_69 ⟨by decide +kernel, by decide +kernel⟩)) (fun hr_14 => ?_)
  refine lv_aload_n hx hb dX10_learns_72 rfl (lv_at hl 3 rfl) ?_
  have hFc := va_free (wc := [(mm, .inr (10, [.int 0, .ref lev, .ref txt, .int 0, .int 0, .int 0, .int 0, .int 0, .int 0, .int 0, .int 0, .ref stm, .ref sm, .int 0, .ref sgn, .ref vls, .ref opn, .ref opp, .ref bke, .ref bko, .ref bkl, .ref cel, .int 0, .int 0, .ref tap, .ref tpl, .int 0, .int 0, .ref rtp, .ref rlv, .int 0, .ref sen, .ref hpo, .ref hpm, .ref bgn, .ref chn, .ref sgt, .int 1, .int 0, .ref rsd]))]) hD hS hA [6] rfl
  refine zCv (wr := [(sen, aJ cJ 24576 fn), (chn, aI cI 4096 fh), (hpo, aI cI 4096 fo), (hpm, aI cI 4096 fm), (bgn, aI cI 8192 (upd (upd fb 0 (-9)) 1 (-9))), (sgt, aJ cJ 6 u_5), (lev, aI cI 6 (fun _ => 0)), (cel, aI cI 6 u_12)]) hP hD hS hFc [6] [0, 1, 2, 3, 4, 5, 7, 8] rfl rfl (by decide) (by decide) (va_runV (As := []) (rest := []) ⟨hx, hb, hml, hown, hts⟩ (m_runs l dC dI cI cJ cS H.size mm lev txt stm sm sgn vls opn opp bke bko bkl cel tap tpl rtp rlv sen hpo hpm bgn chn sgt 1 0 rsd ) (cwV 0 hts gX10_learns_X10_runs rfl rfl rfl (by decide +kernel) ⟨Nat.le_of_ble_eq_true rfl, Nat.le_of_ble_eq_true rfl⟩) (preEV (hP.sub (ws' := [(mm, .inr (10, [.int 0, .ref lev, .ref txt, .int 0, .int 0, .int 0, .int 0, .int 0, .int 0, .int 0, .int 0, .ref stm, .ref sm, .int 0, .ref sgn, .ref vls, .ref opn, .ref opp, .ref bke, .ref bko, .ref bkl, .ref cel, .int 0, .int 0, .ref tap, .ref tpl, .int 0, .int 0, .ref rtp, .ref rlv, .int 0, .ref sen, .ref hpo, .ref hpm, .ref bgn, .ref chn, .ref sgt, .int 1, .int 0, .ref rsd]))]) [6] rfl) hE (hD.sub (ws' := [(mm, .inr (10, [.int 0, .ref lev, .ref txt, .int 0, .int 0, .int 0, .int 0, .int 0, .int 0, .int 0, .int 0, .ref stm, .ref sm, .int 0, .ref sgn, .ref vls, .ref opn, .ref opp, .ref bke, .ref bko, .ref bkl, .ref cel, .int 0, .int 0, .ref tap, .ref tpl, .int 0, .int 0, .ref rtp, .ref rlv, .int 0, .ref sen, .ref hpo, .ref hpm, .ref bgn, .ref chn, .ref sgt, .int 1, .int 0, .ref rsd]))]) [6] (by decide) rfl) 0 (ci := 10) rfl rfl) rfl rfl hl.1 rfl (lv_room (Nat.le_of_ble_eq_true rfl)) dX10_learns_73 ⟨by decide +kernel, by decide +kernel⟩) (fun u_17 H locs hr_16 hP hD hS => ?_)
  try dsimp only at hr_16
  have hP : va_P (dC, dI) vwCl [(sen, aJ cJ 24576 fn), (chn, aI cI 4096 fh), (hpo, aI cI 4096 fo), (hpm, aI cI 4096 fm), (bgn, aI cI 8192 (upd (upd fb 0 (-9)) 1 (-9))), (sgt, aJ cJ 6 u_5), (lev, aI cI 6 (fun _ => 0)), (cel, aI cI 6 u_12), (mm, .inr (10, [.int 0, .ref lev, .ref txt, .int 0, .int 0, .int 0, .int 0, .int 0, .int 0, .int 0, .int 0, .ref stm, .ref sm, .int 0, .ref sgn, .ref vls, .ref opn, .ref opp, .ref bke, .ref bko, .ref bkl, .ref cel, .int 0, .int 0, .ref tap, .ref tpl, .int 0, .int 0, .ref rtp, .ref rlv, .int 0, .ref sen, .ref hpo, .ref hpm, .ref bgn, .ref chn, .ref sgt, .int 1, .int 0, .ref rsd]))] H := hP
  have hD : va_D A [(sen, aJ cJ 24576 fn), (chn, aI cI 4096 fh), (hpo, aI cI 4096 fo), (hpm, aI cI 4096 fm), (bgn, aI cI 8192 (upd (upd fb 0 (-9)) 1 (-9))), (sgt, aJ cJ 6 u_5), (lev, aI cI 6 (fun _ => 0)), (cel, aI cI 6 u_12), (mm, .inr (10, [.int 0, .ref lev, .ref txt, .int 0, .int 0, .int 0, .int 0, .int 0, .int 0, .int 0, .int 0, .ref stm, .ref sm, .int 0, .ref sgn, .ref vls, .ref opn, .ref opp, .ref bke, .ref bko, .ref bkl, .ref cel, .int 0, .int 0, .ref tap, .ref tpl, .int 0, .int 0, .ref rtp, .ref rlv, .int 0, .ref sen, .ref hpo, .ref hpm, .ref bgn, .ref chn, .ref sgt, .int 1, .int 0, .ref rsd]))] := hD
  refine lv_aload_n hx hb dX10_learns_76 rfl (lv_at hl 3 rfl) ?_
  refine lv_iload_n hx hb dX10_learns_77 rfl (lv_at hl 4 rfl) ?_
  refine lv_iconst (v := 3) hx hb dX10_learns_78 (by decide) ?_
  refine lv_iload hx hb dX10_learns_79 (lv_at hl 0 rfl) ?_
  refine lv_imul hx hb dX10_learns_81 ?_
  refine zi (y := 0) (by decide) ?_
  have hFc := va_free (wc := [(mm, .inr (10, [.int 0, .ref lev, .ref txt, .int 0, .int 0, .int 0, .int 0, .int 0, .int 0, .int 0, .int 0, .ref stm, .ref sm, .int 0, .ref sgn, .ref vls, .ref opn, .ref opp, .ref bke, .ref bko, .ref bkl, .ref cel, .int 0, .int 0, .ref tap, .ref tpl, .int 0, .int 0, .ref rtp, .ref rlv, .int 0, .ref sen, .ref hpo, .ref hpm, .ref bgn, .ref chn, .ref sgt, .int 1, .int 0, .ref rsd])), (lev, aI cI 6 (fun _ => 0)), (cel, aI cI 6 u_12), (sgt, aJ cJ 6 u_5)]) hD hS hA [8, 6, 7, 5] rfl
  refine zCv (wr := [(sen, aJ cJ 24576 fn), (chn, aI cI 4096 fh), (hpo, aI cI 4096 fo), (hpm, aI cI 4096 fm), (bgn, aI cI 8192 (upd (upd fb 0 (-9)) 1 (-9)))]) hP hD hS hFc [8, 6, 7, 5] [0, 1, 2, 3, 4] rfl rfl (by decide) (by decide) (va_runV (As := [.int w, .int 0]) (rest := []) ⟨hx, hb, hml, hown, hts⟩ (m_sees0 l dC dI cI cJ cS H.size mm w lev txt stm sm sgn vls opn opp bke bko bkl cel tap tpl rtp rlv sen hpo hpm bgn chn sgt 1 0 rsd u_12 u_5 ) (cwV 2 hts gX10_learns_X10_sees rfl rfl rfl (by decide +kernel) ⟨Nat.le_of_ble_eq_true rfl, Nat.le_of_ble_eq_true rfl⟩) (preEV (hP.sub (ws' := [(mm, .inr (10, [.int 0, .ref lev, .ref txt, .int 0, .int 0, .int 0, .int 0, .int 0, .int 0, .int 0, .int 0, .ref stm, .ref sm, .int 0, .ref sgn, .ref vls, .ref opn, .ref opp, .ref bke, .ref bko, .ref bkl, .ref cel, .int 0, .int 0, .ref tap, .ref tpl, .int 0, .int 0, .ref rtp, .ref rlv, .int 0, .ref sen, .ref hpo, .ref hpm, .ref bgn, .ref chn, .ref sgt, .int 1, .int 0, .ref rsd])), (lev, aI cI 6 (fun _ => 0)), (cel, aI cI 6 u_12), (sgt, aJ cJ 6 u_5)]) [8, 6, 7, 5] rfl) hE (hD.sub (ws' := [(mm, .inr (10, [.int 0, .ref lev, .ref txt, .int 0, .int 0, .int 0, .int 0, .int 0, .int 0, .int 0, .int 0, .ref stm, .ref sm, .int 0, .ref sgn, .ref vls, .ref opn, .ref opp, .ref bke, .ref bko, .ref bkl, .ref cel, .int 0, .int 0, .ref tap, .ref tpl, .int 0, .int 0, .ref rtp, .ref rlv, .int 0, .ref sen, .ref hpo, .ref hpm, .ref bgn, .ref chn, .ref sgt, .int 1, .int 0, .ref rsd])), (lev, aI cI 6 (fun _ => 0)), (cel, aI cI 6 u_12), (sgt, aJ cJ 6 u_5)]) [8, 6, 7, 5] (by decide) rfl) 0 (ci := 10) rfl rfl) rfl rfl hl.1 rfl (lv_room (Nat.le_of_ble_eq_true rfl)) dX10_learns_82 ⟨by decide +kernel, by decide +kernel⟩) (fun u_20 H locs hr_19 hP hD hS => ?_)
  try dsimp only at hr_19
  have hP : va_P (dC, dI) vwCl [(sen, aJ cJ 24576 fn), (chn, aI cI 4096 fh), (hpo, aI cI 4096 fo), (hpm, aI cI 4096 fm), (bgn, aI cI 8192 (upd (upd fb 0 (-9)) 1 (-9))), (mm, .inr (10, [.int 0, .ref lev, .ref txt, .int 0, .int 0, .int 0, .int 0, .int 0, .int 0, .int 0, .int 0, .ref stm, .ref sm, .int 0, .ref sgn, .ref vls, .ref opn, .ref opp, .ref bke, .ref bko, .ref bkl, .ref cel, .int 0, .int 0, .ref tap, .ref tpl, .int 0, .int 0, .ref rtp, .ref rlv, .int 0, .ref sen, .ref hpo, .ref hpm, .ref bgn, .ref chn, .ref sgt, .int 1, .int 0, .ref rsd])), (lev, aI cI 6 (fun _ => 0)), (cel, aI cI 6 u_12), (sgt, aJ cJ 6 u_20)] H := hP
  have hD : va_D A [(sen, aJ cJ 24576 fn), (chn, aI cI 4096 fh), (hpo, aI cI 4096 fo), (hpm, aI cI 4096 fm), (bgn, aI cI 8192 (upd (upd fb 0 (-9)) 1 (-9))), (mm, .inr (10, [.int 0, .ref lev, .ref txt, .int 0, .int 0, .int 0, .int 0, .int 0, .int 0, .int 0, .int 0, .ref stm, .ref sm, .int 0, .ref sgn, .ref vls, .ref opn, .ref opp, .ref bke, .ref bko, .ref bkl, .ref cel, .int 0, .int 0, .ref tap, .ref tpl, .int 0, .int 0, .ref rtp, .ref rlv, .int 0, .ref sen, .ref hpo, .ref hpm, .ref bgn, .ref chn, .ref sgt, .int 1, .int 0, .ref rsd])), (lev, aI cI 6 (fun _ => 0)), (cel, aI cI 6 u_12), (sgt, aJ cJ 6 u_20)] := hD
  refine lv_sipush (v := 512) hx hb dX10_learns_85 (by decide) ?_
  refine lv_iload hx hb dX10_learns_88 (lv_at hl 1 rfl) ?_
  refine lv_imul hx hb dX10_learns_90 ?_
  refine zi (y := 0) (by decide) ?_
  refine lv_iload_n hx hb dX10_learns_91 rfl (lv_at hl 5 rfl) ?_
  refine lv_iconst (v := 1) hx hb dX10_learns_92 (by decide) ?_
  refine lv_icmp_ne (tgt := 103) hx hb dX10_learns_93 (by decide) (fun c_21 => ?_) (fun c_21 => ?_)
  · refine lv_iconst (v := 0) hx hb dX10_learns_103 (by decide) ?_
    refine lv_iadd hx hb dX10_learns_104 ?_
    refine zi (y := 0) (by decide) ?_
    refine lv_istore (lv' := [(6, .int 0), (7, .int 0), (5, .int 0), (0, .ref mm), (1, .int w), (2, .int t), (3, .int o1), (4, .int tw)]) hx hb dX10_learns_105 hl (by decide) rfl (fun ls hl => ?_)
    refine lv_aload_n hx hb dX10_learns_107 rfl (lv_at hl 3 rfl) ?_
    refine va_get (D := (dC, dI)) (ci := 10) (v := .ref sgt) (C := RX10) (T := TX10) (N := 40) hx hb hts hiX10 hown hK hP 5 rfl rfl 36 (by decide) (hts (.fieldLink RX10 74 "WatchedProgramsModel" "sight" "[J") (by decide +kernel)) (fun _ h9 => h9) rfl dX10_learns_108 ?_
    refine lv_iconst (v := 3) hx hb dX10_learns_111 (by decide) ?_
    refine lv_iload hx hb dX10_learns_112 (lv_at hl 1 rfl) ?_
    refine lv_imul hx hb dX10_learns_114 ?_
    refine zi (y := 0) (by decide) ?_
    refine lv_ldc2 (v := 262144) hx hb hown (hts (.constantLong RX10 234 (262144)) (by decide +kernel)) dX10_learns_115 ?_
    refine lv_aload_n hx hb dX10_learns_118 rfl (lv_at hl 3 rfl) ?_
    refine va_get (D := (dC, dI)) (ci := 10) (v := .ref sgt) (C := RX10) (T := TX10) (N := 40) hx hb hts hiX10 hown hK hP 5 rfl rfl 36 (by decide) (hts (.fieldLink RX10 74 "WatchedProgramsModel" "sight" "[J") (by decide +kernel)) (fun _ h9 => h9) rfl dX10_learns_119 ?_
    refine lv_iconst (v := 3) hx hb dX10_learns_122 (by decide) ?_
    refine lv_iload hx hb dX10_learns_123 (lv_at hl 1 rfl) ?_
    refine lv_imul hx hb dX10_learns_125 ?_
    refine zi (y := 0) (by decide) ?_
    refine va_lald hx hb hK hP 8 1 rfl rfl (by unfold vp_in; decide) dX10_learns_126 ?_
    refine zl (y := (u_20 0)) (by rfl) ?_
    refine lv_lmul hx hb dX10_learns_127 ?_
    refine lv_iload hx hb dX10_learns_128 (lv_at hl 0 rfl) ?_
    refine lv_i2l (v := 0) hx hb dX10_learns_130 (by decide) ?_
    refine lv_ladd hx hb dX10_learns_131 ?_
    refine va_last hx hb hK hP hD hS 8 1 rfl rfl (by unfold vp_in; decide) dX10_learns_132 (fun H locs hP hD hS => ?_)
    have hP : va_P (dC, dI) vwCl [(sen, aJ cJ 24576 fn), (chn, aI cI 4096 fh), (hpo, aI cI 4096 fo), (hpm, aI cI 4096 fm), (bgn, aI cI 8192 (upd (upd fb 0 (-9)) 1 (-9))), (mm, .inr (10, [.int 0, .ref lev, .ref txt, .int 0, .int 0, .int 0, .int 0, .int 0, .int 0, .int 0, .int 0, .ref stm, .ref sm, .int 0, .ref sgn, .ref vls, .ref opn, .ref opp, .ref bke, .ref bko, .ref bkl, .ref cel, .int 0, .int 0, .ref tap, .ref tpl, .int 0, .int 0, .ref rtp, .ref rlv, .int 0, .ref sen, .ref hpo, .ref hpm, .ref bgn, .ref chn, .ref sgt, .int 1, .int 0, .ref rsd])), (lev, aI cI 6 (fun _ => 0)), (cel, aI cI 6 u_12), (sgt, aJ cJ 6 (vp_updL u_20 0 ((262144 * (u_20 0)) + 0)))] H := hP
    have hD : va_D A [(sen, aJ cJ 24576 fn), (chn, aI cI 4096 fh), (hpo, aI cI 4096 fo), (hpm, aI cI 4096 fm), (bgn, aI cI 8192 (upd (upd fb 0 (-9)) 1 (-9))), (mm, .inr (10, [.int 0, .ref lev, .ref txt, .int 0, .int 0, .int 0, .int 0, .int 0, .int 0, .int 0, .int 0, .ref stm, .ref sm, .int 0, .ref sgn, .ref vls, .ref opn, .ref opp, .ref bke, .ref bko, .ref bkl, .ref cel, .int 0, .int 0, .ref tap, .ref tpl, .int 0, .int 0, .ref rtp, .ref rlv, .int 0, .ref sen, .ref hpo, .ref hpm, .ref bgn, .ref chn, .ref sgt, .int 1, .int 0, .ref rsd])), (lev, aI cI 6 (fun _ => 0)), (cel, aI cI 6 u_12), (sgt, aJ cJ 6 (vp_updL u_20 0 ((262144 * (u_20 0)) + 0)))] := hD
    refine lv_iinc (v := 1) (lv' := [(7, .int 1), (6, .int 0), (5, .int 0), (0, .ref mm), (1, .int w), (2, .int t), (3, .int o1), (4, .int tw)]) hx hb dX10_learns_133 hl (k := 1) rfl (by decide) (by decide) rfl (fun ls hl => ?_)
    refine lv_goto (tgt := 32) hx hb dX10_learns_136 (by decide) ?_
    refine lv_iload hx hb dX10_learns_32 (lv_at hl 0 rfl) ?_
    refine lv_iload hx hb dX10_learns_34 (lv_at hl 7 rfl) ?_
    refine lv_if_ge (tgt := 43) hx hb dX10_learns_36 (by decide) (fun _ => ?_) (fun c_22 => absurd (by simp only [Int32.lt_iff_toInt_lt, Int32.le_iff_toInt_le, ← Int32.toInt_inj, tI_0, tI_1, tI_2, tI_3, tI_4, tI_5, tI_6, tI_7, tI_8, tI_20, tI_30, tI_300, tI_400, tI_4095, tI_4096, tI_m1, tI_m2, tI_m3, tI_m9] at htw ⊢ <;> omega) c_22)
    refine lv_iconst (v := 2) hx hb dX10_learns_43 (by decide) ?_
    refine lv_icmp_ge (tgt := 139) hx hb dX10_learns_44 (by decide) (fun c_23 => absurd c_23 (by decide)) (fun _ => ?_)
    refine lv_aload_n hx hb dX10_learns_47 rfl (lv_at hl 3 rfl) ?_
    refine lv_iload_n hx hb dX10_learns_48 rfl (lv_at hl 4 rfl) ?_
    refine lv_iconst (v := 1) hx hb dX10_learns_49 (by decide) ?_
    refine lv_iload hx hb dX10_learns_50 (lv_at hl 0 rfl) ?_
    refine lv_if_ne (tgt := 59) hx hb dX10_learns_52 (by decide) (fun _ => ?_) (fun c_24 => absurd c_24 (by decide))
    refine lv_iload hx hb dX10_learns_59 (lv_at hl 7 rfl) ?_
    have hFc := va_free (wc := [(mm, .inr (10, [.int 0, .ref lev, .ref txt, .int 0, .int 0, .int 0, .int 0, .int 0, .int 0, .int 0, .int 0, .ref stm, .ref sm, .int 0, .ref sgn, .ref vls, .ref opn, .ref opp, .ref bke, .ref bko, .ref bkl, .ref cel, .int 0, .int 0, .ref tap, .ref tpl, .int 0, .int 0, .ref rtp, .ref rlv, .int 0, .ref sen, .ref hpo, .ref hpm, .ref bgn, .ref chn, .ref sgt, .int 1, .int 0, .ref rsd])), (lev, aI cI 6 (fun _ => 0)), (cel, aI cI 6 u_12)]) hD hS hA [5, 6, 7] rfl
    refine zCv (wr := [(sen, aJ cJ 24576 fn), (chn, aI cI 4096 fh), (hpo, aI cI 4096 fo), (hpm, aI cI 4096 fm), (bgn, aI cI 8192 (upd (upd fb 0 (-9)) 1 (-9))), (sgt, aJ cJ 6 (vp_updL u_20 0 ((262144 * (u_20 0)) + 0)))]) hP hD hS hFc [5, 6, 7] [0, 1, 2, 3, 4, 8] rfl rfl (by decide) (by decide) (va_runV (As := [.int w, .int 1, .int tw]) (rest := []) ⟨hx, hb, hml, hown, hts⟩ (m_tells1 l dC dI cI cJ cS H.size mm w tw lev txt stm sm sgn vls opn opp bke bko bkl cel tap tpl rtp rlv sen hpo hpm bgn chn sgt 1 0 rsd u_12 ) (cwV 3 hts gX10_learns_X10_tells rfl rfl rfl (by decide +kernel) ⟨Nat.le_of_ble_eq_true rfl, Nat.le_of_ble_eq_true rfl⟩) (preEV (hP.sub (ws' := [(mm, .inr (10, [.int 0, .ref lev, .ref txt, .int 0, .int 0, .int 0, .int 0, .int 0, .int 0, .int 0, .int 0, .ref stm, .ref sm, .int 0, .ref sgn, .ref vls, .ref opn, .ref opp, .ref bke, .ref bko, .ref bkl, .ref cel, .int 0, .int 0, .ref tap, .ref tpl, .int 0, .int 0, .ref rtp, .ref rlv, .int 0, .ref sen, .ref hpo, .ref hpm, .ref bgn, .ref chn, .ref sgt, .int 1, .int 0, .ref rsd])), (lev, aI cI 6 (fun _ => 0)), (cel, aI cI 6 u_12)]) [5, 6, 7] rfl) hE (hD.sub (ws' := [(mm, .inr (10, [.int 0, .ref lev, .ref txt, .int 0, .int 0, .int 0, .int 0, .int 0, .int 0, .int 0, .int 0, .ref stm, .ref sm, .int 0, .ref sgn, .ref vls, .ref opn, .ref opp, .ref bke, .ref bko, .ref bkl, .ref cel, .int 0, .int 0, .ref tap, .ref tpl, .int 0, .int 0, .ref rtp, .ref rlv, .int 0, .ref sen, .ref hpo, .ref hpm, .ref bgn, .ref chn, .ref sgt, .int 1, .int 0, .ref rsd])), (lev, aI cI 6 (fun _ => 0)), (cel, aI cI 6 u_12)]) [5, 6, 7] (by decide) rfl) 0 (ci := 10) rfl rfl) rfl rfl hl.1 rfl (lv_room (Nat.le_of_ble_eq_true rfl)) dX10_learns_61 ⟨by decide +kernel, by decide +kernel⟩) (fun u_27 H locs hr_26 hP hD hS => ?_)
    try dsimp only at hr_26
    have hP : va_P (dC, dI) vwCl [(sen, aJ cJ 24576 fn), (chn, aI cI 4096 fh), (hpo, aI cI 4096 fo), (hpm, aI cI 4096 fm), (bgn, aI cI 8192 (upd (upd fb 0 (-9)) 1 (-9))), (sgt, aJ cJ 6 (vp_updL u_20 0 ((262144 * (u_20 0)) + 0))), (mm, .inr (10, [.int 0, .ref lev, .ref txt, .int 0, .int 0, .int 0, .int 0, .int 0, .int 0, .int 0, .int 0, .ref stm, .ref sm, .int 0, .ref sgn, .ref vls, .ref opn, .ref opp, .ref bke, .ref bko, .ref bkl, .ref cel, .int 0, .int 0, .ref tap, .ref tpl, .int 0, .int 0, .ref rtp, .ref rlv, .int 0, .ref sen, .ref hpo, .ref hpm, .ref bgn, .ref chn, .ref sgt, .int 1, .int 0, .ref rsd])), (lev, aI cI 6 (fun _ => 0)), (cel, aI cI 6 u_27)] H := hP
    have hD : va_D A [(sen, aJ cJ 24576 fn), (chn, aI cI 4096 fh), (hpo, aI cI 4096 fo), (hpm, aI cI 4096 fm), (bgn, aI cI 8192 (upd (upd fb 0 (-9)) 1 (-9))), (sgt, aJ cJ 6 (vp_updL u_20 0 ((262144 * (u_20 0)) + 0))), (mm, .inr (10, [.int 0, .ref lev, .ref txt, .int 0, .int 0, .int 0, .int 0, .int 0, .int 0, .int 0, .int 0, .ref stm, .ref sm, .int 0, .ref sgn, .ref vls, .ref opn, .ref opp, .ref bke, .ref bko, .ref bkl, .ref cel, .int 0, .int 0, .ref tap, .ref tpl, .int 0, .int 0, .ref rtp, .ref rlv, .int 0, .ref sen, .ref hpo, .ref hpm, .ref bgn, .ref chn, .ref sgt, .int 1, .int 0, .ref rsd])), (lev, aI cI 6 (fun _ => 0)), (cel, aI cI 6 u_27)] := hD
    refine lv_aload_n hx hb dX10_learns_64 rfl (lv_at hl 3 rfl) ?_
    refine lv_iload_n hx hb dX10_learns_65 rfl (lv_at hl 4 rfl) ?_
    refine lv_iconst (v := 0) hx hb dX10_learns_66 (by decide) ?_
    refine lv_iload hx hb dX10_learns_67 (lv_at hl 2 rfl) ?_
    refine va_csv (va_Run.run (va_runV (As := [.int w, .int 0, .int 0]) (rest := []) ⟨hx, hb, hml, hown, hts⟩ (m_tells0 l dC dI cI cJ cS  mm w 0 lev txt stm sm sgn vls opn opp bke bko bkl cel tap tpl rtp rlv sen hpo hpm bgn chn sgt 1 0 rsd ) (cwV 3 hts gX10_learns_X10_tells rfl rfl rfl (by decide +kernel) ⟨Nat.le_of_ble_eq_true rfl, Nat.le_of_ble_eq_true rfl⟩) (preRV (hP.sub (ws' := [(mm, .inr (10, [.int 0, .ref lev, .ref txt, .int 0, .int 0, .int 0, .int 0, .int 0, .int 0, .int 0, .int 0, .ref stm, .ref sm, .int 0, .ref sgn, .ref vls, .ref opn, .ref opp, .ref bke, .ref bko, .ref bkl, .ref cel, .int 0, .int 0, .ref tap, .ref tpl, .int 0, .int 0, .ref rtp, .ref rlv, .int 0, .ref sen, .ref hpo, .ref hpm, .ref bgn, .ref chn, .ref sgt, .int 1, .int 0, .ref rsd])), (lev, aI cI 6 (fun _ => 0))]) [6, 7] rfl) hE 0 (ci := 10) rfl rfl) rfl rfl hl.1 rfl (lv_room (Nat.le_of_ble_eq_true rfl)) dX10_learns_69 ⟨by decide +kernel, by decide +kernel⟩)) (fun hr_29 => ?_)
    refine lv_aload_n hx hb dX10_learns_72 rfl (lv_at hl 3 rfl) ?_
    have hFc := va_free (wc := [(mm, .inr (10, [.int 0, .ref lev, .ref txt, .int 0, .int 0, .int 0, .int 0, .int 0, .int 0, .int 0, .int 0, .ref stm, .ref sm, .int 0, .ref sgn, .ref vls, .ref opn, .ref opp, .ref bke, .ref bko, .ref bkl, .ref cel, .int 0, .int 0, .ref tap, .ref tpl, .int 0, .int 0, .ref rtp, .ref rlv, .int 0, .ref sen, .ref hpo, .ref hpm, .ref bgn, .ref chn, .ref sgt, .int 1, .int 0, .ref rsd]))]) hD hS hA [6] rfl
    refine zCv (wr := [(sen, aJ cJ 24576 fn), (chn, aI cI 4096 fh), (hpo, aI cI 4096 fo), (hpm, aI cI 4096 fm), (bgn, aI cI 8192 (upd (upd fb 0 (-9)) 1 (-9))), (sgt, aJ cJ 6 (vp_updL u_20 0 ((262144 * (u_20 0)) + 0))), (lev, aI cI 6 (fun _ => 0)), (cel, aI cI 6 u_27)]) hP hD hS hFc [6] [0, 1, 2, 3, 4, 5, 7, 8] rfl rfl (by decide) (by decide) (va_runV (As := []) (rest := []) ⟨hx, hb, hml, hown, hts⟩ (m_runs l dC dI cI cJ cS H.size mm lev txt stm sm sgn vls opn opp bke bko bkl cel tap tpl rtp rlv sen hpo hpm bgn chn sgt 1 0 rsd ) (cwV 0 hts gX10_learns_X10_runs rfl rfl rfl (by decide +kernel) ⟨Nat.le_of_ble_eq_true rfl, Nat.le_of_ble_eq_true rfl⟩) (preEV (hP.sub (ws' := [(mm, .inr (10, [.int 0, .ref lev, .ref txt, .int 0, .int 0, .int 0, .int 0, .int 0, .int 0, .int 0, .int 0, .ref stm, .ref sm, .int 0, .ref sgn, .ref vls, .ref opn, .ref opp, .ref bke, .ref bko, .ref bkl, .ref cel, .int 0, .int 0, .ref tap, .ref tpl, .int 0, .int 0, .ref rtp, .ref rlv, .int 0, .ref sen, .ref hpo, .ref hpm, .ref bgn, .ref chn, .ref sgt, .int 1, .int 0, .ref rsd]))]) [6] rfl) hE (hD.sub (ws' := [(mm, .inr (10, [.int 0, .ref lev, .ref txt, .int 0, .int 0, .int 0, .int 0, .int 0, .int 0, .int 0, .int 0, .ref stm, .ref sm, .int 0, .ref sgn, .ref vls, .ref opn, .ref opp, .ref bke, .ref bko, .ref bkl, .ref cel, .int 0, .int 0, .ref tap, .ref tpl, .int 0, .int 0, .ref rtp, .ref rlv, .int 0, .ref sen, .ref hpo, .ref hpm, .ref bgn, .ref chn, .ref sgt, .int 1, .int 0, .ref rsd]))]) [6] (by decide) rfl) 0 (ci := 10) rfl rfl) rfl rfl hl.1 rfl (lv_room (Nat.le_of_ble_eq_true rfl)) dX10_learns_73 ⟨by decide +kernel, by decide +kernel⟩) (fun u_32 H locs hr_31 hP hD hS => ?_)
    try dsimp only at hr_31
    have hP : va_P (dC, dI) vwCl [(sen, aJ cJ 24576 fn), (chn, aI cI 4096 fh), (hpo, aI cI 4096 fo), (hpm, aI cI 4096 fm), (bgn, aI cI 8192 (upd (upd fb 0 (-9)) 1 (-9))), (sgt, aJ cJ 6 (vp_updL u_20 0 ((262144 * (u_20 0)) + 0))), (lev, aI cI 6 (fun _ => 0)), (cel, aI cI 6 u_27), (mm, .inr (10, [.int 0, .ref lev, .ref txt, .int 0, .int 0, .int 0, .int 0, .int 0, .int 0, .int 0, .int 0, .ref stm, .ref sm, .int 0, .ref sgn, .ref vls, .ref opn, .ref opp, .ref bke, .ref bko, .ref bkl, .ref cel, .int 0, .int 0, .ref tap, .ref tpl, .int 0, .int 0, .ref rtp, .ref rlv, .int 0, .ref sen, .ref hpo, .ref hpm, .ref bgn, .ref chn, .ref sgt, .int 1, .int 0, .ref rsd]))] H := hP
    have hD : va_D A [(sen, aJ cJ 24576 fn), (chn, aI cI 4096 fh), (hpo, aI cI 4096 fo), (hpm, aI cI 4096 fm), (bgn, aI cI 8192 (upd (upd fb 0 (-9)) 1 (-9))), (sgt, aJ cJ 6 (vp_updL u_20 0 ((262144 * (u_20 0)) + 0))), (lev, aI cI 6 (fun _ => 0)), (cel, aI cI 6 u_27), (mm, .inr (10, [.int 0, .ref lev, .ref txt, .int 0, .int 0, .int 0, .int 0, .int 0, .int 0, .int 0, .int 0, .ref stm, .ref sm, .int 0, .ref sgn, .ref vls, .ref opn, .ref opp, .ref bke, .ref bko, .ref bkl, .ref cel, .int 0, .int 0, .ref tap, .ref tpl, .int 0, .int 0, .ref rtp, .ref rlv, .int 0, .ref sen, .ref hpo, .ref hpm, .ref bgn, .ref chn, .ref sgt, .int 1, .int 0, .ref rsd]))] := hD
    refine lv_aload_n hx hb dX10_learns_76 rfl (lv_at hl 3 rfl) ?_
    refine lv_iload_n hx hb dX10_learns_77 rfl (lv_at hl 4 rfl) ?_
    refine lv_iconst (v := 3) hx hb dX10_learns_78 (by decide) ?_
    refine lv_iload hx hb dX10_learns_79 (lv_at hl 0 rfl) ?_
    refine lv_imul hx hb dX10_learns_81 ?_
    refine zi (y := 3) (by decide) ?_
    have hFc := va_free (wc := [(mm, .inr (10, [.int 0, .ref lev, .ref txt, .int 0, .int 0, .int 0, .int 0, .int 0, .int 0, .int 0, .int 0, .ref stm, .ref sm, .int 0, .ref sgn, .ref vls, .ref opn, .ref opp, .ref bke, .ref bko, .ref bkl, .ref cel, .int 0, .int 0, .ref tap, .ref tpl, .int 0, .int 0, .ref rtp, .ref rlv, .int 0, .ref sen, .ref hpo, .ref hpm, .ref bgn, .ref chn, .ref sgt, .int 1, .int 0, .ref rsd])), (lev, aI cI 6 (fun _ => 0)), (cel, aI cI 6 u_27), (sgt, aJ cJ 6 (vp_updL u_20 0 ((262144 * (u_20 0)) + 0)))]) hD hS hA [8, 6, 7, 5] rfl
    refine zCv (wr := [(sen, aJ cJ 24576 fn), (chn, aI cI 4096 fh), (hpo, aI cI 4096 fo), (hpm, aI cI 4096 fm), (bgn, aI cI 8192 (upd (upd fb 0 (-9)) 1 (-9)))]) hP hD hS hFc [8, 6, 7, 5] [0, 1, 2, 3, 4] rfl rfl (by decide) (by decide) (va_runV (As := [.int w, .int 3]) (rest := []) ⟨hx, hb, hml, hown, hts⟩ (m_sees3 l dC dI cI cJ cS H.size mm w lev txt stm sm sgn vls opn opp bke bko bkl cel tap tpl rtp rlv sen hpo hpm bgn chn sgt 1 0 rsd u_27 (vp_updL u_20 0 ((262144 * (u_20 0)) + 0)) ) (cwV 2 hts gX10_learns_X10_sees rfl rfl rfl (by decide +kernel) ⟨Nat.le_of_ble_eq_true rfl, Nat.le_of_ble_eq_true rfl⟩) (preEV (hP.sub (ws' := [(mm, .inr (10, [.int 0, .ref lev, .ref txt, .int 0, .int 0, .int 0, .int 0, .int 0, .int 0, .int 0, .int 0, .ref stm, .ref sm, .int 0, .ref sgn, .ref vls, .ref opn, .ref opp, .ref bke, .ref bko, .ref bkl, .ref cel, .int 0, .int 0, .ref tap, .ref tpl, .int 0, .int 0, .ref rtp, .ref rlv, .int 0, .ref sen, .ref hpo, .ref hpm, .ref bgn, .ref chn, .ref sgt, .int 1, .int 0, .ref rsd])), (lev, aI cI 6 (fun _ => 0)), (cel, aI cI 6 u_27), (sgt, aJ cJ 6 (vp_updL u_20 0 ((262144 * (u_20 0)) + 0)))]) [8, 6, 7, 5] rfl) hE (hD.sub (ws' := [(mm, .inr (10, [.int 0, .ref lev, .ref txt, .int 0, .int 0, .int 0, .int 0, .int 0, .int 0, .int 0, .int 0, .ref stm, .ref sm, .int 0, .ref sgn, .ref vls, .ref opn, .ref opp, .ref bke, .ref bko, .ref bkl, .ref cel, .int 0, .int 0, .ref tap, .ref tpl, .int 0, .int 0, .ref rtp, .ref rlv, .int 0, .ref sen, .ref hpo, .ref hpm, .ref bgn, .ref chn, .ref sgt, .int 1, .int 0, .ref rsd])), (lev, aI cI 6 (fun _ => 0)), (cel, aI cI 6 u_27), (sgt, aJ cJ 6 (vp_updL u_20 0 ((262144 * (u_20 0)) + 0)))]) [8, 6, 7, 5] (by decide) rfl) 0 (ci := 10) rfl rfl) rfl rfl hl.1 rfl (lv_room (Nat.le_of_ble_eq_true rfl)) dX10_learns_82 ⟨by decide +kernel, by decide +kernel⟩) (fun u_35 H locs hr_34 hP hD hS => ?_)
    try dsimp only at hr_34
    have hP : va_P (dC, dI) vwCl [(sen, aJ cJ 24576 fn), (chn, aI cI 4096 fh), (hpo, aI cI 4096 fo), (hpm, aI cI 4096 fm), (bgn, aI cI 8192 (upd (upd fb 0 (-9)) 1 (-9))), (mm, .inr (10, [.int 0, .ref lev, .ref txt, .int 0, .int 0, .int 0, .int 0, .int 0, .int 0, .int 0, .int 0, .ref stm, .ref sm, .int 0, .ref sgn, .ref vls, .ref opn, .ref opp, .ref bke, .ref bko, .ref bkl, .ref cel, .int 0, .int 0, .ref tap, .ref tpl, .int 0, .int 0, .ref rtp, .ref rlv, .int 0, .ref sen, .ref hpo, .ref hpm, .ref bgn, .ref chn, .ref sgt, .int 1, .int 0, .ref rsd])), (lev, aI cI 6 (fun _ => 0)), (cel, aI cI 6 u_27), (sgt, aJ cJ 6 u_35)] H := hP
    have hD : va_D A [(sen, aJ cJ 24576 fn), (chn, aI cI 4096 fh), (hpo, aI cI 4096 fo), (hpm, aI cI 4096 fm), (bgn, aI cI 8192 (upd (upd fb 0 (-9)) 1 (-9))), (mm, .inr (10, [.int 0, .ref lev, .ref txt, .int 0, .int 0, .int 0, .int 0, .int 0, .int 0, .int 0, .int 0, .ref stm, .ref sm, .int 0, .ref sgn, .ref vls, .ref opn, .ref opp, .ref bke, .ref bko, .ref bkl, .ref cel, .int 0, .int 0, .ref tap, .ref tpl, .int 0, .int 0, .ref rtp, .ref rlv, .int 0, .ref sen, .ref hpo, .ref hpm, .ref bgn, .ref chn, .ref sgt, .int 1, .int 0, .ref rsd])), (lev, aI cI 6 (fun _ => 0)), (cel, aI cI 6 u_27), (sgt, aJ cJ 6 u_35)] := hD
    refine lv_sipush (v := 512) hx hb dX10_learns_85 (by decide) ?_
    refine lv_iload hx hb dX10_learns_88 (lv_at hl 1 rfl) ?_
    refine lv_imul hx hb dX10_learns_90 ?_
    refine zi (y := 0) (by decide) ?_
    refine lv_iload_n hx hb dX10_learns_91 rfl (lv_at hl 5 rfl) ?_
    refine lv_iconst (v := 1) hx hb dX10_learns_92 (by decide) ?_
    refine lv_icmp_ne (tgt := 103) hx hb dX10_learns_93 (by decide) (fun _ => ?_) (fun c_36 => absurd c_36 c_21)
    refine lv_iconst (v := 0) hx hb dX10_learns_103 (by decide) ?_
    refine lv_iadd hx hb dX10_learns_104 ?_
    refine zi (y := 0) (by decide) ?_
    refine lv_istore (lv' := [(6, .int 0), (7, .int 1), (5, .int 0), (0, .ref mm), (1, .int w), (2, .int t), (3, .int o1), (4, .int tw)]) hx hb dX10_learns_105 hl (by decide) rfl (fun ls hl => ?_)
    refine lv_aload_n hx hb dX10_learns_107 rfl (lv_at hl 3 rfl) ?_
    refine va_get (D := (dC, dI)) (ci := 10) (v := .ref sgt) (C := RX10) (T := TX10) (N := 40) hx hb hts hiX10 hown hK hP 5 rfl rfl 36 (by decide) (hts (.fieldLink RX10 74 "WatchedProgramsModel" "sight" "[J") (by decide +kernel)) (fun _ h9 => h9) rfl dX10_learns_108 ?_
    refine lv_iconst (v := 3) hx hb dX10_learns_111 (by decide) ?_
    refine lv_iload hx hb dX10_learns_112 (lv_at hl 1 rfl) ?_
    refine lv_imul hx hb dX10_learns_114 ?_
    refine zi (y := 3) (by decide) ?_
    refine lv_ldc2 (v := 262144) hx hb hown (hts (.constantLong RX10 234 (262144)) (by decide +kernel)) dX10_learns_115 ?_
    refine lv_aload_n hx hb dX10_learns_118 rfl (lv_at hl 3 rfl) ?_
    refine va_get (D := (dC, dI)) (ci := 10) (v := .ref sgt) (C := RX10) (T := TX10) (N := 40) hx hb hts hiX10 hown hK hP 5 rfl rfl 36 (by decide) (hts (.fieldLink RX10 74 "WatchedProgramsModel" "sight" "[J") (by decide +kernel)) (fun _ h9 => h9) rfl dX10_learns_119 ?_
    refine lv_iconst (v := 3) hx hb dX10_learns_122 (by decide) ?_
    refine lv_iload hx hb dX10_learns_123 (lv_at hl 1 rfl) ?_
    refine lv_imul hx hb dX10_learns_125 ?_
    refine zi (y := 3) (by decide) ?_
    refine va_lald hx hb hK hP 8 1 rfl rfl (by unfold vp_in; decide) dX10_learns_126 ?_
    refine zl (y := (u_35 3)) (by rfl) ?_
    refine lv_lmul hx hb dX10_learns_127 ?_
    refine lv_iload hx hb dX10_learns_128 (lv_at hl 0 rfl) ?_
    refine lv_i2l (v := 0) hx hb dX10_learns_130 (by decide) ?_
    refine lv_ladd hx hb dX10_learns_131 ?_
    refine va_last hx hb hK hP hD hS 8 1 rfl rfl (by unfold vp_in; decide) dX10_learns_132 (fun H locs hP hD hS => ?_)
    have hP : va_P (dC, dI) vwCl [(sen, aJ cJ 24576 fn), (chn, aI cI 4096 fh), (hpo, aI cI 4096 fo), (hpm, aI cI 4096 fm), (bgn, aI cI 8192 (upd (upd fb 0 (-9)) 1 (-9))), (mm, .inr (10, [.int 0, .ref lev, .ref txt, .int 0, .int 0, .int 0, .int 0, .int 0, .int 0, .int 0, .int 0, .ref stm, .ref sm, .int 0, .ref sgn, .ref vls, .ref opn, .ref opp, .ref bke, .ref bko, .ref bkl, .ref cel, .int 0, .int 0, .ref tap, .ref tpl, .int 0, .int 0, .ref rtp, .ref rlv, .int 0, .ref sen, .ref hpo, .ref hpm, .ref bgn, .ref chn, .ref sgt, .int 1, .int 0, .ref rsd])), (lev, aI cI 6 (fun _ => 0)), (cel, aI cI 6 u_27), (sgt, aJ cJ 6 (vp_updL u_35 3 ((262144 * (u_35 3)) + 0)))] H := hP
    have hD : va_D A [(sen, aJ cJ 24576 fn), (chn, aI cI 4096 fh), (hpo, aI cI 4096 fo), (hpm, aI cI 4096 fm), (bgn, aI cI 8192 (upd (upd fb 0 (-9)) 1 (-9))), (mm, .inr (10, [.int 0, .ref lev, .ref txt, .int 0, .int 0, .int 0, .int 0, .int 0, .int 0, .int 0, .int 0, .ref stm, .ref sm, .int 0, .ref sgn, .ref vls, .ref opn, .ref opp, .ref bke, .ref bko, .ref bkl, .ref cel, .int 0, .int 0, .ref tap, .ref tpl, .int 0, .int 0, .ref rtp, .ref rlv, .int 0, .ref sen, .ref hpo, .ref hpm, .ref bgn, .ref chn, .ref sgt, .int 1, .int 0, .ref rsd])), (lev, aI cI 6 (fun _ => 0)), (cel, aI cI 6 u_27), (sgt, aJ cJ 6 (vp_updL u_35 3 ((262144 * (u_35 3)) + 0)))] := hD
    refine lv_iinc (v := 2) (lv' := [(7, .int 2), (6, .int 0), (5, .int 0), (0, .ref mm), (1, .int w), (2, .int t), (3, .int o1), (4, .int tw)]) hx hb dX10_learns_133 hl (k := 1) rfl (by decide) (by decide) rfl (fun ls hl => ?_)
    refine lv_goto (tgt := 32) hx hb dX10_learns_136 (by decide) ?_
    refine lv_iload hx hb dX10_learns_32 (lv_at hl 0 rfl) ?_
    refine lv_iload hx hb dX10_learns_34 (lv_at hl 7 rfl) ?_
    refine lv_if_ge (tgt := 43) hx hb dX10_learns_36 (by decide) (fun _ => ?_) (fun c_37 => absurd (by simp only [Int32.lt_iff_toInt_lt, Int32.le_iff_toInt_le, ← Int32.toInt_inj, tI_0, tI_1, tI_2, tI_3, tI_4, tI_5, tI_6, tI_7, tI_8, tI_20, tI_30, tI_300, tI_400, tI_4095, tI_4096, tI_m1, tI_m2, tI_m3, tI_m9] at htw ⊢ <;> omega) c_37)
    refine lv_iconst (v := 2) hx hb dX10_learns_43 (by decide) ?_
    refine lv_icmp_ge (tgt := 139) hx hb dX10_learns_44 (by decide) (fun _ => ?_) (fun c_38 => absurd (by decide) c_38)
    refine lv_aload_n hx hb dX10_learns_139 rfl (lv_at hl 3 rfl) ?_
    refine lv_iload hx hb dX10_learns_140 (lv_at hl 2 rfl) ?_
    have hFc := va_free (wc := [(mm, .inr (10, [.int 0, .ref lev, .ref txt, .int 0, .int 0, .int 0, .int 0, .int 0, .int 0, .int 0, .int 0, .ref stm, .ref sm, .int 0, .ref sgn, .ref vls, .ref opn, .ref opp, .ref bke, .ref bko, .ref bkl, .ref cel, .int 0, .int 0, .ref tap, .ref tpl, .int 0, .int 0, .ref rtp, .ref rlv, .int 0, .ref sen, .ref hpo, .ref hpm, .ref bgn, .ref chn, .ref sgt, .int 1, .int 0, .ref rsd])), (sgt, aJ cJ 6 (vp_updL u_35 3 ((262144 * (u_35 3)) + 0))), (sen, aJ cJ 24576 fn), (bgn, aI cI 8192 (upd (upd fb 0 (-9)) 1 (-9))), (chn, aI cI 4096 fh), (hpo, aI cI 4096 fo), (hpm, aI cI 4096 fm)]) hD hS hA [5, 8, 0, 4, 1, 2, 3] rfl
    refine zCv (wr := [(lev, aI cI 6 (fun _ => 0)), (cel, aI cI 6 u_27)]) hP hD hS hFc [5, 8, 0, 4, 1, 2, 3] [6, 7] rfl rfl (by decide) (by decide) (va_runV (As := [.int 0]) (rest := []) ⟨hx, hb, hml, hown, hts⟩ (m_takes l dC dI cI cJ cS H.size mm lev txt stm sm sgn vls opn opp bke bko bkl cel tap tpl rtp rlv sen hpo hpm bgn chn sgt rsd (vp_updL u_35 3 ((262144 * (u_35 3)) + 0)) fn fb fh fo fm ) (cwV 1 hts gX10_learns_X10_takes rfl rfl rfl (by decide +kernel) ⟨Nat.le_of_ble_eq_true rfl, Nat.le_of_ble_eq_true rfl⟩) (preEV (hP.sub (ws' := [(mm, .inr (10, [.int 0, .ref lev, .ref txt, .int 0, .int 0, .int 0, .int 0, .int 0, .int 0, .int 0, .int 0, .ref stm, .ref sm, .int 0, .ref sgn, .ref vls, .ref opn, .ref opp, .ref bke, .ref bko, .ref bkl, .ref cel, .int 0, .int 0, .ref tap, .ref tpl, .int 0, .int 0, .ref rtp, .ref rlv, .int 0, .ref sen, .ref hpo, .ref hpm, .ref bgn, .ref chn, .ref sgt, .int 1, .int 0, .ref rsd])), (sgt, aJ cJ 6 (vp_updL u_35 3 ((262144 * (u_35 3)) + 0))), (sen, aJ cJ 24576 fn), (bgn, aI cI 8192 (upd (upd fb 0 (-9)) 1 (-9))), (chn, aI cI 4096 fh), (hpo, aI cI 4096 fo), (hpm, aI cI 4096 fm)]) [5, 8, 0, 4, 1, 2, 3] rfl) hE (hD.sub (ws' := [(mm, .inr (10, [.int 0, .ref lev, .ref txt, .int 0, .int 0, .int 0, .int 0, .int 0, .int 0, .int 0, .int 0, .ref stm, .ref sm, .int 0, .ref sgn, .ref vls, .ref opn, .ref opp, .ref bke, .ref bko, .ref bkl, .ref cel, .int 0, .int 0, .ref tap, .ref tpl, .int 0, .int 0, .ref rtp, .ref rlv, .int 0, .ref sen, .ref hpo, .ref hpm, .ref bgn, .ref chn, .ref sgt, .int 1, .int 0, .ref rsd])), (sgt, aJ cJ 6 (vp_updL u_35 3 ((262144 * (u_35 3)) + 0))), (sen, aJ cJ 24576 fn), (bgn, aI cI 8192 (upd (upd fb 0 (-9)) 1 (-9))), (chn, aI cI 4096 fh), (hpo, aI cI 4096 fo), (hpm, aI cI 4096 fm)]) [5, 8, 0, 4, 1, 2, 3] (by decide) rfl) 0 (ci := 10) rfl rfl) rfl rfl hl.1 rfl (lv_room (Nat.le_of_ble_eq_true rfl)) dX10_learns_142 ⟨by decide +kernel, by decide +kernel⟩) (fun u_41 H locs hr_40 hP hD hS => ?_)
    obtain ⟨fs_42, fb_43, fh_44⟩ := u_41
    try dsimp only at hr_40
    have hP : va_P (dC, dI) vwCl [(lev, aI cI 6 (fun _ => 0)), (cel, aI cI 6 u_27), (mm, .inr (10, [.int 0, .ref lev, .ref txt, .int 0, .int 0, .int 0, .int 0, .int 0, .int 0, .int 0, .int 0, .ref stm, .ref sm, .int 0, .ref sgn, .ref vls, .ref opn, .ref opp, .ref bke, .ref bko, .ref bkl, .ref cel, .int 0, .int 0, .ref tap, .ref tpl, .int 0, .int 0, .ref rtp, .ref rlv, .int 0, .ref sen, .ref hpo, .ref hpm, .ref bgn, .ref chn, .ref sgt, .int 1, .int 1, .ref rsd])), (sgt, aJ cJ 6 (vp_updL u_35 3 ((262144 * (u_35 3)) + 0))), (sen, aJ cJ 24576 fs_42), (bgn, aI cI 8192 fb_43), (chn, aI cI 4096 fh_44), (hpo, aI cI 4096 (upd fo 0 0)), (hpm, aI cI 4096 (upd fm 0 1))] H := hP
    have hD : va_D A [(lev, aI cI 6 (fun _ => 0)), (cel, aI cI 6 u_27), (mm, .inr (10, [.int 0, .ref lev, .ref txt, .int 0, .int 0, .int 0, .int 0, .int 0, .int 0, .int 0, .int 0, .ref stm, .ref sm, .int 0, .ref sgn, .ref vls, .ref opn, .ref opp, .ref bke, .ref bko, .ref bkl, .ref cel, .int 0, .int 0, .ref tap, .ref tpl, .int 0, .int 0, .ref rtp, .ref rlv, .int 0, .ref sen, .ref hpo, .ref hpm, .ref bgn, .ref chn, .ref sgt, .int 1, .int 1, .ref rsd])), (sgt, aJ cJ 6 (vp_updL u_35 3 ((262144 * (u_35 3)) + 0))), (sen, aJ cJ 24576 fs_42), (bgn, aI cI 8192 fb_43), (chn, aI cI 4096 fh_44), (hpo, aI cI 4096 (upd fo 0 0)), (hpm, aI cI 4096 (upd fm 0 1))] := hD
    refine lv_iinc (v := 1) (lv' := [(5, .int 1), (7, .int 2), (6, .int 0), (0, .ref mm), (1, .int w), (2, .int t), (3, .int o1), (4, .int tw)]) hx hb dX10_learns_145 hl (k := 2) rfl (by decide) (by decide) rfl (fun ls hl => ?_)
    refine lv_goto (tgt := 17) hx hb dX10_learns_148 (by decide) ?_
    refine lv_iload hx hb dX10_learns_17 (lv_at hl 0 rfl) ?_
    refine lv_aload_n hx hb dX10_learns_19 rfl (lv_at hl 3 rfl) ?_
    refine va_get (D := (dC, dI)) (ci := 10) (v := .int 1) (C := RX10) (T := TX10) (N := 40) hx hb hts hiX10 hown hK hP 2 rfl rfl 37 (by decide) (hts (.fieldLink RX10 210 "WatchedProgramsModel" "secrets" "I") (by decide +kernel)) (fun _ h9 => h9) rfl dX10_learns_20 ?_
    refine lv_icmp_ge (tgt := 151) hx hb dX10_learns_23 (by decide) (fun _ => ?_) (fun c_45 => absurd (by decide) c_45)
    have hP9 := hP.sub (ws' := [(mm, .inr (10, [.int 0, .ref lev, .ref txt, .int 0, .int 0, .int 0, .int 0, .int 0, .int 0, .int 0, .int 0, .ref stm, .ref sm, .int 0, .ref sgn, .ref vls, .ref opn, .ref opp, .ref bke, .ref bko, .ref bkl, .ref cel, .int 0, .int 0, .ref tap, .ref tpl, .int 0, .int 0, .ref rtp, .ref rlv, .int 0, .ref sen, .ref hpo, .ref hpm, .ref bgn, .ref chn, .ref sgt, .int 1, .int 1, .ref rsd])), (lev, aI cI 6 (fun _ => 0)), (cel, aI cI 6 u_27), (sgt, aJ cJ 6 (vp_updL u_35 3 ((262144 * (u_35 3)) + 0))), (sen, aJ cJ 24576 fs_42), (bgn, aI cI 8192 fb_43), (chn, aI cI 4096 fh_44), (hpo, aI cI 4096 (upd fo 0 0)), (hpm, aI cI 4096 (upd fm 0 1))]) [2, 0, 1, 3, 4, 5, 6, 7, 8] rfl
    have hD9 := hD.sub (ws' := [(mm, .inr (10, [.int 0, .ref lev, .ref txt, .int 0, .int 0, .int 0, .int 0, .int 0, .int 0, .int 0, .int 0, .ref stm, .ref sm, .int 0, .ref sgn, .ref vls, .ref opn, .ref opp, .ref bke, .ref bko, .ref bkl, .ref cel, .int 0, .int 0, .ref tap, .ref tpl, .int 0, .int 0, .ref rtp, .ref rlv, .int 0, .ref sen, .ref hpo, .ref hpm, .ref bgn, .ref chn, .ref sgt, .int 1, .int 1, .ref rsd])), (lev, aI cI 6 (fun _ => 0)), (cel, aI cI 6 u_27), (sgt, aJ cJ 6 (vp_updL u_35 3 ((262144 * (u_35 3)) + 0))), (sen, aJ cJ 24576 fs_42), (bgn, aI cI 8192 fb_43), (chn, aI cI 4096 fh_44), (hpo, aI cI 4096 (upd fo 0 0)), (hpm, aI cI 4096 (upd fm 0 1))]) [2, 0, 1, 3, 4, 5, 6, 7, 8] (by decide) rfl
    exact W.vret hx hb hr (fun tt_ ht hW => ⟨⟨(u_27, (vp_updL u_35 3 ((262144 * (u_35 3)) + 0)), fs_42, fb_43, fh_44), rfl, trivial, by rw [ht]; exact hP9, hD9⟩, hS.F ht⟩) hS.2.2 dX10_learns_151
  · refine lv_aload_n hx hb dX10_learns_96 rfl (lv_at hl 3 rfl) ?_
    refine va_get (D := (dC, dI)) (ci := 10) (v := .int 0) (C := RX10) (T := TX10) (N := 40) hx hb hts hiX10 hown hK hP 5 rfl rfl 22 (by decide) (hts (.fieldLink RX10 171 "WatchedProgramsModel" "steps" "I") (by decide +kernel)) (fun _ h9 => h9) rfl dX10_learns_97 ?_
    refine lv_goto (tgt := 104) hx hb dX10_learns_100 (by decide) ?_
    refine lv_iadd hx hb dX10_learns_104 ?_
    refine zi (y := 0) (by decide) ?_
    refine lv_istore (lv' := [(6, .int 0), (7, .int 0), (5, .int 0), (0, .ref mm), (1, .int w), (2, .int t), (3, .int o1), (4, .int tw)]) hx hb dX10_learns_105 hl (by decide) rfl (fun ls hl => ?_)
    refine lv_aload_n hx hb dX10_learns_107 rfl (lv_at hl 3 rfl) ?_
    refine va_get (D := (dC, dI)) (ci := 10) (v := .ref sgt) (C := RX10) (T := TX10) (N := 40) hx hb hts hiX10 hown hK hP 5 rfl rfl 36 (by decide) (hts (.fieldLink RX10 74 "WatchedProgramsModel" "sight" "[J") (by decide +kernel)) (fun _ h9 => h9) rfl dX10_learns_108 ?_
    refine lv_iconst (v := 3) hx hb dX10_learns_111 (by decide) ?_
    refine lv_iload hx hb dX10_learns_112 (lv_at hl 1 rfl) ?_
    refine lv_imul hx hb dX10_learns_114 ?_
    refine zi (y := 0) (by decide) ?_
    refine lv_ldc2 (v := 262144) hx hb hown (hts (.constantLong RX10 234 (262144)) (by decide +kernel)) dX10_learns_115 ?_
    refine lv_aload_n hx hb dX10_learns_118 rfl (lv_at hl 3 rfl) ?_
    refine va_get (D := (dC, dI)) (ci := 10) (v := .ref sgt) (C := RX10) (T := TX10) (N := 40) hx hb hts hiX10 hown hK hP 5 rfl rfl 36 (by decide) (hts (.fieldLink RX10 74 "WatchedProgramsModel" "sight" "[J") (by decide +kernel)) (fun _ h9 => h9) rfl dX10_learns_119 ?_
    refine lv_iconst (v := 3) hx hb dX10_learns_122 (by decide) ?_
    refine lv_iload hx hb dX10_learns_123 (lv_at hl 1 rfl) ?_
    refine lv_imul hx hb dX10_learns_125 ?_
    refine zi (y := 0) (by decide) ?_
    refine va_lald hx hb hK hP 8 1 rfl rfl (by unfold vp_in; decide) dX10_learns_126 ?_
    refine zl (y := (u_20 0)) (by rfl) ?_
    refine lv_lmul hx hb dX10_learns_127 ?_
    refine lv_iload hx hb dX10_learns_128 (lv_at hl 0 rfl) ?_
    refine lv_i2l (v := 0) hx hb dX10_learns_130 (by decide) ?_
    refine lv_ladd hx hb dX10_learns_131 ?_
    refine va_last hx hb hK hP hD hS 8 1 rfl rfl (by unfold vp_in; decide) dX10_learns_132 (fun H locs hP hD hS => ?_)
    have hP : va_P (dC, dI) vwCl [(sen, aJ cJ 24576 fn), (chn, aI cI 4096 fh), (hpo, aI cI 4096 fo), (hpm, aI cI 4096 fm), (bgn, aI cI 8192 (upd (upd fb 0 (-9)) 1 (-9))), (mm, .inr (10, [.int 0, .ref lev, .ref txt, .int 0, .int 0, .int 0, .int 0, .int 0, .int 0, .int 0, .int 0, .ref stm, .ref sm, .int 0, .ref sgn, .ref vls, .ref opn, .ref opp, .ref bke, .ref bko, .ref bkl, .ref cel, .int 0, .int 0, .ref tap, .ref tpl, .int 0, .int 0, .ref rtp, .ref rlv, .int 0, .ref sen, .ref hpo, .ref hpm, .ref bgn, .ref chn, .ref sgt, .int 1, .int 0, .ref rsd])), (lev, aI cI 6 (fun _ => 0)), (cel, aI cI 6 u_12), (sgt, aJ cJ 6 (vp_updL u_20 0 ((262144 * (u_20 0)) + 0)))] H := hP
    have hD : va_D A [(sen, aJ cJ 24576 fn), (chn, aI cI 4096 fh), (hpo, aI cI 4096 fo), (hpm, aI cI 4096 fm), (bgn, aI cI 8192 (upd (upd fb 0 (-9)) 1 (-9))), (mm, .inr (10, [.int 0, .ref lev, .ref txt, .int 0, .int 0, .int 0, .int 0, .int 0, .int 0, .int 0, .int 0, .ref stm, .ref sm, .int 0, .ref sgn, .ref vls, .ref opn, .ref opp, .ref bke, .ref bko, .ref bkl, .ref cel, .int 0, .int 0, .ref tap, .ref tpl, .int 0, .int 0, .ref rtp, .ref rlv, .int 0, .ref sen, .ref hpo, .ref hpm, .ref bgn, .ref chn, .ref sgt, .int 1, .int 0, .ref rsd])), (lev, aI cI 6 (fun _ => 0)), (cel, aI cI 6 u_12), (sgt, aJ cJ 6 (vp_updL u_20 0 ((262144 * (u_20 0)) + 0)))] := hD
    refine lv_iinc (v := 1) (lv' := [(7, .int 1), (6, .int 0), (5, .int 0), (0, .ref mm), (1, .int w), (2, .int t), (3, .int o1), (4, .int tw)]) hx hb dX10_learns_133 hl (k := 1) rfl (by decide) (by decide) rfl (fun ls hl => ?_)
    refine lv_goto (tgt := 32) hx hb dX10_learns_136 (by decide) ?_
    refine lv_iload hx hb dX10_learns_32 (lv_at hl 0 rfl) ?_
    refine lv_iload hx hb dX10_learns_34 (lv_at hl 7 rfl) ?_
    refine lv_if_ge (tgt := 43) hx hb dX10_learns_36 (by decide) (fun _ => ?_) (fun c_46 => absurd (by simp only [Int32.lt_iff_toInt_lt, Int32.le_iff_toInt_le, ← Int32.toInt_inj, tI_0, tI_1, tI_2, tI_3, tI_4, tI_5, tI_6, tI_7, tI_8, tI_20, tI_30, tI_300, tI_400, tI_4095, tI_4096, tI_m1, tI_m2, tI_m3, tI_m9] at htw ⊢ <;> omega) c_46)
    refine lv_iconst (v := 2) hx hb dX10_learns_43 (by decide) ?_
    refine lv_icmp_ge (tgt := 139) hx hb dX10_learns_44 (by decide) (fun c_47 => absurd c_47 (by decide)) (fun _ => ?_)
    refine lv_aload_n hx hb dX10_learns_47 rfl (lv_at hl 3 rfl) ?_
    refine lv_iload_n hx hb dX10_learns_48 rfl (lv_at hl 4 rfl) ?_
    refine lv_iconst (v := 1) hx hb dX10_learns_49 (by decide) ?_
    refine lv_iload hx hb dX10_learns_50 (lv_at hl 0 rfl) ?_
    refine lv_if_ne (tgt := 59) hx hb dX10_learns_52 (by decide) (fun _ => ?_) (fun c_48 => absurd c_48 (by decide))
    refine lv_iload hx hb dX10_learns_59 (lv_at hl 7 rfl) ?_
    have hFc := va_free (wc := [(mm, .inr (10, [.int 0, .ref lev, .ref txt, .int 0, .int 0, .int 0, .int 0, .int 0, .int 0, .int 0, .int 0, .ref stm, .ref sm, .int 0, .ref sgn, .ref vls, .ref opn, .ref opp, .ref bke, .ref bko, .ref bkl, .ref cel, .int 0, .int 0, .ref tap, .ref tpl, .int 0, .int 0, .ref rtp, .ref rlv, .int 0, .ref sen, .ref hpo, .ref hpm, .ref bgn, .ref chn, .ref sgt, .int 1, .int 0, .ref rsd])), (lev, aI cI 6 (fun _ => 0)), (cel, aI cI 6 u_12)]) hD hS hA [5, 6, 7] rfl
    refine zCv (wr := [(sen, aJ cJ 24576 fn), (chn, aI cI 4096 fh), (hpo, aI cI 4096 fo), (hpm, aI cI 4096 fm), (bgn, aI cI 8192 (upd (upd fb 0 (-9)) 1 (-9))), (sgt, aJ cJ 6 (vp_updL u_20 0 ((262144 * (u_20 0)) + 0)))]) hP hD hS hFc [5, 6, 7] [0, 1, 2, 3, 4, 8] rfl rfl (by decide) (by decide) (va_runV (As := [.int w, .int 1, .int tw]) (rest := []) ⟨hx, hb, hml, hown, hts⟩ (m_tells1 l dC dI cI cJ cS H.size mm w tw lev txt stm sm sgn vls opn opp bke bko bkl cel tap tpl rtp rlv sen hpo hpm bgn chn sgt 1 0 rsd u_12 ) (cwV 3 hts gX10_learns_X10_tells rfl rfl rfl (by decide +kernel) ⟨Nat.le_of_ble_eq_true rfl, Nat.le_of_ble_eq_true rfl⟩) (preEV (hP.sub (ws' := [(mm, .inr (10, [.int 0, .ref lev, .ref txt, .int 0, .int 0, .int 0, .int 0, .int 0, .int 0, .int 0, .int 0, .ref stm, .ref sm, .int 0, .ref sgn, .ref vls, .ref opn, .ref opp, .ref bke, .ref bko, .ref bkl, .ref cel, .int 0, .int 0, .ref tap, .ref tpl, .int 0, .int 0, .ref rtp, .ref rlv, .int 0, .ref sen, .ref hpo, .ref hpm, .ref bgn, .ref chn, .ref sgt, .int 1, .int 0, .ref rsd])), (lev, aI cI 6 (fun _ => 0)), (cel, aI cI 6 u_12)]) [5, 6, 7] rfl) hE (hD.sub (ws' := [(mm, .inr (10, [.int 0, .ref lev, .ref txt, .int 0, .int 0, .int 0, .int 0, .int 0, .int 0, .int 0, .int 0, .ref stm, .ref sm, .int 0, .ref sgn, .ref vls, .ref opn, .ref opp, .ref bke, .ref bko, .ref bkl, .ref cel, .int 0, .int 0, .ref tap, .ref tpl, .int 0, .int 0, .ref rtp, .ref rlv, .int 0, .ref sen, .ref hpo, .ref hpm, .ref bgn, .ref chn, .ref sgt, .int 1, .int 0, .ref rsd])), (lev, aI cI 6 (fun _ => 0)), (cel, aI cI 6 u_12)]) [5, 6, 7] (by decide) rfl) 0 (ci := 10) rfl rfl) rfl rfl hl.1 rfl (lv_room (Nat.le_of_ble_eq_true rfl)) dX10_learns_61 ⟨by decide +kernel, by decide +kernel⟩) (fun u_51 H locs hr_50 hP hD hS => ?_)
    try dsimp only at hr_50
    have hP : va_P (dC, dI) vwCl [(sen, aJ cJ 24576 fn), (chn, aI cI 4096 fh), (hpo, aI cI 4096 fo), (hpm, aI cI 4096 fm), (bgn, aI cI 8192 (upd (upd fb 0 (-9)) 1 (-9))), (sgt, aJ cJ 6 (vp_updL u_20 0 ((262144 * (u_20 0)) + 0))), (mm, .inr (10, [.int 0, .ref lev, .ref txt, .int 0, .int 0, .int 0, .int 0, .int 0, .int 0, .int 0, .int 0, .ref stm, .ref sm, .int 0, .ref sgn, .ref vls, .ref opn, .ref opp, .ref bke, .ref bko, .ref bkl, .ref cel, .int 0, .int 0, .ref tap, .ref tpl, .int 0, .int 0, .ref rtp, .ref rlv, .int 0, .ref sen, .ref hpo, .ref hpm, .ref bgn, .ref chn, .ref sgt, .int 1, .int 0, .ref rsd])), (lev, aI cI 6 (fun _ => 0)), (cel, aI cI 6 u_51)] H := hP
    have hD : va_D A [(sen, aJ cJ 24576 fn), (chn, aI cI 4096 fh), (hpo, aI cI 4096 fo), (hpm, aI cI 4096 fm), (bgn, aI cI 8192 (upd (upd fb 0 (-9)) 1 (-9))), (sgt, aJ cJ 6 (vp_updL u_20 0 ((262144 * (u_20 0)) + 0))), (mm, .inr (10, [.int 0, .ref lev, .ref txt, .int 0, .int 0, .int 0, .int 0, .int 0, .int 0, .int 0, .int 0, .ref stm, .ref sm, .int 0, .ref sgn, .ref vls, .ref opn, .ref opp, .ref bke, .ref bko, .ref bkl, .ref cel, .int 0, .int 0, .ref tap, .ref tpl, .int 0, .int 0, .ref rtp, .ref rlv, .int 0, .ref sen, .ref hpo, .ref hpm, .ref bgn, .ref chn, .ref sgt, .int 1, .int 0, .ref rsd])), (lev, aI cI 6 (fun _ => 0)), (cel, aI cI 6 u_51)] := hD
    refine lv_aload_n hx hb dX10_learns_64 rfl (lv_at hl 3 rfl) ?_
    refine lv_iload_n hx hb dX10_learns_65 rfl (lv_at hl 4 rfl) ?_
    refine lv_iconst (v := 0) hx hb dX10_learns_66 (by decide) ?_
    refine lv_iload hx hb dX10_learns_67 (lv_at hl 2 rfl) ?_
    refine va_csv (va_Run.run (va_runV (As := [.int w, .int 0, .int 0]) (rest := []) ⟨hx, hb, hml, hown, hts⟩ (m_tells0 l dC dI cI cJ cS  mm w 0 lev txt stm sm sgn vls opn opp bke bko bkl cel tap tpl rtp rlv sen hpo hpm bgn chn sgt 1 0 rsd ) (cwV 3 hts gX10_learns_X10_tells rfl rfl rfl (by decide +kernel) ⟨Nat.le_of_ble_eq_true rfl, Nat.le_of_ble_eq_true rfl⟩) (preRV (hP.sub (ws' := [(mm, .inr (10, [.int 0, .ref lev, .ref txt, .int 0, .int 0, .int 0, .int 0, .int 0, .int 0, .int 0, .int 0, .ref stm, .ref sm, .int 0, .ref sgn, .ref vls, .ref opn, .ref opp, .ref bke, .ref bko, .ref bkl, .ref cel, .int 0, .int 0, .ref tap, .ref tpl, .int 0, .int 0, .ref rtp, .ref rlv, .int 0, .ref sen, .ref hpo, .ref hpm, .ref bgn, .ref chn, .ref sgt, .int 1, .int 0, .ref rsd])), (lev, aI cI 6 (fun _ => 0))]) [6, 7] rfl) hE 0 (ci := 10) rfl rfl) rfl rfl hl.1 rfl (lv_room (Nat.le_of_ble_eq_true rfl)) dX10_learns_69 ⟨by decide +kernel, by decide +kernel⟩)) (fun hr_53 => ?_)
    refine lv_aload_n hx hb dX10_learns_72 rfl (lv_at hl 3 rfl) ?_
    have hFc := va_free (wc := [(mm, .inr (10, [.int 0, .ref lev, .ref txt, .int 0, .int 0, .int 0, .int 0, .int 0, .int 0, .int 0, .int 0, .ref stm, .ref sm, .int 0, .ref sgn, .ref vls, .ref opn, .ref opp, .ref bke, .ref bko, .ref bkl, .ref cel, .int 0, .int 0, .ref tap, .ref tpl, .int 0, .int 0, .ref rtp, .ref rlv, .int 0, .ref sen, .ref hpo, .ref hpm, .ref bgn, .ref chn, .ref sgt, .int 1, .int 0, .ref rsd]))]) hD hS hA [6] rfl
    refine zCv (wr := [(sen, aJ cJ 24576 fn), (chn, aI cI 4096 fh), (hpo, aI cI 4096 fo), (hpm, aI cI 4096 fm), (bgn, aI cI 8192 (upd (upd fb 0 (-9)) 1 (-9))), (sgt, aJ cJ 6 (vp_updL u_20 0 ((262144 * (u_20 0)) + 0))), (lev, aI cI 6 (fun _ => 0)), (cel, aI cI 6 u_51)]) hP hD hS hFc [6] [0, 1, 2, 3, 4, 5, 7, 8] rfl rfl (by decide) (by decide) (va_runV (As := []) (rest := []) ⟨hx, hb, hml, hown, hts⟩ (m_runs l dC dI cI cJ cS H.size mm lev txt stm sm sgn vls opn opp bke bko bkl cel tap tpl rtp rlv sen hpo hpm bgn chn sgt 1 0 rsd ) (cwV 0 hts gX10_learns_X10_runs rfl rfl rfl (by decide +kernel) ⟨Nat.le_of_ble_eq_true rfl, Nat.le_of_ble_eq_true rfl⟩) (preEV (hP.sub (ws' := [(mm, .inr (10, [.int 0, .ref lev, .ref txt, .int 0, .int 0, .int 0, .int 0, .int 0, .int 0, .int 0, .int 0, .ref stm, .ref sm, .int 0, .ref sgn, .ref vls, .ref opn, .ref opp, .ref bke, .ref bko, .ref bkl, .ref cel, .int 0, .int 0, .ref tap, .ref tpl, .int 0, .int 0, .ref rtp, .ref rlv, .int 0, .ref sen, .ref hpo, .ref hpm, .ref bgn, .ref chn, .ref sgt, .int 1, .int 0, .ref rsd]))]) [6] rfl) hE (hD.sub (ws' := [(mm, .inr (10, [.int 0, .ref lev, .ref txt, .int 0, .int 0, .int 0, .int 0, .int 0, .int 0, .int 0, .int 0, .ref stm, .ref sm, .int 0, .ref sgn, .ref vls, .ref opn, .ref opp, .ref bke, .ref bko, .ref bkl, .ref cel, .int 0, .int 0, .ref tap, .ref tpl, .int 0, .int 0, .ref rtp, .ref rlv, .int 0, .ref sen, .ref hpo, .ref hpm, .ref bgn, .ref chn, .ref sgt, .int 1, .int 0, .ref rsd]))]) [6] (by decide) rfl) 0 (ci := 10) rfl rfl) rfl rfl hl.1 rfl (lv_room (Nat.le_of_ble_eq_true rfl)) dX10_learns_73 ⟨by decide +kernel, by decide +kernel⟩) (fun u_56 H locs hr_55 hP hD hS => ?_)
    try dsimp only at hr_55
    have hP : va_P (dC, dI) vwCl [(sen, aJ cJ 24576 fn), (chn, aI cI 4096 fh), (hpo, aI cI 4096 fo), (hpm, aI cI 4096 fm), (bgn, aI cI 8192 (upd (upd fb 0 (-9)) 1 (-9))), (sgt, aJ cJ 6 (vp_updL u_20 0 ((262144 * (u_20 0)) + 0))), (lev, aI cI 6 (fun _ => 0)), (cel, aI cI 6 u_51), (mm, .inr (10, [.int 0, .ref lev, .ref txt, .int 0, .int 0, .int 0, .int 0, .int 0, .int 0, .int 0, .int 0, .ref stm, .ref sm, .int 0, .ref sgn, .ref vls, .ref opn, .ref opp, .ref bke, .ref bko, .ref bkl, .ref cel, .int 0, .int 0, .ref tap, .ref tpl, .int 0, .int 0, .ref rtp, .ref rlv, .int 0, .ref sen, .ref hpo, .ref hpm, .ref bgn, .ref chn, .ref sgt, .int 1, .int 0, .ref rsd]))] H := hP
    have hD : va_D A [(sen, aJ cJ 24576 fn), (chn, aI cI 4096 fh), (hpo, aI cI 4096 fo), (hpm, aI cI 4096 fm), (bgn, aI cI 8192 (upd (upd fb 0 (-9)) 1 (-9))), (sgt, aJ cJ 6 (vp_updL u_20 0 ((262144 * (u_20 0)) + 0))), (lev, aI cI 6 (fun _ => 0)), (cel, aI cI 6 u_51), (mm, .inr (10, [.int 0, .ref lev, .ref txt, .int 0, .int 0, .int 0, .int 0, .int 0, .int 0, .int 0, .int 0, .ref stm, .ref sm, .int 0, .ref sgn, .ref vls, .ref opn, .ref opp, .ref bke, .ref bko, .ref bkl, .ref cel, .int 0, .int 0, .ref tap, .ref tpl, .int 0, .int 0, .ref rtp, .ref rlv, .int 0, .ref sen, .ref hpo, .ref hpm, .ref bgn, .ref chn, .ref sgt, .int 1, .int 0, .ref rsd]))] := hD
    refine lv_aload_n hx hb dX10_learns_76 rfl (lv_at hl 3 rfl) ?_
    refine lv_iload_n hx hb dX10_learns_77 rfl (lv_at hl 4 rfl) ?_
    refine lv_iconst (v := 3) hx hb dX10_learns_78 (by decide) ?_
    refine lv_iload hx hb dX10_learns_79 (lv_at hl 0 rfl) ?_
    refine lv_imul hx hb dX10_learns_81 ?_
    refine zi (y := 3) (by decide) ?_
    have hFc := va_free (wc := [(mm, .inr (10, [.int 0, .ref lev, .ref txt, .int 0, .int 0, .int 0, .int 0, .int 0, .int 0, .int 0, .int 0, .ref stm, .ref sm, .int 0, .ref sgn, .ref vls, .ref opn, .ref opp, .ref bke, .ref bko, .ref bkl, .ref cel, .int 0, .int 0, .ref tap, .ref tpl, .int 0, .int 0, .ref rtp, .ref rlv, .int 0, .ref sen, .ref hpo, .ref hpm, .ref bgn, .ref chn, .ref sgt, .int 1, .int 0, .ref rsd])), (lev, aI cI 6 (fun _ => 0)), (cel, aI cI 6 u_51), (sgt, aJ cJ 6 (vp_updL u_20 0 ((262144 * (u_20 0)) + 0)))]) hD hS hA [8, 6, 7, 5] rfl
    refine zCv (wr := [(sen, aJ cJ 24576 fn), (chn, aI cI 4096 fh), (hpo, aI cI 4096 fo), (hpm, aI cI 4096 fm), (bgn, aI cI 8192 (upd (upd fb 0 (-9)) 1 (-9)))]) hP hD hS hFc [8, 6, 7, 5] [0, 1, 2, 3, 4] rfl rfl (by decide) (by decide) (va_runV (As := [.int w, .int 3]) (rest := []) ⟨hx, hb, hml, hown, hts⟩ (m_sees3 l dC dI cI cJ cS H.size mm w lev txt stm sm sgn vls opn opp bke bko bkl cel tap tpl rtp rlv sen hpo hpm bgn chn sgt 1 0 rsd u_51 (vp_updL u_20 0 ((262144 * (u_20 0)) + 0)) ) (cwV 2 hts gX10_learns_X10_sees rfl rfl rfl (by decide +kernel) ⟨Nat.le_of_ble_eq_true rfl, Nat.le_of_ble_eq_true rfl⟩) (preEV (hP.sub (ws' := [(mm, .inr (10, [.int 0, .ref lev, .ref txt, .int 0, .int 0, .int 0, .int 0, .int 0, .int 0, .int 0, .int 0, .ref stm, .ref sm, .int 0, .ref sgn, .ref vls, .ref opn, .ref opp, .ref bke, .ref bko, .ref bkl, .ref cel, .int 0, .int 0, .ref tap, .ref tpl, .int 0, .int 0, .ref rtp, .ref rlv, .int 0, .ref sen, .ref hpo, .ref hpm, .ref bgn, .ref chn, .ref sgt, .int 1, .int 0, .ref rsd])), (lev, aI cI 6 (fun _ => 0)), (cel, aI cI 6 u_51), (sgt, aJ cJ 6 (vp_updL u_20 0 ((262144 * (u_20 0)) + 0)))]) [8, 6, 7, 5] rfl) hE (hD.sub (ws' := [(mm, .inr (10, [.int 0, .ref lev, .ref txt, .int 0, .int 0, .int 0, .int 0, .int 0, .int 0, .int 0, .int 0, .ref stm, .ref sm, .int 0, .ref sgn, .ref vls, .ref opn, .ref opp, .ref bke, .ref bko, .ref bkl, .ref cel, .int 0, .int 0, .ref tap, .ref tpl, .int 0, .int 0, .ref rtp, .ref rlv, .int 0, .ref sen, .ref hpo, .ref hpm, .ref bgn, .ref chn, .ref sgt, .int 1, .int 0, .ref rsd])), (lev, aI cI 6 (fun _ => 0)), (cel, aI cI 6 u_51), (sgt, aJ cJ 6 (vp_updL u_20 0 ((262144 * (u_20 0)) + 0)))]) [8, 6, 7, 5] (by decide) rfl) 0 (ci := 10) rfl rfl) rfl rfl hl.1 rfl (lv_room (Nat.le_of_ble_eq_true rfl)) dX10_learns_82 ⟨by decide +kernel, by decide +kernel⟩) (fun u_59 H locs hr_58 hP hD hS => ?_)
    try dsimp only at hr_58
    have hP : va_P (dC, dI) vwCl [(sen, aJ cJ 24576 fn), (chn, aI cI 4096 fh), (hpo, aI cI 4096 fo), (hpm, aI cI 4096 fm), (bgn, aI cI 8192 (upd (upd fb 0 (-9)) 1 (-9))), (mm, .inr (10, [.int 0, .ref lev, .ref txt, .int 0, .int 0, .int 0, .int 0, .int 0, .int 0, .int 0, .int 0, .ref stm, .ref sm, .int 0, .ref sgn, .ref vls, .ref opn, .ref opp, .ref bke, .ref bko, .ref bkl, .ref cel, .int 0, .int 0, .ref tap, .ref tpl, .int 0, .int 0, .ref rtp, .ref rlv, .int 0, .ref sen, .ref hpo, .ref hpm, .ref bgn, .ref chn, .ref sgt, .int 1, .int 0, .ref rsd])), (lev, aI cI 6 (fun _ => 0)), (cel, aI cI 6 u_51), (sgt, aJ cJ 6 u_59)] H := hP
    have hD : va_D A [(sen, aJ cJ 24576 fn), (chn, aI cI 4096 fh), (hpo, aI cI 4096 fo), (hpm, aI cI 4096 fm), (bgn, aI cI 8192 (upd (upd fb 0 (-9)) 1 (-9))), (mm, .inr (10, [.int 0, .ref lev, .ref txt, .int 0, .int 0, .int 0, .int 0, .int 0, .int 0, .int 0, .int 0, .ref stm, .ref sm, .int 0, .ref sgn, .ref vls, .ref opn, .ref opp, .ref bke, .ref bko, .ref bkl, .ref cel, .int 0, .int 0, .ref tap, .ref tpl, .int 0, .int 0, .ref rtp, .ref rlv, .int 0, .ref sen, .ref hpo, .ref hpm, .ref bgn, .ref chn, .ref sgt, .int 1, .int 0, .ref rsd])), (lev, aI cI 6 (fun _ => 0)), (cel, aI cI 6 u_51), (sgt, aJ cJ 6 u_59)] := hD
    refine lv_sipush (v := 512) hx hb dX10_learns_85 (by decide) ?_
    refine lv_iload hx hb dX10_learns_88 (lv_at hl 1 rfl) ?_
    refine lv_imul hx hb dX10_learns_90 ?_
    refine zi (y := 0) (by decide) ?_
    refine lv_iload_n hx hb dX10_learns_91 rfl (lv_at hl 5 rfl) ?_
    refine lv_iconst (v := 1) hx hb dX10_learns_92 (by decide) ?_
    refine lv_icmp_ne (tgt := 103) hx hb dX10_learns_93 (by decide) (fun c_60 => absurd c_21 c_60) (fun _ => ?_)
    refine lv_aload_n hx hb dX10_learns_96 rfl (lv_at hl 3 rfl) ?_
    refine va_get (D := (dC, dI)) (ci := 10) (v := .int 0) (C := RX10) (T := TX10) (N := 40) hx hb hts hiX10 hown hK hP 5 rfl rfl 22 (by decide) (hts (.fieldLink RX10 171 "WatchedProgramsModel" "steps" "I") (by decide +kernel)) (fun _ h9 => h9) rfl dX10_learns_97 ?_
    refine lv_goto (tgt := 104) hx hb dX10_learns_100 (by decide) ?_
    refine lv_iadd hx hb dX10_learns_104 ?_
    refine zi (y := 0) (by decide) ?_
    refine lv_istore (lv' := [(6, .int 0), (7, .int 1), (5, .int 0), (0, .ref mm), (1, .int w), (2, .int t), (3, .int o1), (4, .int tw)]) hx hb dX10_learns_105 hl (by decide) rfl (fun ls hl => ?_)
    refine lv_aload_n hx hb dX10_learns_107 rfl (lv_at hl 3 rfl) ?_
    refine va_get (D := (dC, dI)) (ci := 10) (v := .ref sgt) (C := RX10) (T := TX10) (N := 40) hx hb hts hiX10 hown hK hP 5 rfl rfl 36 (by decide) (hts (.fieldLink RX10 74 "WatchedProgramsModel" "sight" "[J") (by decide +kernel)) (fun _ h9 => h9) rfl dX10_learns_108 ?_
    refine lv_iconst (v := 3) hx hb dX10_learns_111 (by decide) ?_
    refine lv_iload hx hb dX10_learns_112 (lv_at hl 1 rfl) ?_
    refine lv_imul hx hb dX10_learns_114 ?_
    refine zi (y := 3) (by decide) ?_
    refine lv_ldc2 (v := 262144) hx hb hown (hts (.constantLong RX10 234 (262144)) (by decide +kernel)) dX10_learns_115 ?_
    refine lv_aload_n hx hb dX10_learns_118 rfl (lv_at hl 3 rfl) ?_
    refine va_get (D := (dC, dI)) (ci := 10) (v := .ref sgt) (C := RX10) (T := TX10) (N := 40) hx hb hts hiX10 hown hK hP 5 rfl rfl 36 (by decide) (hts (.fieldLink RX10 74 "WatchedProgramsModel" "sight" "[J") (by decide +kernel)) (fun _ h9 => h9) rfl dX10_learns_119 ?_
    refine lv_iconst (v := 3) hx hb dX10_learns_122 (by decide) ?_
    refine lv_iload hx hb dX10_learns_123 (lv_at hl 1 rfl) ?_
    refine lv_imul hx hb dX10_learns_125 ?_
    refine zi (y := 3) (by decide) ?_
    refine va_lald hx hb hK hP 8 1 rfl rfl (by unfold vp_in; decide) dX10_learns_126 ?_
    refine zl (y := (u_59 3)) (by rfl) ?_
    refine lv_lmul hx hb dX10_learns_127 ?_
    refine lv_iload hx hb dX10_learns_128 (lv_at hl 0 rfl) ?_
    refine lv_i2l (v := 0) hx hb dX10_learns_130 (by decide) ?_
    refine lv_ladd hx hb dX10_learns_131 ?_
    refine va_last hx hb hK hP hD hS 8 1 rfl rfl (by unfold vp_in; decide) dX10_learns_132 (fun H locs hP hD hS => ?_)
    have hP : va_P (dC, dI) vwCl [(sen, aJ cJ 24576 fn), (chn, aI cI 4096 fh), (hpo, aI cI 4096 fo), (hpm, aI cI 4096 fm), (bgn, aI cI 8192 (upd (upd fb 0 (-9)) 1 (-9))), (mm, .inr (10, [.int 0, .ref lev, .ref txt, .int 0, .int 0, .int 0, .int 0, .int 0, .int 0, .int 0, .int 0, .ref stm, .ref sm, .int 0, .ref sgn, .ref vls, .ref opn, .ref opp, .ref bke, .ref bko, .ref bkl, .ref cel, .int 0, .int 0, .ref tap, .ref tpl, .int 0, .int 0, .ref rtp, .ref rlv, .int 0, .ref sen, .ref hpo, .ref hpm, .ref bgn, .ref chn, .ref sgt, .int 1, .int 0, .ref rsd])), (lev, aI cI 6 (fun _ => 0)), (cel, aI cI 6 u_51), (sgt, aJ cJ 6 (vp_updL u_59 3 ((262144 * (u_59 3)) + 0)))] H := hP
    have hD : va_D A [(sen, aJ cJ 24576 fn), (chn, aI cI 4096 fh), (hpo, aI cI 4096 fo), (hpm, aI cI 4096 fm), (bgn, aI cI 8192 (upd (upd fb 0 (-9)) 1 (-9))), (mm, .inr (10, [.int 0, .ref lev, .ref txt, .int 0, .int 0, .int 0, .int 0, .int 0, .int 0, .int 0, .int 0, .ref stm, .ref sm, .int 0, .ref sgn, .ref vls, .ref opn, .ref opp, .ref bke, .ref bko, .ref bkl, .ref cel, .int 0, .int 0, .ref tap, .ref tpl, .int 0, .int 0, .ref rtp, .ref rlv, .int 0, .ref sen, .ref hpo, .ref hpm, .ref bgn, .ref chn, .ref sgt, .int 1, .int 0, .ref rsd])), (lev, aI cI 6 (fun _ => 0)), (cel, aI cI 6 u_51), (sgt, aJ cJ 6 (vp_updL u_59 3 ((262144 * (u_59 3)) + 0)))] := hD
    refine lv_iinc (v := 2) (lv' := [(7, .int 2), (6, .int 0), (5, .int 0), (0, .ref mm), (1, .int w), (2, .int t), (3, .int o1), (4, .int tw)]) hx hb dX10_learns_133 hl (k := 1) rfl (by decide) (by decide) rfl (fun ls hl => ?_)
    refine lv_goto (tgt := 32) hx hb dX10_learns_136 (by decide) ?_
    refine lv_iload hx hb dX10_learns_32 (lv_at hl 0 rfl) ?_
    refine lv_iload hx hb dX10_learns_34 (lv_at hl 7 rfl) ?_
    refine lv_if_ge (tgt := 43) hx hb dX10_learns_36 (by decide) (fun _ => ?_) (fun c_61 => absurd (by simp only [Int32.lt_iff_toInt_lt, Int32.le_iff_toInt_le, ← Int32.toInt_inj, tI_0, tI_1, tI_2, tI_3, tI_4, tI_5, tI_6, tI_7, tI_8, tI_20, tI_30, tI_300, tI_400, tI_4095, tI_4096, tI_m1, tI_m2, tI_m3, tI_m9] at htw ⊢ <;> omega) c_61)
    refine lv_iconst (v := 2) hx hb dX10_learns_43 (by decide) ?_
    refine lv_icmp_ge (tgt := 139) hx hb dX10_learns_44 (by decide) (fun _ => ?_) (fun c_62 => absurd (by decide) c_62)
    refine lv_aload_n hx hb dX10_learns_139 rfl (lv_at hl 3 rfl) ?_
    refine lv_iload hx hb dX10_learns_140 (lv_at hl 2 rfl) ?_
    have hFc := va_free (wc := [(mm, .inr (10, [.int 0, .ref lev, .ref txt, .int 0, .int 0, .int 0, .int 0, .int 0, .int 0, .int 0, .int 0, .ref stm, .ref sm, .int 0, .ref sgn, .ref vls, .ref opn, .ref opp, .ref bke, .ref bko, .ref bkl, .ref cel, .int 0, .int 0, .ref tap, .ref tpl, .int 0, .int 0, .ref rtp, .ref rlv, .int 0, .ref sen, .ref hpo, .ref hpm, .ref bgn, .ref chn, .ref sgt, .int 1, .int 0, .ref rsd])), (sgt, aJ cJ 6 (vp_updL u_59 3 ((262144 * (u_59 3)) + 0))), (sen, aJ cJ 24576 fn), (bgn, aI cI 8192 (upd (upd fb 0 (-9)) 1 (-9))), (chn, aI cI 4096 fh), (hpo, aI cI 4096 fo), (hpm, aI cI 4096 fm)]) hD hS hA [5, 8, 0, 4, 1, 2, 3] rfl
    refine zCv (wr := [(lev, aI cI 6 (fun _ => 0)), (cel, aI cI 6 u_51)]) hP hD hS hFc [5, 8, 0, 4, 1, 2, 3] [6, 7] rfl rfl (by decide) (by decide) (va_runV (As := [.int 0]) (rest := []) ⟨hx, hb, hml, hown, hts⟩ (m_takes l dC dI cI cJ cS H.size mm lev txt stm sm sgn vls opn opp bke bko bkl cel tap tpl rtp rlv sen hpo hpm bgn chn sgt rsd (vp_updL u_59 3 ((262144 * (u_59 3)) + 0)) fn fb fh fo fm ) (cwV 1 hts gX10_learns_X10_takes rfl rfl rfl (by decide +kernel) ⟨Nat.le_of_ble_eq_true rfl, Nat.le_of_ble_eq_true rfl⟩) (preEV (hP.sub (ws' := [(mm, .inr (10, [.int 0, .ref lev, .ref txt, .int 0, .int 0, .int 0, .int 0, .int 0, .int 0, .int 0, .int 0, .ref stm, .ref sm, .int 0, .ref sgn, .ref vls, .ref opn, .ref opp, .ref bke, .ref bko, .ref bkl, .ref cel, .int 0, .int 0, .ref tap, .ref tpl, .int 0, .int 0, .ref rtp, .ref rlv, .int 0, .ref sen, .ref hpo, .ref hpm, .ref bgn, .ref chn, .ref sgt, .int 1, .int 0, .ref rsd])), (sgt, aJ cJ 6 (vp_updL u_59 3 ((262144 * (u_59 3)) + 0))), (sen, aJ cJ 24576 fn), (bgn, aI cI 8192 (upd (upd fb 0 (-9)) 1 (-9))), (chn, aI cI 4096 fh), (hpo, aI cI 4096 fo), (hpm, aI cI 4096 fm)]) [5, 8, 0, 4, 1, 2, 3] rfl) hE (hD.sub (ws' := [(mm, .inr (10, [.int 0, .ref lev, .ref txt, .int 0, .int 0, .int 0, .int 0, .int 0, .int 0, .int 0, .int 0, .ref stm, .ref sm, .int 0, .ref sgn, .ref vls, .ref opn, .ref opp, .ref bke, .ref bko, .ref bkl, .ref cel, .int 0, .int 0, .ref tap, .ref tpl, .int 0, .int 0, .ref rtp, .ref rlv, .int 0, .ref sen, .ref hpo, .ref hpm, .ref bgn, .ref chn, .ref sgt, .int 1, .int 0, .ref rsd])), (sgt, aJ cJ 6 (vp_updL u_59 3 ((262144 * (u_59 3)) + 0))), (sen, aJ cJ 24576 fn), (bgn, aI cI 8192 (upd (upd fb 0 (-9)) 1 (-9))), (chn, aI cI 4096 fh), (hpo, aI cI 4096 fo), (hpm, aI cI 4096 fm)]) [5, 8, 0, 4, 1, 2, 3] (by decide) rfl) 0 (ci := 10) rfl rfl) rfl rfl hl.1 rfl (lv_room (Nat.le_of_ble_eq_true rfl)) dX10_learns_142 ⟨by decide +kernel, by decide +kernel⟩) (fun u_65 H locs hr_64 hP hD hS => ?_)
    obtain ⟨fs_66, fb_67, fh_68⟩ := u_65
    try dsimp only at hr_64
    have hP : va_P (dC, dI) vwCl [(lev, aI cI 6 (fun _ => 0)), (cel, aI cI 6 u_51), (mm, .inr (10, [.int 0, .ref lev, .ref txt, .int 0, .int 0, .int 0, .int 0, .int 0, .int 0, .int 0, .int 0, .ref stm, .ref sm, .int 0, .ref sgn, .ref vls, .ref opn, .ref opp, .ref bke, .ref bko, .ref bkl, .ref cel, .int 0, .int 0, .ref tap, .ref tpl, .int 0, .int 0, .ref rtp, .ref rlv, .int 0, .ref sen, .ref hpo, .ref hpm, .ref bgn, .ref chn, .ref sgt, .int 1, .int 1, .ref rsd])), (sgt, aJ cJ 6 (vp_updL u_59 3 ((262144 * (u_59 3)) + 0))), (sen, aJ cJ 24576 fs_66), (bgn, aI cI 8192 fb_67), (chn, aI cI 4096 fh_68), (hpo, aI cI 4096 (upd fo 0 0)), (hpm, aI cI 4096 (upd fm 0 1))] H := hP
    have hD : va_D A [(lev, aI cI 6 (fun _ => 0)), (cel, aI cI 6 u_51), (mm, .inr (10, [.int 0, .ref lev, .ref txt, .int 0, .int 0, .int 0, .int 0, .int 0, .int 0, .int 0, .int 0, .ref stm, .ref sm, .int 0, .ref sgn, .ref vls, .ref opn, .ref opp, .ref bke, .ref bko, .ref bkl, .ref cel, .int 0, .int 0, .ref tap, .ref tpl, .int 0, .int 0, .ref rtp, .ref rlv, .int 0, .ref sen, .ref hpo, .ref hpm, .ref bgn, .ref chn, .ref sgt, .int 1, .int 1, .ref rsd])), (sgt, aJ cJ 6 (vp_updL u_59 3 ((262144 * (u_59 3)) + 0))), (sen, aJ cJ 24576 fs_66), (bgn, aI cI 8192 fb_67), (chn, aI cI 4096 fh_68), (hpo, aI cI 4096 (upd fo 0 0)), (hpm, aI cI 4096 (upd fm 0 1))] := hD
    refine lv_iinc (v := 1) (lv' := [(5, .int 1), (7, .int 2), (6, .int 0), (0, .ref mm), (1, .int w), (2, .int t), (3, .int o1), (4, .int tw)]) hx hb dX10_learns_145 hl (k := 2) rfl (by decide) (by decide) rfl (fun ls hl => ?_)
    refine lv_goto (tgt := 17) hx hb dX10_learns_148 (by decide) ?_
    refine lv_iload hx hb dX10_learns_17 (lv_at hl 0 rfl) ?_
    refine lv_aload_n hx hb dX10_learns_19 rfl (lv_at hl 3 rfl) ?_
    refine va_get (D := (dC, dI)) (ci := 10) (v := .int 1) (C := RX10) (T := TX10) (N := 40) hx hb hts hiX10 hown hK hP 2 rfl rfl 37 (by decide) (hts (.fieldLink RX10 210 "WatchedProgramsModel" "secrets" "I") (by decide +kernel)) (fun _ h9 => h9) rfl dX10_learns_20 ?_
    refine lv_icmp_ge (tgt := 151) hx hb dX10_learns_23 (by decide) (fun _ => ?_) (fun c_69 => absurd (by decide) c_69)
    have hP9 := hP.sub (ws' := [(mm, .inr (10, [.int 0, .ref lev, .ref txt, .int 0, .int 0, .int 0, .int 0, .int 0, .int 0, .int 0, .int 0, .ref stm, .ref sm, .int 0, .ref sgn, .ref vls, .ref opn, .ref opp, .ref bke, .ref bko, .ref bkl, .ref cel, .int 0, .int 0, .ref tap, .ref tpl, .int 0, .int 0, .ref rtp, .ref rlv, .int 0, .ref sen, .ref hpo, .ref hpm, .ref bgn, .ref chn, .ref sgt, .int 1, .int 1, .ref rsd])), (lev, aI cI 6 (fun _ => 0)), (cel, aI cI 6 u_51), (sgt, aJ cJ 6 (vp_updL u_59 3 ((262144 * (u_59 3)) + 0))), (sen, aJ cJ 24576 fs_66), (bgn, aI cI 8192 fb_67), (chn, aI cI 4096 fh_68), (hpo, aI cI 4096 (upd fo 0 0)), (hpm, aI cI 4096 (upd fm 0 1))]) [2, 0, 1, 3, 4, 5, 6, 7, 8] rfl
    have hD9 := hD.sub (ws' := [(mm, .inr (10, [.int 0, .ref lev, .ref txt, .int 0, .int 0, .int 0, .int 0, .int 0, .int 0, .int 0, .int 0, .ref stm, .ref sm, .int 0, .ref sgn, .ref vls, .ref opn, .ref opp, .ref bke, .ref bko, .ref bkl, .ref cel, .int 0, .int 0, .ref tap, .ref tpl, .int 0, .int 0, .ref rtp, .ref rlv, .int 0, .ref sen, .ref hpo, .ref hpm, .ref bgn, .ref chn, .ref sgt, .int 1, .int 1, .ref rsd])), (lev, aI cI 6 (fun _ => 0)), (cel, aI cI 6 u_51), (sgt, aJ cJ 6 (vp_updL u_59 3 ((262144 * (u_59 3)) + 0))), (sen, aJ cJ 24576 fs_66), (bgn, aI cI 8192 fb_67), (chn, aI cI 4096 fh_68), (hpo, aI cI 4096 (upd fo 0 0)), (hpm, aI cI 4096 (upd fm 0 1))]) [2, 0, 1, 3, 4, 5, 6, 7, 8] (by decide) rfl
    exact W.vret hx hb hr (fun tt_ ht hW => ⟨⟨(u_51, (vp_updL u_59 3 ((262144 * (u_59 3)) + 0)), fs_66, fb_67, fh_68), rfl, trivial, by rw [ht]; exact hP9, hD9⟩, hS.F ht⟩) hS.2.2 dX10_learns_151
