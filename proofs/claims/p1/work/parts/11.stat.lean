set_option maxHeartbeats 1000000 in
set_option maxRecDepth 100000 in
theorem c_isCell (l : Launch) (dC : Nat → ClassId) (dI : Nat → Nat → Nat) (cI cJ cS : ClassId) (v : Int32)  : Met l yX9_isCell wsX9_isCell ({ frames := 0, cells := 0, slots := 0, locals := 0 }) (va_Pc [.int v] (PR dC dI cI cJ cS [])) (vp_Si (fun r : Int32 => r = bI (inR v 0 5))) 0 0 (fun _ => False) := by
  refine Met.ofW (cc := cX9_isCell) (maxL := 1) (ret := (some .boolean)) (by decide) rfl ?_
  intro pp_ ee_ ss_ mm_ args below meth cc_ s₁ B hml hv
  obtain ⟨rfl, hP, hE⟩ := hv
  have hx := B.exec
  have hb := B.bytes
  have hr := B.returns
  have hts := atoms_spec (ws := wsX9_isCell) B.pre
  have hown : ss_.vm.findClass RX9 = some mm_.cls := findClass_of_methodNamed B.named
  have hlocks := B.notSynchronized
  have hK := hE.1
  have hP : va_P (dC, dI) vwCl [] ss_.heap := hP
  have hl := lv_entry ([.int v]) (n := 1) (Nat.le_of_ble_eq_true rfl)
  rw [lg_entry_eq]
  generalize (lg_sl ([.int v]) ++ List.replicate (1 - (lg_sl ([.int v])).length) Slot.unset).toArray = ls at hl ⊢
  have hl : lv_has ls 1 [(0, .int v)] := hl
  refine lv_iload_n hx hb dX9_isCell_0 rfl (lv_at hl 0 rfl) ?_
  refine lv_if_lt (tgt := 14) hx hb dX9_isCell_1 (by decide) (fun c_1 => ?_) (fun c_1 => ?_)
  · refine lv_iconst (v := 0) hx hb dX9_isCell_14 (by decide) ?_
    exact W.zret (v := 0) hx hb hr (by decide) (fun tt_ ht hW => ⟨_, rfl, (bI_f (by (simp only [inR, Int32.lt_iff_toInt_lt, Int32.le_iff_toInt_le, ← Int32.toInt_inj, tI_0, tI_1, tI_2, tI_3, tI_4, tI_5, tI_6, tI_7, tI_8, tI_20, tI_30, tI_300, tI_400, tI_4095, tI_4096, tI_m1, tI_m2, tI_m3, tI_m9] at c_1 ⊢ <;> omega))).symm, ht⟩) (fun _ h => by cases h) dX9_isCell_15
  · refine lv_iload_n hx hb dX9_isCell_4 rfl (lv_at hl 0 rfl) ?_
    refine lv_bipush (v := 6) hx hb dX9_isCell_5 (by decide) ?_
    refine lv_icmp_ge (tgt := 14) hx hb dX9_isCell_7 (by decide) (fun c_2 => ?_) (fun c_2 => ?_)
    · refine lv_iconst (v := 0) hx hb dX9_isCell_14 (by decide) ?_
      exact W.zret (v := 0) hx hb hr (by decide) (fun tt_ ht hW => ⟨_, rfl, (bI_f (by (simp only [inR, Int32.lt_iff_toInt_lt, Int32.le_iff_toInt_le, ← Int32.toInt_inj, tI_0, tI_1, tI_2, tI_3, tI_4, tI_5, tI_6, tI_7, tI_8, tI_20, tI_30, tI_300, tI_400, tI_4095, tI_4096, tI_m1, tI_m2, tI_m3, tI_m9] at c_1 c_2 ⊢ <;> omega))).symm, ht⟩) (fun _ h => by cases h) dX9_isCell_15
    · refine lv_iconst (v := 1) hx hb dX9_isCell_10 (by decide) ?_
      refine lv_goto (tgt := 15) hx hb dX9_isCell_11 (by decide) ?_
      exact W.zret (v := 1) hx hb hr (by decide) (fun tt_ ht hW => ⟨_, rfl, (bI_t (by (simp only [inR, Int32.lt_iff_toInt_lt, Int32.le_iff_toInt_le, ← Int32.toInt_inj, tI_0, tI_1, tI_2, tI_3, tI_4, tI_5, tI_6, tI_7, tI_8, tI_20, tI_30, tI_300, tI_400, tI_4095, tI_4096, tI_m1, tI_m2, tI_m3, tI_m9] at c_1 c_2 ⊢ <;> omega))).symm, ht⟩) (fun _ h => by cases h) dX9_isCell_15
set_option maxHeartbeats 1000000 in
set_option maxRecDepth 100000 in
theorem c_isLevel (l : Launch) (dC : Nat → ClassId) (dI : Nat → Nat → Nat) (cI cJ cS : ClassId) (v : Int32)  : Met l yX9_isLevel wsX9_isLevel ({ frames := 0, cells := 0, slots := 0, locals := 0 }) (va_Pc [.int v] (PR dC dI cI cJ cS [])) (vp_Si (fun r : Int32 => r = bI (inR v 0 3))) 0 0 (fun _ => False) := by
  refine Met.ofW (cc := cX9_isLevel) (maxL := 1) (ret := (some .boolean)) (by decide) rfl ?_
  intro pp_ ee_ ss_ mm_ args below meth cc_ s₁ B hml hv
  obtain ⟨rfl, hP, hE⟩ := hv
  have hx := B.exec
  have hb := B.bytes
  have hr := B.returns
  have hts := atoms_spec (ws := wsX9_isLevel) B.pre
  have hown : ss_.vm.findClass RX9 = some mm_.cls := findClass_of_methodNamed B.named
  have hlocks := B.notSynchronized
  have hK := hE.1
  have hP : va_P (dC, dI) vwCl [] ss_.heap := hP
  have hl := lv_entry ([.int v]) (n := 1) (Nat.le_of_ble_eq_true rfl)
  rw [lg_entry_eq]
  generalize (lg_sl ([.int v]) ++ List.replicate (1 - (lg_sl ([.int v])).length) Slot.unset).toArray = ls at hl ⊢
  have hl : lv_has ls 1 [(0, .int v)] := hl
  refine lv_iload_n hx hb dX9_isLevel_0 rfl (lv_at hl 0 rfl) ?_
  refine lv_if_lt (tgt := 13) hx hb dX9_isLevel_1 (by decide) (fun c_1 => ?_) (fun c_1 => ?_)
  · refine lv_iconst (v := 0) hx hb dX9_isLevel_13 (by decide) ?_
    exact W.zret (v := 0) hx hb hr (by decide) (fun tt_ ht hW => ⟨_, rfl, (bI_f (by (simp only [inR, Int32.lt_iff_toInt_lt, Int32.le_iff_toInt_le, ← Int32.toInt_inj, tI_0, tI_1, tI_2, tI_3, tI_4, tI_5, tI_6, tI_7, tI_8, tI_20, tI_30, tI_300, tI_400, tI_4095, tI_4096, tI_m1, tI_m2, tI_m3, tI_m9] at c_1 ⊢ <;> omega))).symm, ht⟩) (fun _ h => by cases h) dX9_isLevel_14
  · refine lv_iload_n hx hb dX9_isLevel_4 rfl (lv_at hl 0 rfl) ?_
    refine lv_iconst (v := 3) hx hb dX9_isLevel_5 (by decide) ?_
    refine lv_icmp_gt (tgt := 13) hx hb dX9_isLevel_6 (by decide) (fun c_2 => ?_) (fun c_2 => ?_)
    · refine lv_iconst (v := 0) hx hb dX9_isLevel_13 (by decide) ?_
      exact W.zret (v := 0) hx hb hr (by decide) (fun tt_ ht hW => ⟨_, rfl, (bI_f (by (simp only [inR, Int32.lt_iff_toInt_lt, Int32.le_iff_toInt_le, ← Int32.toInt_inj, tI_0, tI_1, tI_2, tI_3, tI_4, tI_5, tI_6, tI_7, tI_8, tI_20, tI_30, tI_300, tI_400, tI_4095, tI_4096, tI_m1, tI_m2, tI_m3, tI_m9] at c_1 c_2 ⊢ <;> omega))).symm, ht⟩) (fun _ h => by cases h) dX9_isLevel_14
    · refine lv_iconst (v := 1) hx hb dX9_isLevel_9 (by decide) ?_
      refine lv_goto (tgt := 14) hx hb dX9_isLevel_10 (by decide) ?_
      exact W.zret (v := 1) hx hb hr (by decide) (fun tt_ ht hW => ⟨_, rfl, (bI_t (by (simp only [inR, Int32.lt_iff_toInt_lt, Int32.le_iff_toInt_le, ← Int32.toInt_inj, tI_0, tI_1, tI_2, tI_3, tI_4, tI_5, tI_6, tI_7, tI_8, tI_20, tI_30, tI_300, tI_400, tI_4095, tI_4096, tI_m1, tI_m2, tI_m3, tI_m9] at c_1 c_2 ⊢ <;> omega))).symm, ht⟩) (fun _ h => by cases h) dX9_isLevel_14
set_option maxHeartbeats 1000000 in
set_option maxRecDepth 100000 in
theorem c_isFlag (l : Launch) (dC : Nat → ClassId) (dI : Nat → Nat → Nat) (cI cJ cS : ClassId) (v : Int32)  : Met l yX9_isFlag wsX9_isFlag ({ frames := 0, cells := 0, slots := 0, locals := 0 }) (va_Pc [.int v] (PR dC dI cI cJ cS [])) (vp_Si (fun r : Int32 => r = bI (inR v 0 1))) 0 0 (fun _ => False) := by
  refine Met.ofW (cc := cX9_isFlag) (maxL := 1) (ret := (some .boolean)) (by decide) rfl ?_
  intro pp_ ee_ ss_ mm_ args below meth cc_ s₁ B hml hv
  obtain ⟨rfl, hP, hE⟩ := hv
  have hx := B.exec
  have hb := B.bytes
  have hr := B.returns
  have hts := atoms_spec (ws := wsX9_isFlag) B.pre
  have hown : ss_.vm.findClass RX9 = some mm_.cls := findClass_of_methodNamed B.named
  have hlocks := B.notSynchronized
  have hK := hE.1
  have hP : va_P (dC, dI) vwCl [] ss_.heap := hP
  have hl := lv_entry ([.int v]) (n := 1) (Nat.le_of_ble_eq_true rfl)
  rw [lg_entry_eq]
  generalize (lg_sl ([.int v]) ++ List.replicate (1 - (lg_sl ([.int v])).length) Slot.unset).toArray = ls at hl ⊢
  have hl : lv_has ls 1 [(0, .int v)] := hl
  refine lv_iload_n hx hb dX9_isFlag_0 rfl (lv_at hl 0 rfl) ?_
  refine lv_if_eq (tgt := 9) hx hb dX9_isFlag_1 (by decide) (fun c_1 => ?_) (fun c_1 => ?_)
  · refine lv_iconst (v := 1) hx hb dX9_isFlag_9 (by decide) ?_
    refine lv_goto (tgt := 14) hx hb dX9_isFlag_10 (by decide) ?_
    exact W.zret (v := 1) hx hb hr (by decide) (fun tt_ ht hW => ⟨_, rfl, (bI_t (by (simp only [inR, Int32.lt_iff_toInt_lt, Int32.le_iff_toInt_le, ← Int32.toInt_inj, tI_0, tI_1, tI_2, tI_3, tI_4, tI_5, tI_6, tI_7, tI_8, tI_20, tI_30, tI_300, tI_400, tI_4095, tI_4096, tI_m1, tI_m2, tI_m3, tI_m9] at c_1 ⊢ <;> omega))).symm, ht⟩) (fun _ h => by cases h) dX9_isFlag_14
  · refine lv_iload_n hx hb dX9_isFlag_4 rfl (lv_at hl 0 rfl) ?_
    refine lv_iconst (v := 1) hx hb dX9_isFlag_5 (by decide) ?_
    refine lv_icmp_ne (tgt := 13) hx hb dX9_isFlag_6 (by decide) (fun c_2 => ?_) (fun c_2 => ?_)
    · refine lv_iconst (v := 0) hx hb dX9_isFlag_13 (by decide) ?_
      exact W.zret (v := 0) hx hb hr (by decide) (fun tt_ ht hW => ⟨_, rfl, (bI_f (by (simp only [inR, Int32.lt_iff_toInt_lt, Int32.le_iff_toInt_le, ← Int32.toInt_inj, tI_0, tI_1, tI_2, tI_3, tI_4, tI_5, tI_6, tI_7, tI_8, tI_20, tI_30, tI_300, tI_400, tI_4095, tI_4096, tI_m1, tI_m2, tI_m3, tI_m9] at c_1 c_2 ⊢ <;> omega))).symm, ht⟩) (fun _ h => by cases h) dX9_isFlag_14
    · refine lv_iconst (v := 1) hx hb dX9_isFlag_9 (by decide) ?_
      refine lv_goto (tgt := 14) hx hb dX9_isFlag_10 (by decide) ?_
      exact W.zret (v := 1) hx hb hr (by decide) (fun tt_ ht hW => ⟨_, rfl, (bI_t (by (simp only [inR, Int32.lt_iff_toInt_lt, Int32.le_iff_toInt_le, ← Int32.toInt_inj, tI_0, tI_1, tI_2, tI_3, tI_4, tI_5, tI_6, tI_7, tI_8, tI_20, tI_30, tI_300, tI_400, tI_4095, tI_4096, tI_m1, tI_m2, tI_m3, tI_m9] at c_1 c_2 ⊢ <;> omega))).symm, ht⟩) (fun _ h => by cases h) dX9_isFlag_14
set_option maxHeartbeats 1000000 in
set_option maxRecDepth 100000 in
theorem c_isWatched0 (l : Launch) (dC : Nat → ClassId) (dI : Nat → Nat → Nat) (cI cJ cS : ClassId) (w : Int32) (t : Int32)  : Met l yX9_isWatched wsX9_isWatched ({ frames := 1, cells := 0, slots := 0, locals := 20 }) (va_Pc [.int w, .int t, .int 0] (PR dC dI cI cJ cS [])) (vp_Si (fun r : Int32 => r = bI (inR w 0 3 ∧ inR t 0 1))) 0 0 (fun _ => False) := by
  refine Met.ofW (cc := cX9_isWatched) (maxL := 3) (ret := (some .boolean)) (by decide) rfl ?_
  intro pp_ ee_ ss_ mm_ args below meth cc_ s₁ B hml hv
  obtain ⟨rfl, hP, hE⟩ := hv
  have hx := B.exec
  have hb := B.bytes
  have hr := B.returns
  have hts := atoms_spec (ws := wsX9_isWatched) B.pre
  have hown : ss_.vm.findClass RX9 = some mm_.cls := findClass_of_methodNamed B.named
  have hlocks := B.notSynchronized
  have hK := hE.1
  have hP : va_P (dC, dI) vwCl [] ss_.heap := hP
  have hl := lv_entry ([.int w, .int t, .int 0]) (n := 3) (Nat.le_of_ble_eq_true rfl)
  rw [lg_entry_eq]
  generalize (lg_sl ([.int w, .int t, .int 0]) ++ List.replicate (3 - (lg_sl ([.int w, .int t, .int 0])).length) Slot.unset).toArray = ls at hl ⊢
  have hl : lv_has ls 3 [(0, .int w), (1, .int t), (2, .int 0)] := hl
  refine lv_iload_n hx hb dX9_isWatched_0 rfl (lv_at hl 0 rfl) ?_
  refine vp_callSi (va_Run.run (va_runS (As := [.int w]) (rest := []) ⟨hx, hb, hml, hown, hts⟩ (c_isLevel l dC dI cI cJ cS  w ) (va_cwS 1 hts gX9_isWatched_X9_isLevel rfl rfl rfl (by decide +kernel) ⟨Nat.le_of_ble_eq_true rfl, Nat.le_of_ble_eq_true rfl⟩) (preR (hP.sub (ws' := []) [] rfl) hE) rfl rfl hl.1 rfl (lv_room (Nat.le_of_ble_eq_true rfl)) dX9_isWatched_1 ⟨by decide +kernel, by decide +kernel⟩)) (fun r_1 hr_2 => ?_)
  refine lv_if_eq (tgt := 25) hx hb dX9_isWatched_4 (by decide) (fun c_3 => ?_) (fun c_3 => ?_)
  · have k_4 : ¬ (inR w 0 3) := bI_0 hr_2 c_3
    refine lv_iconst (v := 0) hx hb dX9_isWatched_25 (by decide) ?_
    exact W.zret (v := 0) hx hb hr (by decide) (fun tt_ ht hW => ⟨_, rfl, (bI_f (by (simp only [inR, Int32.lt_iff_toInt_lt, Int32.le_iff_toInt_le, ← Int32.toInt_inj, tI_0, tI_1, tI_2, tI_3, tI_4, tI_5, tI_6, tI_7, tI_8, tI_20, tI_30, tI_300, tI_400, tI_4095, tI_4096, tI_m1, tI_m2, tI_m3, tI_m9] at k_4 ⊢ <;> omega))).symm, ht⟩) (fun _ h => by cases h) dX9_isWatched_26
  · have k_5 : inR w 0 3 := bI_1 hr_2 c_3
    refine lv_iload_n hx hb dX9_isWatched_7 rfl (lv_at hl 1 rfl) ?_
    refine vp_callSi (va_Run.run (va_runS (As := [.int t]) (rest := []) ⟨hx, hb, hml, hown, hts⟩ (c_isFlag l dC dI cI cJ cS  t ) (va_cwS 1 hts gX9_isWatched_X9_isFlag rfl rfl rfl (by decide +kernel) ⟨Nat.le_of_ble_eq_true rfl, Nat.le_of_ble_eq_true rfl⟩) (preR (hP.sub (ws' := []) [] rfl) hE) rfl rfl hl.1 rfl (lv_room (Nat.le_of_ble_eq_true rfl)) dX9_isWatched_8 ⟨by decide +kernel, by decide +kernel⟩)) (fun r_6 hr_7 => ?_)
    refine lv_if_eq (tgt := 25) hx hb dX9_isWatched_11 (by decide) (fun c_8 => ?_) (fun c_8 => ?_)
    · have k_9 : ¬ (inR t 0 1) := bI_0 hr_7 c_8
      refine lv_iconst (v := 0) hx hb dX9_isWatched_25 (by decide) ?_
      exact W.zret (v := 0) hx hb hr (by decide) (fun tt_ ht hW => ⟨_, rfl, (bI_f (by (simp only [inR, Int32.lt_iff_toInt_lt, Int32.le_iff_toInt_le, ← Int32.toInt_inj, tI_0, tI_1, tI_2, tI_3, tI_4, tI_5, tI_6, tI_7, tI_8, tI_20, tI_30, tI_300, tI_400, tI_4095, tI_4096, tI_m1, tI_m2, tI_m3, tI_m9] at k_5 k_9 ⊢ <;> omega))).symm, ht⟩) (fun _ h => by cases h) dX9_isWatched_26
    · have k_10 : inR t 0 1 := bI_1 hr_7 c_8
      refine lv_iload_n hx hb dX9_isWatched_14 rfl (lv_at hl 2 rfl) ?_
      refine vp_callSi (va_Run.run (va_runS (As := [.int 0]) (rest := []) ⟨hx, hb, hml, hown, hts⟩ (c_isFlag l dC dI cI cJ cS  0 ) (va_cwS 1 hts gX9_isWatched_X9_isFlag rfl rfl rfl (by decide +kernel) ⟨Nat.le_of_ble_eq_true rfl, Nat.le_of_ble_eq_true rfl⟩) (preR (hP.sub (ws' := []) [] rfl) hE) rfl rfl hl.1 rfl (lv_room (Nat.le_of_ble_eq_true rfl)) dX9_isWatched_15 ⟨by decide +kernel, by decide +kernel⟩)) (fun r_11 hr_12 => ?_)
      refine lv_if_eq (tgt := 25) hx hb dX9_isWatched_18 (by decide) (fun c_13 => ?_) (fun c_13 => ?_)
      · have k_14 : ¬ (inR 0 0 1) := bI_0 hr_12 c_13
        refine lv_iconst (v := 0) hx hb dX9_isWatched_25 (by decide) ?_
        exact W.zret (v := 0) hx hb hr (by decide) (fun tt_ ht hW => ⟨_, rfl, (bI_f (by (simp only [inR, Int32.lt_iff_toInt_lt, Int32.le_iff_toInt_le, ← Int32.toInt_inj, tI_0, tI_1, tI_2, tI_3, tI_4, tI_5, tI_6, tI_7, tI_8, tI_20, tI_30, tI_300, tI_400, tI_4095, tI_4096, tI_m1, tI_m2, tI_m3, tI_m9] at k_5 k_10 k_14 ⊢ <;> omega))).symm, ht⟩) (fun _ h => by cases h) dX9_isWatched_26
      · have k_15 : inR 0 0 1 := bI_1 hr_12 c_13
        refine lv_iconst (v := 1) hx hb dX9_isWatched_21 (by decide) ?_
        refine lv_goto (tgt := 26) hx hb dX9_isWatched_22 (by decide) ?_
        exact W.zret (v := 1) hx hb hr (by decide) (fun tt_ ht hW => ⟨_, rfl, (bI_t (by (simp only [inR, Int32.lt_iff_toInt_lt, Int32.le_iff_toInt_le, ← Int32.toInt_inj, tI_0, tI_1, tI_2, tI_3, tI_4, tI_5, tI_6, tI_7, tI_8, tI_20, tI_30, tI_300, tI_400, tI_4095, tI_4096, tI_m1, tI_m2, tI_m3, tI_m9] at k_5 k_10 k_15 ⊢ <;> omega))).symm, ht⟩) (fun _ h => by cases h) dX9_isWatched_26
set_option maxHeartbeats 1000000 in
set_option maxRecDepth 100000 in
theorem c_isWatched (l : Launch) (dC : Nat → ClassId) (dI : Nat → Nat → Nat) (cI cJ cS : ClassId) (w : Int32) (t : Int32) (q : Int32)  : Met l yX9_isWatched wsX9_isWatched ({ frames := 1, cells := 0, slots := 0, locals := 20 }) (va_Pc [.int w, .int t, .int q] (PR dC dI cI cJ cS [])) (vp_Si (fun r : Int32 => r = bI ((inR w 0 3 ∧ inR t 0 1) ∧ inR q 0 1))) 0 0 (fun _ => False) := by
  refine Met.ofW (cc := cX9_isWatched) (maxL := 3) (ret := (some .boolean)) (by decide) rfl ?_
  intro pp_ ee_ ss_ mm_ args below meth cc_ s₁ B hml hv
  obtain ⟨rfl, hP, hE⟩ := hv
  have hx := B.exec
  have hb := B.bytes
  have hr := B.returns
  have hts := atoms_spec (ws := wsX9_isWatched) B.pre
  have hown : ss_.vm.findClass RX9 = some mm_.cls := findClass_of_methodNamed B.named
  have hlocks := B.notSynchronized
  have hK := hE.1
  have hP : va_P (dC, dI) vwCl [] ss_.heap := hP
  have hl := lv_entry ([.int w, .int t, .int q]) (n := 3) (Nat.le_of_ble_eq_true rfl)
  rw [lg_entry_eq]
  generalize (lg_sl ([.int w, .int t, .int q]) ++ List.replicate (3 - (lg_sl ([.int w, .int t, .int q])).length) Slot.unset).toArray = ls at hl ⊢
  have hl : lv_has ls 3 [(0, .int w), (1, .int t), (2, .int q)] := hl
  refine lv_iload_n hx hb dX9_isWatched_0 rfl (lv_at hl 0 rfl) ?_
  refine vp_callSi (va_Run.run (va_runS (As := [.int w]) (rest := []) ⟨hx, hb, hml, hown, hts⟩ (c_isLevel l dC dI cI cJ cS  w ) (va_cwS 1 hts gX9_isWatched_X9_isLevel rfl rfl rfl (by decide +kernel) ⟨Nat.le_of_ble_eq_true rfl, Nat.le_of_ble_eq_true rfl⟩) (preR (hP.sub (ws' := []) [] rfl) hE) rfl rfl hl.1 rfl (lv_room (Nat.le_of_ble_eq_true rfl)) dX9_isWatched_1 ⟨by decide +kernel, by decide +kernel⟩)) (fun r_1 hr_2 => ?_)
  refine lv_if_eq (tgt := 25) hx hb dX9_isWatched_4 (by decide) (fun c_3 => ?_) (fun c_3 => ?_)
  · have k_4 : ¬ (inR w 0 3) := bI_0 hr_2 c_3
    refine lv_iconst (v := 0) hx hb dX9_isWatched_25 (by decide) ?_
    exact W.zret (v := 0) hx hb hr (by decide) (fun tt_ ht hW => ⟨_, rfl, (bI_f (by (simp only [inR, Int32.lt_iff_toInt_lt, Int32.le_iff_toInt_le, ← Int32.toInt_inj, tI_0, tI_1, tI_2, tI_3, tI_4, tI_5, tI_6, tI_7, tI_8, tI_20, tI_30, tI_300, tI_400, tI_4095, tI_4096, tI_m1, tI_m2, tI_m3, tI_m9] at k_4 ⊢ <;> omega))).symm, ht⟩) (fun _ h => by cases h) dX9_isWatched_26
  · have k_5 : inR w 0 3 := bI_1 hr_2 c_3
    refine lv_iload_n hx hb dX9_isWatched_7 rfl (lv_at hl 1 rfl) ?_
    refine vp_callSi (va_Run.run (va_runS (As := [.int t]) (rest := []) ⟨hx, hb, hml, hown, hts⟩ (c_isFlag l dC dI cI cJ cS  t ) (va_cwS 1 hts gX9_isWatched_X9_isFlag rfl rfl rfl (by decide +kernel) ⟨Nat.le_of_ble_eq_true rfl, Nat.le_of_ble_eq_true rfl⟩) (preR (hP.sub (ws' := []) [] rfl) hE) rfl rfl hl.1 rfl (lv_room (Nat.le_of_ble_eq_true rfl)) dX9_isWatched_8 ⟨by decide +kernel, by decide +kernel⟩)) (fun r_6 hr_7 => ?_)
    refine lv_if_eq (tgt := 25) hx hb dX9_isWatched_11 (by decide) (fun c_8 => ?_) (fun c_8 => ?_)
    · have k_9 : ¬ (inR t 0 1) := bI_0 hr_7 c_8
      refine lv_iconst (v := 0) hx hb dX9_isWatched_25 (by decide) ?_
      exact W.zret (v := 0) hx hb hr (by decide) (fun tt_ ht hW => ⟨_, rfl, (bI_f (by (simp only [inR, Int32.lt_iff_toInt_lt, Int32.le_iff_toInt_le, ← Int32.toInt_inj, tI_0, tI_1, tI_2, tI_3, tI_4, tI_5, tI_6, tI_7, tI_8, tI_20, tI_30, tI_300, tI_400, tI_4095, tI_4096, tI_m1, tI_m2, tI_m3, tI_m9] at k_5 k_9 ⊢ <;> omega))).symm, ht⟩) (fun _ h => by cases h) dX9_isWatched_26
    · have k_10 : inR t 0 1 := bI_1 hr_7 c_8
      refine lv_iload_n hx hb dX9_isWatched_14 rfl (lv_at hl 2 rfl) ?_
      refine vp_callSi (va_Run.run (va_runS (As := [.int q]) (rest := []) ⟨hx, hb, hml, hown, hts⟩ (c_isFlag l dC dI cI cJ cS  q ) (va_cwS 1 hts gX9_isWatched_X9_isFlag rfl rfl rfl (by decide +kernel) ⟨Nat.le_of_ble_eq_true rfl, Nat.le_of_ble_eq_true rfl⟩) (preR (hP.sub (ws' := []) [] rfl) hE) rfl rfl hl.1 rfl (lv_room (Nat.le_of_ble_eq_true rfl)) dX9_isWatched_15 ⟨by decide +kernel, by decide +kernel⟩)) (fun r_11 hr_12 => ?_)
      refine lv_if_eq (tgt := 25) hx hb dX9_isWatched_18 (by decide) (fun c_13 => ?_) (fun c_13 => ?_)
      · have k_14 : ¬ (inR q 0 1) := bI_0 hr_12 c_13
        refine lv_iconst (v := 0) hx hb dX9_isWatched_25 (by decide) ?_
        exact W.zret (v := 0) hx hb hr (by decide) (fun tt_ ht hW => ⟨_, rfl, (bI_f (by (simp only [inR, Int32.lt_iff_toInt_lt, Int32.le_iff_toInt_le, ← Int32.toInt_inj, tI_0, tI_1, tI_2, tI_3, tI_4, tI_5, tI_6, tI_7, tI_8, tI_20, tI_30, tI_300, tI_400, tI_4095, tI_4096, tI_m1, tI_m2, tI_m3, tI_m9] at k_5 k_10 k_14 ⊢ <;> omega))).symm, ht⟩) (fun _ h => by cases h) dX9_isWatched_26
      · have k_15 : inR q 0 1 := bI_1 hr_12 c_13
        refine lv_iconst (v := 1) hx hb dX9_isWatched_21 (by decide) ?_
        refine lv_goto (tgt := 26) hx hb dX9_isWatched_22 (by decide) ?_
        exact W.zret (v := 1) hx hb hr (by decide) (fun tt_ ht hW => ⟨_, rfl, (bI_t (by (simp only [inR, Int32.lt_iff_toInt_lt, Int32.le_iff_toInt_le, ← Int32.toInt_inj, tI_0, tI_1, tI_2, tI_3, tI_4, tI_5, tI_6, tI_7, tI_8, tI_20, tI_30, tI_300, tI_400, tI_4095, tI_4096, tI_m1, tI_m2, tI_m3, tI_m9] at k_5 k_10 k_15 ⊢ <;> omega))).symm, ht⟩) (fun _ h => by cases h) dX9_isWatched_26
set_option maxHeartbeats 1000000 in
set_option maxRecDepth 100000 in
theorem c_bc0 (l : Launch) (dC : Nat → ClassId) (dI : Nat → Nat → Nat) (cI cJ cS : ClassId)   : Met l yJ6_bitCount_0f7a4 wsJ6_bitCount_0f7a4 ({ frames := 0, cells := 0, slots := 0, locals := 0 }) (va_Pc [.int 0] (PR dC dI cI cJ cS [])) (vp_Si (fun r : Int32 => r = 0)) 0 0 (fun _ => False) := by
  refine Met.ofW (cc := cJ6_bitCount_0f7a4) (maxL := 1) (ret := (some .int)) (by decide) rfl ?_
  intro pp_ ee_ ss_ mm_ args below meth cc_ s₁ B hml hv
  obtain ⟨rfl, hP, hE⟩ := hv
  have hx := B.exec
  have hb := B.bytes
  have hr := B.returns
  have hts := atoms_spec (ws := wsJ6_bitCount_0f7a4) B.pre
  have hown : ss_.vm.findClass RJ6 = some mm_.cls := findClass_of_methodNamed B.named
  have hlocks := B.notSynchronized
  have hK := hE.1
  have hP : va_P (dC, dI) vwCl [] ss_.heap := hP
  have hl := lv_entry ([.int 0]) (n := 1) (Nat.le_of_ble_eq_true rfl)
  rw [lg_entry_eq]
  generalize (lg_sl ([.int 0]) ++ List.replicate (1 - (lg_sl ([.int 0])).length) Slot.unset).toArray = ls at hl ⊢
  have hl : lv_has ls 1 [(0, .int 0)] := hl
  refine lv_iload_n hx hb dJ6_bitCount_0f7a4_0 rfl (lv_at hl 0 rfl) ?_
  refine lv_iload_n hx hb dJ6_bitCount_0f7a4_1 rfl (lv_at hl 0 rfl) ?_
  refine lv_iconst (v := 1) hx hb dJ6_bitCount_0f7a4_2 (by decide) ?_
  refine lv_iushr (v := 0) hx hb dJ6_bitCount_0f7a4_3 (by decide) ?_
  refine lv_ldcw (v := 1431655765) hx hb hown (hts (.constant RJ6 265 (1431655765)) (by decide +kernel)) dJ6_bitCount_0f7a4_4 ?_
  refine lv_iand hx hb dJ6_bitCount_0f7a4_7 ?_
  refine zi (y := 0) (by decide) ?_
  refine lv_isub hx hb dJ6_bitCount_0f7a4_8 ?_
  refine zi (y := 0) (by decide) ?_
  refine lv_istore_n (lv' := [(0, .int 0)]) hx hb dJ6_bitCount_0f7a4_9 rfl hl (by decide) rfl (fun ls hl => ?_)
  refine lv_iload_n hx hb dJ6_bitCount_0f7a4_10 rfl (lv_at hl 0 rfl) ?_
  refine lv_ldcw (v := 858993459) hx hb hown (hts (.constant RJ6 266 (858993459)) (by decide +kernel)) dJ6_bitCount_0f7a4_11 ?_
  refine lv_iand hx hb dJ6_bitCount_0f7a4_14 ?_
  refine zi (y := 0) (by decide) ?_
  refine lv_iload_n hx hb dJ6_bitCount_0f7a4_15 rfl (lv_at hl 0 rfl) ?_
  refine lv_iconst (v := 2) hx hb dJ6_bitCount_0f7a4_16 (by decide) ?_
  refine lv_iushr (v := 0) hx hb dJ6_bitCount_0f7a4_17 (by decide) ?_
  refine lv_ldcw (v := 858993459) hx hb hown (hts (.constant RJ6 266 (858993459)) (by decide +kernel)) dJ6_bitCount_0f7a4_18 ?_
  refine lv_iand hx hb dJ6_bitCount_0f7a4_21 ?_
  refine zi (y := 0) (by decide) ?_
  refine lv_iadd hx hb dJ6_bitCount_0f7a4_22 ?_
  refine zi (y := 0) (by decide) ?_
  refine lv_istore_n (lv' := [(0, .int 0)]) hx hb dJ6_bitCount_0f7a4_23 rfl hl (by decide) rfl (fun ls hl => ?_)
  refine lv_iload_n hx hb dJ6_bitCount_0f7a4_24 rfl (lv_at hl 0 rfl) ?_
  refine lv_iload_n hx hb dJ6_bitCount_0f7a4_25 rfl (lv_at hl 0 rfl) ?_
  refine lv_iconst (v := 4) hx hb dJ6_bitCount_0f7a4_26 (by decide) ?_
  refine lv_iushr (v := 0) hx hb dJ6_bitCount_0f7a4_27 (by decide) ?_
  refine lv_iadd hx hb dJ6_bitCount_0f7a4_28 ?_
  refine zi (y := 0) (by decide) ?_
  refine lv_ldcw (v := 252645135) hx hb hown (hts (.constant RJ6 267 (252645135)) (by decide +kernel)) dJ6_bitCount_0f7a4_29 ?_
  refine lv_iand hx hb dJ6_bitCount_0f7a4_32 ?_
  refine zi (y := 0) (by decide) ?_
  refine lv_istore_n (lv' := [(0, .int 0)]) hx hb dJ6_bitCount_0f7a4_33 rfl hl (by decide) rfl (fun ls hl => ?_)
  refine lv_iload_n hx hb dJ6_bitCount_0f7a4_34 rfl (lv_at hl 0 rfl) ?_
  refine lv_iload_n hx hb dJ6_bitCount_0f7a4_35 rfl (lv_at hl 0 rfl) ?_
  refine lv_bipush (v := 8) hx hb dJ6_bitCount_0f7a4_36 (by decide) ?_
  refine lv_iushr (v := 0) hx hb dJ6_bitCount_0f7a4_38 (by decide) ?_
  refine lv_iadd hx hb dJ6_bitCount_0f7a4_39 ?_
  refine zi (y := 0) (by decide) ?_
  refine lv_istore_n (lv' := [(0, .int 0)]) hx hb dJ6_bitCount_0f7a4_40 rfl hl (by decide) rfl (fun ls hl => ?_)
  refine lv_iload_n hx hb dJ6_bitCount_0f7a4_41 rfl (lv_at hl 0 rfl) ?_
  refine lv_iload_n hx hb dJ6_bitCount_0f7a4_42 rfl (lv_at hl 0 rfl) ?_
  refine lv_bipush (v := 16) hx hb dJ6_bitCount_0f7a4_43 (by decide) ?_
  refine lv_iushr (v := 0) hx hb dJ6_bitCount_0f7a4_45 (by decide) ?_
  refine lv_iadd hx hb dJ6_bitCount_0f7a4_46 ?_
  refine zi (y := 0) (by decide) ?_
  refine lv_istore_n (lv' := [(0, .int 0)]) hx hb dJ6_bitCount_0f7a4_47 rfl hl (by decide) rfl (fun ls hl => ?_)
  refine lv_iload_n hx hb dJ6_bitCount_0f7a4_48 rfl (lv_at hl 0 rfl) ?_
  refine lv_bipush (v := 63) hx hb dJ6_bitCount_0f7a4_49 (by decide) ?_
  refine lv_iand hx hb dJ6_bitCount_0f7a4_51 ?_
  refine zi (y := 0) (by decide) ?_
  exact W.iret (v := 0) hx hb hr (fun tt_ ht hW => ⟨_, rfl, rfl, ht⟩) (fun _ h => by cases h) dJ6_bitCount_0f7a4_52
set_option maxHeartbeats 1000000 in
set_option maxRecDepth 100000 in
theorem c_bc4095 (l : Launch) (dC : Nat → ClassId) (dI : Nat → Nat → Nat) (cI cJ cS : ClassId)   : Met l yJ6_bitCount_0f7a4 wsJ6_bitCount_0f7a4 ({ frames := 0, cells := 0, slots := 0, locals := 0 }) (va_Pc [.int 4095] (PR dC dI cI cJ cS [])) (vp_Si (fun r : Int32 => r = 12)) 0 0 (fun _ => False) := by
  refine Met.ofW (cc := cJ6_bitCount_0f7a4) (maxL := 1) (ret := (some .int)) (by decide) rfl ?_
  intro pp_ ee_ ss_ mm_ args below meth cc_ s₁ B hml hv
  obtain ⟨rfl, hP, hE⟩ := hv
  have hx := B.exec
  have hb := B.bytes
  have hr := B.returns
  have hts := atoms_spec (ws := wsJ6_bitCount_0f7a4) B.pre
  have hown : ss_.vm.findClass RJ6 = some mm_.cls := findClass_of_methodNamed B.named
  have hlocks := B.notSynchronized
  have hK := hE.1
  have hP : va_P (dC, dI) vwCl [] ss_.heap := hP
  have hl := lv_entry ([.int 4095]) (n := 1) (Nat.le_of_ble_eq_true rfl)
  rw [lg_entry_eq]
  generalize (lg_sl ([.int 4095]) ++ List.replicate (1 - (lg_sl ([.int 4095])).length) Slot.unset).toArray = ls at hl ⊢
  have hl : lv_has ls 1 [(0, .int 4095)] := hl
  refine lv_iload_n hx hb dJ6_bitCount_0f7a4_0 rfl (lv_at hl 0 rfl) ?_
  refine lv_iload_n hx hb dJ6_bitCount_0f7a4_1 rfl (lv_at hl 0 rfl) ?_
  refine lv_iconst (v := 1) hx hb dJ6_bitCount_0f7a4_2 (by decide) ?_
  refine lv_iushr (v := 2047) hx hb dJ6_bitCount_0f7a4_3 (by decide) ?_
  refine lv_ldcw (v := 1431655765) hx hb hown (hts (.constant RJ6 265 (1431655765)) (by decide +kernel)) dJ6_bitCount_0f7a4_4 ?_
  refine lv_iand hx hb dJ6_bitCount_0f7a4_7 ?_
  refine zi (y := 1365) (by decide) ?_
  refine lv_isub hx hb dJ6_bitCount_0f7a4_8 ?_
  refine zi (y := 2730) (by decide) ?_
  refine lv_istore_n (lv' := [(0, .int 2730)]) hx hb dJ6_bitCount_0f7a4_9 rfl hl (by decide) rfl (fun ls hl => ?_)
  refine lv_iload_n hx hb dJ6_bitCount_0f7a4_10 rfl (lv_at hl 0 rfl) ?_
  refine lv_ldcw (v := 858993459) hx hb hown (hts (.constant RJ6 266 (858993459)) (by decide +kernel)) dJ6_bitCount_0f7a4_11 ?_
  refine lv_iand hx hb dJ6_bitCount_0f7a4_14 ?_
  refine zi (y := 546) (by decide) ?_
  refine lv_iload_n hx hb dJ6_bitCount_0f7a4_15 rfl (lv_at hl 0 rfl) ?_
  refine lv_iconst (v := 2) hx hb dJ6_bitCount_0f7a4_16 (by decide) ?_
  refine lv_iushr (v := 682) hx hb dJ6_bitCount_0f7a4_17 (by decide) ?_
  refine lv_ldcw (v := 858993459) hx hb hown (hts (.constant RJ6 266 (858993459)) (by decide +kernel)) dJ6_bitCount_0f7a4_18 ?_
  refine lv_iand hx hb dJ6_bitCount_0f7a4_21 ?_
  refine zi (y := 546) (by decide) ?_
  refine lv_iadd hx hb dJ6_bitCount_0f7a4_22 ?_
  refine zi (y := 1092) (by decide) ?_
  refine lv_istore_n (lv' := [(0, .int 1092)]) hx hb dJ6_bitCount_0f7a4_23 rfl hl (by decide) rfl (fun ls hl => ?_)
  refine lv_iload_n hx hb dJ6_bitCount_0f7a4_24 rfl (lv_at hl 0 rfl) ?_
  refine lv_iload_n hx hb dJ6_bitCount_0f7a4_25 rfl (lv_at hl 0 rfl) ?_
  refine lv_iconst (v := 4) hx hb dJ6_bitCount_0f7a4_26 (by decide) ?_
  refine lv_iushr (v := 68) hx hb dJ6_bitCount_0f7a4_27 (by decide) ?_
  refine lv_iadd hx hb dJ6_bitCount_0f7a4_28 ?_
  refine zi (y := 1160) (by decide) ?_
  refine lv_ldcw (v := 252645135) hx hb hown (hts (.constant RJ6 267 (252645135)) (by decide +kernel)) dJ6_bitCount_0f7a4_29 ?_
  refine lv_iand hx hb dJ6_bitCount_0f7a4_32 ?_
  refine zi (y := 1032) (by decide) ?_
  refine lv_istore_n (lv' := [(0, .int 1032)]) hx hb dJ6_bitCount_0f7a4_33 rfl hl (by decide) rfl (fun ls hl => ?_)
  refine lv_iload_n hx hb dJ6_bitCount_0f7a4_34 rfl (lv_at hl 0 rfl) ?_
  refine lv_iload_n hx hb dJ6_bitCount_0f7a4_35 rfl (lv_at hl 0 rfl) ?_
  refine lv_bipush (v := 8) hx hb dJ6_bitCount_0f7a4_36 (by decide) ?_
  refine lv_iushr (v := 4) hx hb dJ6_bitCount_0f7a4_38 (by decide) ?_
  refine lv_iadd hx hb dJ6_bitCount_0f7a4_39 ?_
  refine zi (y := 1036) (by decide) ?_
  refine lv_istore_n (lv' := [(0, .int 1036)]) hx hb dJ6_bitCount_0f7a4_40 rfl hl (by decide) rfl (fun ls hl => ?_)
  refine lv_iload_n hx hb dJ6_bitCount_0f7a4_41 rfl (lv_at hl 0 rfl) ?_
  refine lv_iload_n hx hb dJ6_bitCount_0f7a4_42 rfl (lv_at hl 0 rfl) ?_
  refine lv_bipush (v := 16) hx hb dJ6_bitCount_0f7a4_43 (by decide) ?_
  refine lv_iushr (v := 0) hx hb dJ6_bitCount_0f7a4_45 (by decide) ?_
  refine lv_iadd hx hb dJ6_bitCount_0f7a4_46 ?_
  refine zi (y := 1036) (by decide) ?_
  refine lv_istore_n (lv' := [(0, .int 1036)]) hx hb dJ6_bitCount_0f7a4_47 rfl hl (by decide) rfl (fun ls hl => ?_)
  refine lv_iload_n hx hb dJ6_bitCount_0f7a4_48 rfl (lv_at hl 0 rfl) ?_
  refine lv_bipush (v := 63) hx hb dJ6_bitCount_0f7a4_49 (by decide) ?_
  refine lv_iand hx hb dJ6_bitCount_0f7a4_51 ?_
  refine zi (y := 12) (by decide) ?_
  exact W.iret (v := 12) hx hb hr (fun tt_ ht hW => ⟨_, rfl, rfl, ht⟩) (fun _ h => by cases h) dJ6_bitCount_0f7a4_52
set_option maxHeartbeats 1000000 in
set_option maxRecDepth 100000 in
theorem c_nOf0 (l : Launch) (dC : Nat → ClassId) (dI : Nat → Nat → Nat) (cI cJ cS : ClassId)   : Met l yX9_numbersOf wsX9_numbersOf ({ frames := 1, cells := 0, slots := 0, locals := 20 }) (va_Pc [.int 0] (PR dC dI cI cJ cS [])) (vp_Si (fun r : Int32 => r = 1)) 0 0 (fun _ => False) := by
  refine Met.ofW (cc := cX9_numbersOf) (maxL := 1) (ret := (some .int)) (by decide) rfl ?_
  intro pp_ ee_ ss_ mm_ args below meth cc_ s₁ B hml hv
  obtain ⟨rfl, hP, hE⟩ := hv
  have hx := B.exec
  have hb := B.bytes
  have hr := B.returns
  have hts := atoms_spec (ws := wsX9_numbersOf) B.pre
  have hown : ss_.vm.findClass RX9 = some mm_.cls := findClass_of_methodNamed B.named
  have hlocks := B.notSynchronized
  have hK := hE.1
  have hP : va_P (dC, dI) vwCl [] ss_.heap := hP
  have hl := lv_entry ([.int 0]) (n := 1) (Nat.le_of_ble_eq_true rfl)
  rw [lg_entry_eq]
  generalize (lg_sl ([.int 0]) ++ List.replicate (1 - (lg_sl ([.int 0])).length) Slot.unset).toArray = ls at hl ⊢
  have hl : lv_has ls 1 [(0, .int 0)] := hl
  refine lv_iconst (v := 1) hx hb dX9_numbersOf_0 (by decide) ?_
  refine lv_iload_n hx hb dX9_numbersOf_1 rfl (lv_at hl 0 rfl) ?_
  refine vp_callSi (va_Run.run (va_runS (As := [.int 0]) (rest := [.int 1]) ⟨hx, hb, hml, hown, hts⟩ (c_bc0 l dC dI cI cJ cS   ) (va_cwS 1 hts gX9_numbersOf_J6_bitCount_0f7a4 rfl rfl rfl (by decide +kernel) ⟨Nat.le_of_ble_eq_true rfl, Nat.le_of_ble_eq_true rfl⟩) (preR (hP.sub (ws' := []) [] rfl) hE) rfl rfl hl.1 rfl (lv_room (Nat.le_of_ble_eq_true rfl)) dX9_numbersOf_2 ⟨by decide +kernel, by decide +kernel⟩)) (fun r_1 hr_2 => ?_)
  obtain rfl := hr_2
  refine lv_ishl hx hb dX9_numbersOf_5 ?_
  refine zi (y := 1) (by decide) ?_
  exact W.iret (v := 1) hx hb hr (fun tt_ ht hW => ⟨_, rfl, rfl, ht⟩) (fun _ h => by cases h) dX9_numbersOf_6
set_option maxHeartbeats 1000000 in
set_option maxRecDepth 100000 in
theorem c_nOf4095 (l : Launch) (dC : Nat → ClassId) (dI : Nat → Nat → Nat) (cI cJ cS : ClassId)   : Met l yX9_numbersOf wsX9_numbersOf ({ frames := 1, cells := 0, slots := 0, locals := 20 }) (va_Pc [.int 4095] (PR dC dI cI cJ cS [])) (vp_Si (fun r : Int32 => r = 4096)) 0 0 (fun _ => False) := by
  refine Met.ofW (cc := cX9_numbersOf) (maxL := 1) (ret := (some .int)) (by decide) rfl ?_
  intro pp_ ee_ ss_ mm_ args below meth cc_ s₁ B hml hv
  obtain ⟨rfl, hP, hE⟩ := hv
  have hx := B.exec
  have hb := B.bytes
  have hr := B.returns
  have hts := atoms_spec (ws := wsX9_numbersOf) B.pre
  have hown : ss_.vm.findClass RX9 = some mm_.cls := findClass_of_methodNamed B.named
  have hlocks := B.notSynchronized
  have hK := hE.1
  have hP : va_P (dC, dI) vwCl [] ss_.heap := hP
  have hl := lv_entry ([.int 4095]) (n := 1) (Nat.le_of_ble_eq_true rfl)
  rw [lg_entry_eq]
  generalize (lg_sl ([.int 4095]) ++ List.replicate (1 - (lg_sl ([.int 4095])).length) Slot.unset).toArray = ls at hl ⊢
  have hl : lv_has ls 1 [(0, .int 4095)] := hl
  refine lv_iconst (v := 1) hx hb dX9_numbersOf_0 (by decide) ?_
  refine lv_iload_n hx hb dX9_numbersOf_1 rfl (lv_at hl 0 rfl) ?_
  refine vp_callSi (va_Run.run (va_runS (As := [.int 4095]) (rest := [.int 1]) ⟨hx, hb, hml, hown, hts⟩ (c_bc4095 l dC dI cI cJ cS   ) (va_cwS 1 hts gX9_numbersOf_J6_bitCount_0f7a4 rfl rfl rfl (by decide +kernel) ⟨Nat.le_of_ble_eq_true rfl, Nat.le_of_ble_eq_true rfl⟩) (preR (hP.sub (ws' := []) [] rfl) hE) rfl rfl hl.1 rfl (lv_room (Nat.le_of_ble_eq_true rfl)) dX9_numbersOf_2 ⟨by decide +kernel, by decide +kernel⟩)) (fun r_1 hr_2 => ?_)
  obtain rfl := hr_2
  refine lv_ishl hx hb dX9_numbersOf_5 ?_
  refine zi (y := 4096) (by decide) ?_
  exact W.iret (v := 4096) hx hb hr (fun tt_ ht hW => ⟨_, rfl, rfl, ht⟩) (fun _ h => by cases h) dX9_numbersOf_6
set_option maxHeartbeats 1000000 in
set_option maxRecDepth 100000 in
theorem c_isPacked0 (l : Launch) (dC : Nat → ClassId) (dI : Nat → Nat → Nat) (cI cJ cS : ClassId) (p : Int32)  : Met l yX9_isPacked wsX9_isPacked ({ frames := 2, cells := 0, slots := 0, locals := 40 }) (va_Pc [.int p, .int 0] (PR dC dI cI cJ cS [])) (vp_Si (fun r : Int32 => r = bI (inR p 0 0))) 0 0 (fun _ => False) := by
  refine Met.ofW (cc := cX9_isPacked) (maxL := 2) (ret := (some .boolean)) (by decide) rfl ?_
  intro pp_ ee_ ss_ mm_ args below meth cc_ s₁ B hml hv
  obtain ⟨rfl, hP, hE⟩ := hv
  have hx := B.exec
  have hb := B.bytes
  have hr := B.returns
  have hts := atoms_spec (ws := wsX9_isPacked) B.pre
  have hown : ss_.vm.findClass RX9 = some mm_.cls := findClass_of_methodNamed B.named
  have hlocks := B.notSynchronized
  have hK := hE.1
  have hP : va_P (dC, dI) vwCl [] ss_.heap := hP
  have hl := lv_entry ([.int p, .int 0]) (n := 2) (Nat.le_of_ble_eq_true rfl)
  rw [lg_entry_eq]
  generalize (lg_sl ([.int p, .int 0]) ++ List.replicate (2 - (lg_sl ([.int p, .int 0])).length) Slot.unset).toArray = ls at hl ⊢
  have hl : lv_has ls 2 [(0, .int p), (1, .int 0)] := hl
  refine lv_iload_n hx hb dX9_isPacked_0 rfl (lv_at hl 0 rfl) ?_
  refine lv_if_lt (tgt := 16) hx hb dX9_isPacked_1 (by decide) (fun c_1 => ?_) (fun c_1 => ?_)
  · refine lv_iconst (v := 0) hx hb dX9_isPacked_16 (by decide) ?_
    exact W.zret (v := 0) hx hb hr (by decide) (fun tt_ ht hW => ⟨_, rfl, (bI_f (by (simp only [inR, Int32.lt_iff_toInt_lt, Int32.le_iff_toInt_le, ← Int32.toInt_inj, tI_0, tI_1, tI_2, tI_3, tI_4, tI_5, tI_6, tI_7, tI_8, tI_20, tI_30, tI_300, tI_400, tI_4095, tI_4096, tI_m1, tI_m2, tI_m3, tI_m9] at c_1 ⊢ <;> omega))).symm, ht⟩) (fun _ h => by cases h) dX9_isPacked_17
  · refine lv_iload_n hx hb dX9_isPacked_4 rfl (lv_at hl 0 rfl) ?_
    refine lv_iload_n hx hb dX9_isPacked_5 rfl (lv_at hl 1 rfl) ?_
    refine vp_callSi (va_Run.run (va_runS (As := [.int 0]) (rest := [.int p]) ⟨hx, hb, hml, hown, hts⟩ (c_nOf0 l dC dI cI cJ cS   ) (va_cwS 1 hts gX9_isPacked_X9_numbersOf rfl rfl rfl (by decide +kernel) ⟨Nat.le_of_ble_eq_true rfl, Nat.le_of_ble_eq_true rfl⟩) (preR (hP.sub (ws' := []) [] rfl) hE) rfl rfl hl.1 rfl (lv_room (Nat.le_of_ble_eq_true rfl)) dX9_isPacked_6 ⟨by decide +kernel, by decide +kernel⟩)) (fun r_2 hr_3 => ?_)
    obtain rfl := hr_3
    refine lv_icmp_ge (tgt := 16) hx hb dX9_isPacked_9 (by decide) (fun c_4 => ?_) (fun c_4 => ?_)
    · refine lv_iconst (v := 0) hx hb dX9_isPacked_16 (by decide) ?_
      exact W.zret (v := 0) hx hb hr (by decide) (fun tt_ ht hW => ⟨_, rfl, (bI_f (by (simp only [inR, Int32.lt_iff_toInt_lt, Int32.le_iff_toInt_le, ← Int32.toInt_inj, tI_0, tI_1, tI_2, tI_3, tI_4, tI_5, tI_6, tI_7, tI_8, tI_20, tI_30, tI_300, tI_400, tI_4095, tI_4096, tI_m1, tI_m2, tI_m3, tI_m9] at c_1 c_4 ⊢ <;> omega))).symm, ht⟩) (fun _ h => by cases h) dX9_isPacked_17
    · refine lv_iconst (v := 1) hx hb dX9_isPacked_12 (by decide) ?_
      refine lv_goto (tgt := 17) hx hb dX9_isPacked_13 (by decide) ?_
      exact W.zret (v := 1) hx hb hr (by decide) (fun tt_ ht hW => ⟨_, rfl, (bI_t (by (simp only [inR, Int32.lt_iff_toInt_lt, Int32.le_iff_toInt_le, ← Int32.toInt_inj, tI_0, tI_1, tI_2, tI_3, tI_4, tI_5, tI_6, tI_7, tI_8, tI_20, tI_30, tI_300, tI_400, tI_4095, tI_4096, tI_m1, tI_m2, tI_m3, tI_m9] at c_1 c_4 ⊢ <;> omega))).symm, ht⟩) (fun _ h => by cases h) dX9_isPacked_17
set_option maxHeartbeats 1000000 in
set_option maxRecDepth 100000 in
theorem c_isPacked (l : Launch) (dC : Nat → ClassId) (dI : Nat → Nat → Nat) (cI cJ cS : ClassId) (p : Int32)  : Met l yX9_isPacked wsX9_isPacked ({ frames := 2, cells := 0, slots := 0, locals := 40 }) (va_Pc [.int p, .int 4095] (PR dC dI cI cJ cS [])) (vp_Si (fun r : Int32 => r = bI (inR p 0 4095))) 0 0 (fun _ => False) := by
  refine Met.ofW (cc := cX9_isPacked) (maxL := 2) (ret := (some .boolean)) (by decide) rfl ?_
  intro pp_ ee_ ss_ mm_ args below meth cc_ s₁ B hml hv
  obtain ⟨rfl, hP, hE⟩ := hv
  have hx := B.exec
  have hb := B.bytes
  have hr := B.returns
  have hts := atoms_spec (ws := wsX9_isPacked) B.pre
  have hown : ss_.vm.findClass RX9 = some mm_.cls := findClass_of_methodNamed B.named
  have hlocks := B.notSynchronized
  have hK := hE.1
  have hP : va_P (dC, dI) vwCl [] ss_.heap := hP
  have hl := lv_entry ([.int p, .int 4095]) (n := 2) (Nat.le_of_ble_eq_true rfl)
  rw [lg_entry_eq]
  generalize (lg_sl ([.int p, .int 4095]) ++ List.replicate (2 - (lg_sl ([.int p, .int 4095])).length) Slot.unset).toArray = ls at hl ⊢
  have hl : lv_has ls 2 [(0, .int p), (1, .int 4095)] := hl
  refine lv_iload_n hx hb dX9_isPacked_0 rfl (lv_at hl 0 rfl) ?_
  refine lv_if_lt (tgt := 16) hx hb dX9_isPacked_1 (by decide) (fun c_1 => ?_) (fun c_1 => ?_)
  · refine lv_iconst (v := 0) hx hb dX9_isPacked_16 (by decide) ?_
    exact W.zret (v := 0) hx hb hr (by decide) (fun tt_ ht hW => ⟨_, rfl, (bI_f (by (simp only [inR, Int32.lt_iff_toInt_lt, Int32.le_iff_toInt_le, ← Int32.toInt_inj, tI_0, tI_1, tI_2, tI_3, tI_4, tI_5, tI_6, tI_7, tI_8, tI_20, tI_30, tI_300, tI_400, tI_4095, tI_4096, tI_m1, tI_m2, tI_m3, tI_m9] at c_1 ⊢ <;> omega))).symm, ht⟩) (fun _ h => by cases h) dX9_isPacked_17
  · refine lv_iload_n hx hb dX9_isPacked_4 rfl (lv_at hl 0 rfl) ?_
    refine lv_iload_n hx hb dX9_isPacked_5 rfl (lv_at hl 1 rfl) ?_
    refine vp_callSi (va_Run.run (va_runS (As := [.int 4095]) (rest := [.int p]) ⟨hx, hb, hml, hown, hts⟩ (c_nOf4095 l dC dI cI cJ cS   ) (va_cwS 1 hts gX9_isPacked_X9_numbersOf rfl rfl rfl (by decide +kernel) ⟨Nat.le_of_ble_eq_true rfl, Nat.le_of_ble_eq_true rfl⟩) (preR (hP.sub (ws' := []) [] rfl) hE) rfl rfl hl.1 rfl (lv_room (Nat.le_of_ble_eq_true rfl)) dX9_isPacked_6 ⟨by decide +kernel, by decide +kernel⟩)) (fun r_2 hr_3 => ?_)
    obtain rfl := hr_3
    refine lv_icmp_ge (tgt := 16) hx hb dX9_isPacked_9 (by decide) (fun c_4 => ?_) (fun c_4 => ?_)
    · refine lv_iconst (v := 0) hx hb dX9_isPacked_16 (by decide) ?_
      exact W.zret (v := 0) hx hb hr (by decide) (fun tt_ ht hW => ⟨_, rfl, (bI_f (by (simp only [inR, Int32.lt_iff_toInt_lt, Int32.le_iff_toInt_le, ← Int32.toInt_inj, tI_0, tI_1, tI_2, tI_3, tI_4, tI_5, tI_6, tI_7, tI_8, tI_20, tI_30, tI_300, tI_400, tI_4095, tI_4096, tI_m1, tI_m2, tI_m3, tI_m9] at c_1 c_4 ⊢ <;> omega))).symm, ht⟩) (fun _ h => by cases h) dX9_isPacked_17
    · refine lv_iconst (v := 1) hx hb dX9_isPacked_12 (by decide) ?_
      refine lv_goto (tgt := 17) hx hb dX9_isPacked_13 (by decide) ?_
      exact W.zret (v := 1) hx hb hr (by decide) (fun tt_ ht hW => ⟨_, rfl, (bI_t (by (simp only [inR, Int32.lt_iff_toInt_lt, Int32.le_iff_toInt_le, ← Int32.toInt_inj, tI_0, tI_1, tI_2, tI_3, tI_4, tI_5, tI_6, tI_7, tI_8, tI_20, tI_30, tI_300, tI_400, tI_4095, tI_4096, tI_m1, tI_m2, tI_m3, tI_m9] at c_1 c_4 ⊢ <;> omega))).symm, ht⟩) (fun _ h => by cases h) dX9_isPacked_17
set_option maxHeartbeats 1000000 in
set_option maxRecDepth 100000 in
theorem c_spread0 (l : Launch) (dC : Nat → ClassId) (dI : Nat → Nat → Nat) (cI cJ cS : ClassId) (p : Int32)  : Met l yX9_spread wsX9_spread ({ frames := 0, cells := 0, slots := 0, locals := 0 }) (va_Pc [.int p, .int 0] (PR dC dI cI cJ cS [])) (vp_Si (fun r : Int32 => r = 0)) 0 0 (fun _ => False) := by
  refine Met.ofW (cc := cX9_spread) (maxL := 5) (ret := (some .int)) (by decide) rfl ?_
  intro pp_ ee_ ss_ mm_ args below meth cc_ s₁ B hml hv
  obtain ⟨rfl, hP, hE⟩ := hv
  have hx := B.exec
  have hb := B.bytes
  have hr := B.returns
  have hts := atoms_spec (ws := wsX9_spread) B.pre
  have hown : ss_.vm.findClass RX9 = some mm_.cls := findClass_of_methodNamed B.named
  have hlocks := B.notSynchronized
  have hK := hE.1
  have hP : va_P (dC, dI) vwCl [] ss_.heap := hP
  have hl := lv_entry ([.int p, .int 0]) (n := 5) (Nat.le_of_ble_eq_true rfl)
  rw [lg_entry_eq]
  generalize (lg_sl ([.int p, .int 0]) ++ List.replicate (5 - (lg_sl ([.int p, .int 0])).length) Slot.unset).toArray = ls at hl ⊢
  have hl : lv_has ls 5 [(0, .int p), (1, .int 0)] := hl
  refine lv_iconst (v := 0) hx hb dX9_spread_0 (by decide) ?_
  refine lv_istore_n (lv' := [(2, .int 0), (0, .int p), (1, .int 0)]) hx hb dX9_spread_1 rfl hl (by decide) rfl (fun ls hl => ?_)
  refine lv_iload_n hx hb dX9_spread_2 rfl (lv_at hl 1 rfl) ?_
  refine lv_istore_n (lv' := [(3, .int p), (2, .int 0), (0, .int p), (1, .int 0)]) hx hb dX9_spread_3 rfl hl (by decide) rfl (fun ls hl => ?_)
  refine lv_iconst (v := 0) hx hb dX9_spread_4 (by decide) ?_
  refine lv_istore (lv' := [(4, .int 0), (3, .int p), (2, .int 0), (0, .int p), (1, .int 0)]) hx hb dX9_spread_5 hl (by decide) rfl (fun ls hl => ?_)
  refine lv_iload hx hb dX9_spread_7 (lv_at hl 0 rfl) ?_
  refine lv_bipush (v := 12) hx hb dX9_spread_9 (by decide) ?_
  refine lv_icmp_ge (tgt := 42) hx hb dX9_spread_11 (by decide) (fun c_1 => absurd c_1 (by decide)) (fun _ => ?_)
  refine lv_iload_n hx hb dX9_spread_14 rfl (lv_at hl 4 rfl) ?_
  refine lv_iload hx hb dX9_spread_15 (lv_at hl 0 rfl) ?_
  refine lv_iushr (v := 0) hx hb dX9_spread_17 (by decide) ?_
  refine lv_iconst (v := 1) hx hb dX9_spread_18 (by decide) ?_
  refine lv_iand hx hb dX9_spread_19 ?_
  refine zi (y := 0) (by decide) ?_
  refine lv_if_eq (tgt := 36) hx hb dX9_spread_20 (by decide) (fun _ => ?_) (fun c_2 => absurd (by decide) c_2)
  refine lv_iinc (v := 2) (lv' := [(4, .int 2), (3, .int p), (2, .int 0), (0, .int p), (1, .int 0)]) hx hb dX9_spread_36 hl (k := 0) rfl (by decide) (by decide) rfl (fun ls hl => ?_)
  refine lv_goto (tgt := 7) hx hb dX9_spread_39 (by decide) ?_
  refine lv_iload hx hb dX9_spread_7 (lv_at hl 0 rfl) ?_
  refine lv_bipush (v := 12) hx hb dX9_spread_9 (by decide) ?_
  refine lv_icmp_ge (tgt := 42) hx hb dX9_spread_11 (by decide) (fun c_3 => absurd c_3 (by decide)) (fun _ => ?_)
  refine lv_iload_n hx hb dX9_spread_14 rfl (lv_at hl 4 rfl) ?_
  refine lv_iload hx hb dX9_spread_15 (lv_at hl 0 rfl) ?_
  refine lv_iushr (v := 0) hx hb dX9_spread_17 (by decide) ?_
  refine lv_iconst (v := 1) hx hb dX9_spread_18 (by decide) ?_
  refine lv_iand hx hb dX9_spread_19 ?_
  refine zi (y := 0) (by decide) ?_
  refine lv_if_eq (tgt := 36) hx hb dX9_spread_20 (by decide) (fun _ => ?_) (fun c_4 => absurd (by decide) c_4)
  refine lv_iinc (v := 4) (lv' := [(4, .int 4), (3, .int p), (2, .int 0), (0, .int p), (1, .int 0)]) hx hb dX9_spread_36 hl (k := 0) rfl (by decide) (by decide) rfl (fun ls hl => ?_)
  refine lv_goto (tgt := 7) hx hb dX9_spread_39 (by decide) ?_
  refine lv_iload hx hb dX9_spread_7 (lv_at hl 0 rfl) ?_
  refine lv_bipush (v := 12) hx hb dX9_spread_9 (by decide) ?_
  refine lv_icmp_ge (tgt := 42) hx hb dX9_spread_11 (by decide) (fun c_5 => absurd c_5 (by decide)) (fun _ => ?_)
  refine lv_iload_n hx hb dX9_spread_14 rfl (lv_at hl 4 rfl) ?_
  refine lv_iload hx hb dX9_spread_15 (lv_at hl 0 rfl) ?_
  refine lv_iushr (v := 0) hx hb dX9_spread_17 (by decide) ?_
  refine lv_iconst (v := 1) hx hb dX9_spread_18 (by decide) ?_
  refine lv_iand hx hb dX9_spread_19 ?_
  refine zi (y := 0) (by decide) ?_
  refine lv_if_eq (tgt := 36) hx hb dX9_spread_20 (by decide) (fun _ => ?_) (fun c_6 => absurd (by decide) c_6)
  refine lv_iinc (v := 6) (lv' := [(4, .int 6), (3, .int p), (2, .int 0), (0, .int p), (1, .int 0)]) hx hb dX9_spread_36 hl (k := 0) rfl (by decide) (by decide) rfl (fun ls hl => ?_)
  refine lv_goto (tgt := 7) hx hb dX9_spread_39 (by decide) ?_
  refine lv_iload hx hb dX9_spread_7 (lv_at hl 0 rfl) ?_
  refine lv_bipush (v := 12) hx hb dX9_spread_9 (by decide) ?_
  refine lv_icmp_ge (tgt := 42) hx hb dX9_spread_11 (by decide) (fun c_7 => absurd c_7 (by decide)) (fun _ => ?_)
  refine lv_iload_n hx hb dX9_spread_14 rfl (lv_at hl 4 rfl) ?_
  refine lv_iload hx hb dX9_spread_15 (lv_at hl 0 rfl) ?_
  refine lv_iushr (v := 0) hx hb dX9_spread_17 (by decide) ?_
  refine lv_iconst (v := 1) hx hb dX9_spread_18 (by decide) ?_
  refine lv_iand hx hb dX9_spread_19 ?_
  refine zi (y := 0) (by decide) ?_
  refine lv_if_eq (tgt := 36) hx hb dX9_spread_20 (by decide) (fun _ => ?_) (fun c_8 => absurd (by decide) c_8)
  refine lv_iinc (v := 8) (lv' := [(4, .int 8), (3, .int p), (2, .int 0), (0, .int p), (1, .int 0)]) hx hb dX9_spread_36 hl (k := 0) rfl (by decide) (by decide) rfl (fun ls hl => ?_)
  refine lv_goto (tgt := 7) hx hb dX9_spread_39 (by decide) ?_
  refine lv_iload hx hb dX9_spread_7 (lv_at hl 0 rfl) ?_
  refine lv_bipush (v := 12) hx hb dX9_spread_9 (by decide) ?_
  refine lv_icmp_ge (tgt := 42) hx hb dX9_spread_11 (by decide) (fun c_9 => absurd c_9 (by decide)) (fun _ => ?_)
  refine lv_iload_n hx hb dX9_spread_14 rfl (lv_at hl 4 rfl) ?_
  refine lv_iload hx hb dX9_spread_15 (lv_at hl 0 rfl) ?_
  refine lv_iushr (v := 0) hx hb dX9_spread_17 (by decide) ?_
  refine lv_iconst (v := 1) hx hb dX9_spread_18 (by decide) ?_
  refine lv_iand hx hb dX9_spread_19 ?_
  refine zi (y := 0) (by decide) ?_
  refine lv_if_eq (tgt := 36) hx hb dX9_spread_20 (by decide) (fun _ => ?_) (fun c_10 => absurd (by decide) c_10)
  refine lv_iinc (v := 10) (lv' := [(4, .int 10), (3, .int p), (2, .int 0), (0, .int p), (1, .int 0)]) hx hb dX9_spread_36 hl (k := 0) rfl (by decide) (by decide) rfl (fun ls hl => ?_)
  refine lv_goto (tgt := 7) hx hb dX9_spread_39 (by decide) ?_
  refine lv_iload hx hb dX9_spread_7 (lv_at hl 0 rfl) ?_
  refine lv_bipush (v := 12) hx hb dX9_spread_9 (by decide) ?_
  refine lv_icmp_ge (tgt := 42) hx hb dX9_spread_11 (by decide) (fun c_11 => absurd c_11 (by decide)) (fun _ => ?_)
  refine lv_iload_n hx hb dX9_spread_14 rfl (lv_at hl 4 rfl) ?_
  refine lv_iload hx hb dX9_spread_15 (lv_at hl 0 rfl) ?_
  refine lv_iushr (v := 0) hx hb dX9_spread_17 (by decide) ?_
  refine lv_iconst (v := 1) hx hb dX9_spread_18 (by decide) ?_
  refine lv_iand hx hb dX9_spread_19 ?_
  refine zi (y := 0) (by decide) ?_
  refine lv_if_eq (tgt := 36) hx hb dX9_spread_20 (by decide) (fun _ => ?_) (fun c_12 => absurd (by decide) c_12)
  refine lv_iinc (v := 12) (lv' := [(4, .int 12), (3, .int p), (2, .int 0), (0, .int p), (1, .int 0)]) hx hb dX9_spread_36 hl (k := 0) rfl (by decide) (by decide) rfl (fun ls hl => ?_)
  refine lv_goto (tgt := 7) hx hb dX9_spread_39 (by decide) ?_
  refine lv_iload hx hb dX9_spread_7 (lv_at hl 0 rfl) ?_
  refine lv_bipush (v := 12) hx hb dX9_spread_9 (by decide) ?_
  refine lv_icmp_ge (tgt := 42) hx hb dX9_spread_11 (by decide) (fun _ => ?_) (fun c_13 => absurd (by decide) c_13)
  refine lv_iload_n hx hb dX9_spread_42 rfl (lv_at hl 2 rfl) ?_
  exact W.iret (v := 0) hx hb hr (fun tt_ ht hW => ⟨_, rfl, rfl, ht⟩) (fun _ h => by cases h) dX9_spread_43
set_option maxHeartbeats 1000000 in
set_option maxRecDepth 100000 in
theorem c_spread (l : Launch) (dC : Nat → ClassId) (dI : Nat → Nat → Nat) (cI cJ cS : ClassId) (p : Int32)  : Met l yX9_spread wsX9_spread ({ frames := 0, cells := 0, slots := 0, locals := 0 }) (va_Pc [.int p, .int 4095] (PR dC dI cI cJ cS [])) (vp_Si (fun r : Int32 => True)) 0 0 (fun _ => False) := by
  refine Met.ofW (cc := cX9_spread) (maxL := 5) (ret := (some .int)) (by decide) rfl ?_
  intro pp_ ee_ ss_ mm_ args below meth cc_ s₁ B hml hv
  obtain ⟨rfl, hP, hE⟩ := hv
  have hx := B.exec
  have hb := B.bytes
  have hr := B.returns
  have hts := atoms_spec (ws := wsX9_spread) B.pre
  have hown : ss_.vm.findClass RX9 = some mm_.cls := findClass_of_methodNamed B.named
  have hlocks := B.notSynchronized
  have hK := hE.1
  have hP : va_P (dC, dI) vwCl [] ss_.heap := hP
  have hl := lv_entry ([.int p, .int 4095]) (n := 5) (Nat.le_of_ble_eq_true rfl)
  rw [lg_entry_eq]
  generalize (lg_sl ([.int p, .int 4095]) ++ List.replicate (5 - (lg_sl ([.int p, .int 4095])).length) Slot.unset).toArray = ls at hl ⊢
  have hl : lv_has ls 5 [(0, .int p), (1, .int 4095)] := hl
  refine lv_iconst (v := 0) hx hb dX9_spread_0 (by decide) ?_
  refine lv_istore_n (lv' := [(2, .int 0), (0, .int p), (1, .int 4095)]) hx hb dX9_spread_1 rfl hl (by decide) rfl (fun ls hl => ?_)
  refine lv_iload_n hx hb dX9_spread_2 rfl (lv_at hl 1 rfl) ?_
  refine lv_istore_n (lv' := [(3, .int p), (2, .int 0), (0, .int p), (1, .int 4095)]) hx hb dX9_spread_3 rfl hl (by decide) rfl (fun ls hl => ?_)
  refine lv_iconst (v := 0) hx hb dX9_spread_4 (by decide) ?_
  refine lv_istore (lv' := [(4, .int 0), (3, .int p), (2, .int 0), (0, .int p), (1, .int 4095)]) hx hb dX9_spread_5 hl (by decide) rfl (fun ls hl => ?_)
  refine lv_iload hx hb dX9_spread_7 (lv_at hl 0 rfl) ?_
  refine lv_bipush (v := 12) hx hb dX9_spread_9 (by decide) ?_
  refine lv_icmp_ge (tgt := 42) hx hb dX9_spread_11 (by decide) (fun c_1 => absurd c_1 (by decide)) (fun _ => ?_)
  refine lv_iload_n hx hb dX9_spread_14 rfl (lv_at hl 4 rfl) ?_
  refine lv_iload hx hb dX9_spread_15 (lv_at hl 0 rfl) ?_
  refine lv_iushr (v := 4095) hx hb dX9_spread_17 (by decide) ?_
  refine lv_iconst (v := 1) hx hb dX9_spread_18 (by decide) ?_
  refine lv_iand hx hb dX9_spread_19 ?_
  refine zi (y := 1) (by decide) ?_
  refine lv_if_eq (tgt := 36) hx hb dX9_spread_20 (by decide) (fun c_2 => absurd c_2 (by decide)) (fun _ => ?_)
  refine lv_iload_n hx hb dX9_spread_23 rfl (lv_at hl 2 rfl) ?_
  refine lv_iload_n hx hb dX9_spread_24 rfl (lv_at hl 1 rfl) ?_
  refine lv_iconst (v := 3) hx hb dX9_spread_25 (by decide) ?_
  refine lv_iand hx hb dX9_spread_26 ?_
  refine lv_iload hx hb dX9_spread_27 (lv_at hl 0 rfl) ?_
  refine lv_ishl hx hb dX9_spread_29 ?_
  refine lv_ior hx hb dX9_spread_30 ?_
  refine zi (y := ((p &&& 3) <<< (0 &&& 31))) Int32.zero_or ?_
  refine lv_istore_n (lv' := [(2, .int ((p &&& 3) <<< (0 &&& 31))), (4, .int 0), (3, .int p), (0, .int p), (1, .int 4095)]) hx hb dX9_spread_31 rfl hl (by decide) rfl (fun ls hl => ?_)
  refine lv_iload_n hx hb dX9_spread_32 rfl (lv_at hl 2 rfl) ?_
  refine lv_iconst (v := 2) hx hb dX9_spread_33 (by decide) ?_
  refine lv_iushr (v := ((p).toUInt32 >>> ((2 : Int32).toUInt32 &&& Int32.toUInt32 31)).toInt32) hx hb dX9_spread_34 rfl ?_
  refine lv_topi (fun z_3 ez_3 => ?_)
  refine lv_istore_n (lv' := [(3, .int z_3), (2, .int ((p &&& 3) <<< (0 &&& 31))), (4, .int 0), (0, .int p), (1, .int 4095)]) hx hb dX9_spread_35 rfl hl (by decide) rfl (fun ls hl => ?_)
  refine lv_iinc (v := 2) (lv' := [(4, .int 2), (3, .int z_3), (2, .int ((p &&& 3) <<< (0 &&& 31))), (0, .int p), (1, .int 4095)]) hx hb dX9_spread_36 hl (k := 2) rfl (by decide) (by decide) rfl (fun ls hl => ?_)
  refine lv_goto (tgt := 7) hx hb dX9_spread_39 (by decide) ?_
  refine lv_iload hx hb dX9_spread_7 (lv_at hl 0 rfl) ?_
  refine lv_bipush (v := 12) hx hb dX9_spread_9 (by decide) ?_
  refine lv_icmp_ge (tgt := 42) hx hb dX9_spread_11 (by decide) (fun c_4 => absurd c_4 (by decide)) (fun _ => ?_)
  refine lv_iload_n hx hb dX9_spread_14 rfl (lv_at hl 4 rfl) ?_
  refine lv_iload hx hb dX9_spread_15 (lv_at hl 0 rfl) ?_
  refine lv_iushr (v := 1023) hx hb dX9_spread_17 (by decide) ?_
  refine lv_iconst (v := 1) hx hb dX9_spread_18 (by decide) ?_
  refine lv_iand hx hb dX9_spread_19 ?_
  refine zi (y := 1) (by decide) ?_
  refine lv_if_eq (tgt := 36) hx hb dX9_spread_20 (by decide) (fun c_5 => absurd c_5 (by decide)) (fun _ => ?_)
  refine lv_iload_n hx hb dX9_spread_23 rfl (lv_at hl 2 rfl) ?_
  refine lv_iload_n hx hb dX9_spread_24 rfl (lv_at hl 1 rfl) ?_
  refine lv_iconst (v := 3) hx hb dX9_spread_25 (by decide) ?_
  refine lv_iand hx hb dX9_spread_26 ?_
  refine lv_iload hx hb dX9_spread_27 (lv_at hl 0 rfl) ?_
  refine lv_ishl hx hb dX9_spread_29 ?_
  refine lv_ior hx hb dX9_spread_30 ?_
  refine lv_topi (fun z_6 ez_6 => ?_)
  refine lv_istore_n (lv' := [(2, .int z_6), (4, .int 2), (3, .int z_3), (0, .int p), (1, .int 4095)]) hx hb dX9_spread_31 rfl hl (by decide) rfl (fun ls hl => ?_)
  refine lv_iload_n hx hb dX9_spread_32 rfl (lv_at hl 2 rfl) ?_
  refine lv_iconst (v := 2) hx hb dX9_spread_33 (by decide) ?_
  refine lv_iushr (v := ((z_3).toUInt32 >>> ((2 : Int32).toUInt32 &&& Int32.toUInt32 31)).toInt32) hx hb dX9_spread_34 rfl ?_
  refine lv_topi (fun z_7 ez_7 => ?_)
  refine lv_istore_n (lv' := [(3, .int z_7), (2, .int z_6), (4, .int 2), (0, .int p), (1, .int 4095)]) hx hb dX9_spread_35 rfl hl (by decide) rfl (fun ls hl => ?_)
  refine lv_iinc (v := 4) (lv' := [(4, .int 4), (3, .int z_7), (2, .int z_6), (0, .int p), (1, .int 4095)]) hx hb dX9_spread_36 hl (k := 2) rfl (by decide) (by decide) rfl (fun ls hl => ?_)
  refine lv_goto (tgt := 7) hx hb dX9_spread_39 (by decide) ?_
  refine lv_iload hx hb dX9_spread_7 (lv_at hl 0 rfl) ?_
  refine lv_bipush (v := 12) hx hb dX9_spread_9 (by decide) ?_
  refine lv_icmp_ge (tgt := 42) hx hb dX9_spread_11 (by decide) (fun c_8 => absurd c_8 (by decide)) (fun _ => ?_)
  refine lv_iload_n hx hb dX9_spread_14 rfl (lv_at hl 4 rfl) ?_
  refine lv_iload hx hb dX9_spread_15 (lv_at hl 0 rfl) ?_
  refine lv_iushr (v := 255) hx hb dX9_spread_17 (by decide) ?_
  refine lv_iconst (v := 1) hx hb dX9_spread_18 (by decide) ?_
  refine lv_iand hx hb dX9_spread_19 ?_
  refine zi (y := 1) (by decide) ?_
  refine lv_if_eq (tgt := 36) hx hb dX9_spread_20 (by decide) (fun c_9 => absurd c_9 (by decide)) (fun _ => ?_)
  refine lv_iload_n hx hb dX9_spread_23 rfl (lv_at hl 2 rfl) ?_
  refine lv_iload_n hx hb dX9_spread_24 rfl (lv_at hl 1 rfl) ?_
  refine lv_iconst (v := 3) hx hb dX9_spread_25 (by decide) ?_
  refine lv_iand hx hb dX9_spread_26 ?_
  refine lv_iload hx hb dX9_spread_27 (lv_at hl 0 rfl) ?_
  refine lv_ishl hx hb dX9_spread_29 ?_
  refine lv_ior hx hb dX9_spread_30 ?_
  refine lv_istore_n (lv' := [(2, .int (z_6 ||| ((z_7 &&& 3) <<< (4 &&& 31)))), (4, .int 4), (3, .int z_7), (0, .int p), (1, .int 4095)]) hx hb dX9_spread_31 rfl hl (by decide) rfl (fun ls hl => ?_)
  refine lv_iload_n hx hb dX9_spread_32 rfl (lv_at hl 2 rfl) ?_
  refine lv_iconst (v := 2) hx hb dX9_spread_33 (by decide) ?_
  refine lv_iushr (v := ((z_7).toUInt32 >>> ((2 : Int32).toUInt32 &&& Int32.toUInt32 31)).toInt32) hx hb dX9_spread_34 rfl ?_
  refine lv_topi (fun z_10 ez_10 => ?_)
  refine lv_istore_n (lv' := [(3, .int z_10), (2, .int (z_6 ||| ((z_7 &&& 3) <<< (4 &&& 31)))), (4, .int 4), (0, .int p), (1, .int 4095)]) hx hb dX9_spread_35 rfl hl (by decide) rfl (fun ls hl => ?_)
  refine lv_iinc (v := 6) (lv' := [(4, .int 6), (3, .int z_10), (2, .int (z_6 ||| ((z_7 &&& 3) <<< (4 &&& 31)))), (0, .int p), (1, .int 4095)]) hx hb dX9_spread_36 hl (k := 2) rfl (by decide) (by decide) rfl (fun ls hl => ?_)
  refine lv_goto (tgt := 7) hx hb dX9_spread_39 (by decide) ?_
  refine lv_iload hx hb dX9_spread_7 (lv_at hl 0 rfl) ?_
  refine lv_bipush (v := 12) hx hb dX9_spread_9 (by decide) ?_
  refine lv_icmp_ge (tgt := 42) hx hb dX9_spread_11 (by decide) (fun c_11 => absurd c_11 (by decide)) (fun _ => ?_)
  refine lv_iload_n hx hb dX9_spread_14 rfl (lv_at hl 4 rfl) ?_
  refine lv_iload hx hb dX9_spread_15 (lv_at hl 0 rfl) ?_
  refine lv_iushr (v := 63) hx hb dX9_spread_17 (by decide) ?_
  refine lv_iconst (v := 1) hx hb dX9_spread_18 (by decide) ?_
  refine lv_iand hx hb dX9_spread_19 ?_
  refine zi (y := 1) (by decide) ?_
  refine lv_if_eq (tgt := 36) hx hb dX9_spread_20 (by decide) (fun c_12 => absurd c_12 (by decide)) (fun _ => ?_)
  refine lv_iload_n hx hb dX9_spread_23 rfl (lv_at hl 2 rfl) ?_
  refine lv_iload_n hx hb dX9_spread_24 rfl (lv_at hl 1 rfl) ?_
  refine lv_iconst (v := 3) hx hb dX9_spread_25 (by decide) ?_
  refine lv_iand hx hb dX9_spread_26 ?_
  refine lv_iload hx hb dX9_spread_27 (lv_at hl 0 rfl) ?_
  refine lv_ishl hx hb dX9_spread_29 ?_
  refine lv_ior hx hb dX9_spread_30 ?_
  refine lv_topi (fun z_13 ez_13 => ?_)
  refine lv_istore_n (lv' := [(2, .int z_13), (4, .int 6), (3, .int z_10), (0, .int p), (1, .int 4095)]) hx hb dX9_spread_31 rfl hl (by decide) rfl (fun ls hl => ?_)
  refine lv_iload_n hx hb dX9_spread_32 rfl (lv_at hl 2 rfl) ?_
  refine lv_iconst (v := 2) hx hb dX9_spread_33 (by decide) ?_
  refine lv_iushr (v := ((z_10).toUInt32 >>> ((2 : Int32).toUInt32 &&& Int32.toUInt32 31)).toInt32) hx hb dX9_spread_34 rfl ?_
  refine lv_topi (fun z_14 ez_14 => ?_)
  refine lv_istore_n (lv' := [(3, .int z_14), (2, .int z_13), (4, .int 6), (0, .int p), (1, .int 4095)]) hx hb dX9_spread_35 rfl hl (by decide) rfl (fun ls hl => ?_)
  refine lv_iinc (v := 8) (lv' := [(4, .int 8), (3, .int z_14), (2, .int z_13), (0, .int p), (1, .int 4095)]) hx hb dX9_spread_36 hl (k := 2) rfl (by decide) (by decide) rfl (fun ls hl => ?_)
  refine lv_goto (tgt := 7) hx hb dX9_spread_39 (by decide) ?_
  refine lv_iload hx hb dX9_spread_7 (lv_at hl 0 rfl) ?_
  refine lv_bipush (v := 12) hx hb dX9_spread_9 (by decide) ?_
  refine lv_icmp_ge (tgt := 42) hx hb dX9_spread_11 (by decide) (fun c_15 => absurd c_15 (by decide)) (fun _ => ?_)
  refine lv_iload_n hx hb dX9_spread_14 rfl (lv_at hl 4 rfl) ?_
  refine lv_iload hx hb dX9_spread_15 (lv_at hl 0 rfl) ?_
  refine lv_iushr (v := 15) hx hb dX9_spread_17 (by decide) ?_
  refine lv_iconst (v := 1) hx hb dX9_spread_18 (by decide) ?_
  refine lv_iand hx hb dX9_spread_19 ?_
  refine zi (y := 1) (by decide) ?_
  refine lv_if_eq (tgt := 36) hx hb dX9_spread_20 (by decide) (fun c_16 => absurd c_16 (by decide)) (fun _ => ?_)
  refine lv_iload_n hx hb dX9_spread_23 rfl (lv_at hl 2 rfl) ?_
  refine lv_iload_n hx hb dX9_spread_24 rfl (lv_at hl 1 rfl) ?_
  refine lv_iconst (v := 3) hx hb dX9_spread_25 (by decide) ?_
  refine lv_iand hx hb dX9_spread_26 ?_
  refine lv_iload hx hb dX9_spread_27 (lv_at hl 0 rfl) ?_
  refine lv_ishl hx hb dX9_spread_29 ?_
  refine lv_ior hx hb dX9_spread_30 ?_
  refine lv_istore_n (lv' := [(2, .int (z_13 ||| ((z_14 &&& 3) <<< (8 &&& 31)))), (4, .int 8), (3, .int z_14), (0, .int p), (1, .int 4095)]) hx hb dX9_spread_31 rfl hl (by decide) rfl (fun ls hl => ?_)
  refine lv_iload_n hx hb dX9_spread_32 rfl (lv_at hl 2 rfl) ?_
  refine lv_iconst (v := 2) hx hb dX9_spread_33 (by decide) ?_
  refine lv_iushr (v := ((z_14).toUInt32 >>> ((2 : Int32).toUInt32 &&& Int32.toUInt32 31)).toInt32) hx hb dX9_spread_34 rfl ?_
  refine lv_topi (fun z_17 ez_17 => ?_)
  refine lv_istore_n (lv' := [(3, .int z_17), (2, .int (z_13 ||| ((z_14 &&& 3) <<< (8 &&& 31)))), (4, .int 8), (0, .int p), (1, .int 4095)]) hx hb dX9_spread_35 rfl hl (by decide) rfl (fun ls hl => ?_)
  refine lv_iinc (v := 10) (lv' := [(4, .int 10), (3, .int z_17), (2, .int (z_13 ||| ((z_14 &&& 3) <<< (8 &&& 31)))), (0, .int p), (1, .int 4095)]) hx hb dX9_spread_36 hl (k := 2) rfl (by decide) (by decide) rfl (fun ls hl => ?_)
  refine lv_goto (tgt := 7) hx hb dX9_spread_39 (by decide) ?_
  refine lv_iload hx hb dX9_spread_7 (lv_at hl 0 rfl) ?_
  refine lv_bipush (v := 12) hx hb dX9_spread_9 (by decide) ?_
  refine lv_icmp_ge (tgt := 42) hx hb dX9_spread_11 (by decide) (fun c_18 => absurd c_18 (by decide)) (fun _ => ?_)
  refine lv_iload_n hx hb dX9_spread_14 rfl (lv_at hl 4 rfl) ?_
  refine lv_iload hx hb dX9_spread_15 (lv_at hl 0 rfl) ?_
  refine lv_iushr (v := 3) hx hb dX9_spread_17 (by decide) ?_
  refine lv_iconst (v := 1) hx hb dX9_spread_18 (by decide) ?_
  refine lv_iand hx hb dX9_spread_19 ?_
  refine zi (y := 1) (by decide) ?_
  refine lv_if_eq (tgt := 36) hx hb dX9_spread_20 (by decide) (fun c_19 => absurd c_19 (by decide)) (fun _ => ?_)
  refine lv_iload_n hx hb dX9_spread_23 rfl (lv_at hl 2 rfl) ?_
  refine lv_iload_n hx hb dX9_spread_24 rfl (lv_at hl 1 rfl) ?_
  refine lv_iconst (v := 3) hx hb dX9_spread_25 (by decide) ?_
  refine lv_iand hx hb dX9_spread_26 ?_
  refine lv_iload hx hb dX9_spread_27 (lv_at hl 0 rfl) ?_
  refine lv_ishl hx hb dX9_spread_29 ?_
  refine lv_ior hx hb dX9_spread_30 ?_
  refine lv_topi (fun z_20 ez_20 => ?_)
  refine lv_istore_n (lv' := [(2, .int z_20), (4, .int 10), (3, .int z_17), (0, .int p), (1, .int 4095)]) hx hb dX9_spread_31 rfl hl (by decide) rfl (fun ls hl => ?_)
  refine lv_iload_n hx hb dX9_spread_32 rfl (lv_at hl 2 rfl) ?_
  refine lv_iconst (v := 2) hx hb dX9_spread_33 (by decide) ?_
  refine lv_iushr (v := ((z_17).toUInt32 >>> ((2 : Int32).toUInt32 &&& Int32.toUInt32 31)).toInt32) hx hb dX9_spread_34 rfl ?_
  refine lv_topi (fun z_21 ez_21 => ?_)
  refine lv_istore_n (lv' := [(3, .int z_21), (2, .int z_20), (4, .int 10), (0, .int p), (1, .int 4095)]) hx hb dX9_spread_35 rfl hl (by decide) rfl (fun ls hl => ?_)
  refine lv_iinc (v := 12) (lv' := [(4, .int 12), (3, .int z_21), (2, .int z_20), (0, .int p), (1, .int 4095)]) hx hb dX9_spread_36 hl (k := 2) rfl (by decide) (by decide) rfl (fun ls hl => ?_)
  refine lv_goto (tgt := 7) hx hb dX9_spread_39 (by decide) ?_
  refine lv_iload hx hb dX9_spread_7 (lv_at hl 0 rfl) ?_
  refine lv_bipush (v := 12) hx hb dX9_spread_9 (by decide) ?_
  refine lv_icmp_ge (tgt := 42) hx hb dX9_spread_11 (by decide) (fun _ => ?_) (fun c_22 => absurd (by decide) c_22)
  refine lv_iload_n hx hb dX9_spread_42 rfl (lv_at hl 2 rfl) ?_
  exact W.iret (v := z_20) hx hb hr (fun tt_ ht hW => ⟨_, rfl, trivial, ht⟩) (fun _ h => by cases h) dX9_spread_43
set_option maxHeartbeats 1000000 in
set_option maxRecDepth 100000 in
theorem c_gather0 (l : Launch) (dC : Nat → ClassId) (dI : Nat → Nat → Nat) (cI cJ cS : ClassId)   : Met l yX9_gather wsX9_gather ({ frames := 0, cells := 0, slots := 0, locals := 0 }) (va_Pc [.int 0, .int 0] (PR dC dI cI cJ cS [])) (vp_Si (fun r : Int32 => r = 0)) 0 0 (fun _ => False) := by
  refine Met.ofW (cc := cX9_gather) (maxL := 5) (ret := (some .int)) (by decide) rfl ?_
  intro pp_ ee_ ss_ mm_ args below meth cc_ s₁ B hml hv
  obtain ⟨rfl, hP, hE⟩ := hv
  have hx := B.exec
  have hb := B.bytes
  have hr := B.returns
  have hts := atoms_spec (ws := wsX9_gather) B.pre
  have hown : ss_.vm.findClass RX9 = some mm_.cls := findClass_of_methodNamed B.named
  have hlocks := B.notSynchronized
  have hK := hE.1
  have hP : va_P (dC, dI) vwCl [] ss_.heap := hP
  have hl := lv_entry ([.int 0, .int 0]) (n := 5) (Nat.le_of_ble_eq_true rfl)
  rw [lg_entry_eq]
  generalize (lg_sl ([.int 0, .int 0]) ++ List.replicate (5 - (lg_sl ([.int 0, .int 0])).length) Slot.unset).toArray = ls at hl ⊢
  have hl : lv_has ls 5 [(0, .int 0), (1, .int 0)] := hl
  refine lv_iconst (v := 0) hx hb dX9_gather_0 (by decide) ?_
  refine lv_istore_n (lv' := [(2, .int 0), (0, .int 0), (1, .int 0)]) hx hb dX9_gather_1 rfl hl (by decide) rfl (fun ls hl => ?_)
  refine lv_iconst (v := 0) hx hb dX9_gather_2 (by decide) ?_
  refine lv_istore_n (lv' := [(3, .int 0), (2, .int 0), (0, .int 0), (1, .int 0)]) hx hb dX9_gather_3 rfl hl (by decide) rfl (fun ls hl => ?_)
  refine lv_iconst (v := 0) hx hb dX9_gather_4 (by decide) ?_
  refine lv_istore (lv' := [(4, .int 0), (3, .int 0), (2, .int 0), (0, .int 0), (1, .int 0)]) hx hb dX9_gather_5 hl (by decide) rfl (fun ls hl => ?_)
  refine lv_iload hx hb dX9_gather_7 (lv_at hl 0 rfl) ?_
  refine lv_bipush (v := 12) hx hb dX9_gather_9 (by decide) ?_
  refine lv_icmp_ge (tgt := 43) hx hb dX9_gather_11 (by decide) (fun c_1 => absurd c_1 (by decide)) (fun _ => ?_)
  refine lv_iload_n hx hb dX9_gather_14 rfl (lv_at hl 4 rfl) ?_
  refine lv_iload hx hb dX9_gather_15 (lv_at hl 0 rfl) ?_
  refine lv_iushr (v := 0) hx hb dX9_gather_17 (by decide) ?_
  refine lv_iconst (v := 1) hx hb dX9_gather_18 (by decide) ?_
  refine lv_iand hx hb dX9_gather_19 ?_
  refine zi (y := 0) (by decide) ?_
  refine lv_if_eq (tgt := 37) hx hb dX9_gather_20 (by decide) (fun _ => ?_) (fun c_2 => absurd (by decide) c_2)
  refine lv_iinc (v := 2) (lv' := [(4, .int 2), (3, .int 0), (2, .int 0), (0, .int 0), (1, .int 0)]) hx hb dX9_gather_37 hl (k := 0) rfl (by decide) (by decide) rfl (fun ls hl => ?_)
  refine lv_goto (tgt := 7) hx hb dX9_gather_40 (by decide) ?_
  refine lv_iload hx hb dX9_gather_7 (lv_at hl 0 rfl) ?_
  refine lv_bipush (v := 12) hx hb dX9_gather_9 (by decide) ?_
  refine lv_icmp_ge (tgt := 43) hx hb dX9_gather_11 (by decide) (fun c_3 => absurd c_3 (by decide)) (fun _ => ?_)
  refine lv_iload_n hx hb dX9_gather_14 rfl (lv_at hl 4 rfl) ?_
  refine lv_iload hx hb dX9_gather_15 (lv_at hl 0 rfl) ?_
  refine lv_iushr (v := 0) hx hb dX9_gather_17 (by decide) ?_
  refine lv_iconst (v := 1) hx hb dX9_gather_18 (by decide) ?_
  refine lv_iand hx hb dX9_gather_19 ?_
  refine zi (y := 0) (by decide) ?_
  refine lv_if_eq (tgt := 37) hx hb dX9_gather_20 (by decide) (fun _ => ?_) (fun c_4 => absurd (by decide) c_4)
  refine lv_iinc (v := 4) (lv' := [(4, .int 4), (3, .int 0), (2, .int 0), (0, .int 0), (1, .int 0)]) hx hb dX9_gather_37 hl (k := 0) rfl (by decide) (by decide) rfl (fun ls hl => ?_)
  refine lv_goto (tgt := 7) hx hb dX9_gather_40 (by decide) ?_
  refine lv_iload hx hb dX9_gather_7 (lv_at hl 0 rfl) ?_
  refine lv_bipush (v := 12) hx hb dX9_gather_9 (by decide) ?_
  refine lv_icmp_ge (tgt := 43) hx hb dX9_gather_11 (by decide) (fun c_5 => absurd c_5 (by decide)) (fun _ => ?_)
  refine lv_iload_n hx hb dX9_gather_14 rfl (lv_at hl 4 rfl) ?_
  refine lv_iload hx hb dX9_gather_15 (lv_at hl 0 rfl) ?_
  refine lv_iushr (v := 0) hx hb dX9_gather_17 (by decide) ?_
  refine lv_iconst (v := 1) hx hb dX9_gather_18 (by decide) ?_
  refine lv_iand hx hb dX9_gather_19 ?_
  refine zi (y := 0) (by decide) ?_
  refine lv_if_eq (tgt := 37) hx hb dX9_gather_20 (by decide) (fun _ => ?_) (fun c_6 => absurd (by decide) c_6)
  refine lv_iinc (v := 6) (lv' := [(4, .int 6), (3, .int 0), (2, .int 0), (0, .int 0), (1, .int 0)]) hx hb dX9_gather_37 hl (k := 0) rfl (by decide) (by decide) rfl (fun ls hl => ?_)
  refine lv_goto (tgt := 7) hx hb dX9_gather_40 (by decide) ?_
  refine lv_iload hx hb dX9_gather_7 (lv_at hl 0 rfl) ?_
  refine lv_bipush (v := 12) hx hb dX9_gather_9 (by decide) ?_
  refine lv_icmp_ge (tgt := 43) hx hb dX9_gather_11 (by decide) (fun c_7 => absurd c_7 (by decide)) (fun _ => ?_)
  refine lv_iload_n hx hb dX9_gather_14 rfl (lv_at hl 4 rfl) ?_
  refine lv_iload hx hb dX9_gather_15 (lv_at hl 0 rfl) ?_
  refine lv_iushr (v := 0) hx hb dX9_gather_17 (by decide) ?_
  refine lv_iconst (v := 1) hx hb dX9_gather_18 (by decide) ?_
  refine lv_iand hx hb dX9_gather_19 ?_
  refine zi (y := 0) (by decide) ?_
  refine lv_if_eq (tgt := 37) hx hb dX9_gather_20 (by decide) (fun _ => ?_) (fun c_8 => absurd (by decide) c_8)
  refine lv_iinc (v := 8) (lv' := [(4, .int 8), (3, .int 0), (2, .int 0), (0, .int 0), (1, .int 0)]) hx hb dX9_gather_37 hl (k := 0) rfl (by decide) (by decide) rfl (fun ls hl => ?_)
  refine lv_goto (tgt := 7) hx hb dX9_gather_40 (by decide) ?_
  refine lv_iload hx hb dX9_gather_7 (lv_at hl 0 rfl) ?_
  refine lv_bipush (v := 12) hx hb dX9_gather_9 (by decide) ?_
  refine lv_icmp_ge (tgt := 43) hx hb dX9_gather_11 (by decide) (fun c_9 => absurd c_9 (by decide)) (fun _ => ?_)
  refine lv_iload_n hx hb dX9_gather_14 rfl (lv_at hl 4 rfl) ?_
  refine lv_iload hx hb dX9_gather_15 (lv_at hl 0 rfl) ?_
  refine lv_iushr (v := 0) hx hb dX9_gather_17 (by decide) ?_
  refine lv_iconst (v := 1) hx hb dX9_gather_18 (by decide) ?_
  refine lv_iand hx hb dX9_gather_19 ?_
  refine zi (y := 0) (by decide) ?_
  refine lv_if_eq (tgt := 37) hx hb dX9_gather_20 (by decide) (fun _ => ?_) (fun c_10 => absurd (by decide) c_10)
  refine lv_iinc (v := 10) (lv' := [(4, .int 10), (3, .int 0), (2, .int 0), (0, .int 0), (1, .int 0)]) hx hb dX9_gather_37 hl (k := 0) rfl (by decide) (by decide) rfl (fun ls hl => ?_)
  refine lv_goto (tgt := 7) hx hb dX9_gather_40 (by decide) ?_
  refine lv_iload hx hb dX9_gather_7 (lv_at hl 0 rfl) ?_
  refine lv_bipush (v := 12) hx hb dX9_gather_9 (by decide) ?_
  refine lv_icmp_ge (tgt := 43) hx hb dX9_gather_11 (by decide) (fun c_11 => absurd c_11 (by decide)) (fun _ => ?_)
  refine lv_iload_n hx hb dX9_gather_14 rfl (lv_at hl 4 rfl) ?_
  refine lv_iload hx hb dX9_gather_15 (lv_at hl 0 rfl) ?_
  refine lv_iushr (v := 0) hx hb dX9_gather_17 (by decide) ?_
  refine lv_iconst (v := 1) hx hb dX9_gather_18 (by decide) ?_
  refine lv_iand hx hb dX9_gather_19 ?_
  refine zi (y := 0) (by decide) ?_
  refine lv_if_eq (tgt := 37) hx hb dX9_gather_20 (by decide) (fun _ => ?_) (fun c_12 => absurd (by decide) c_12)
  refine lv_iinc (v := 12) (lv' := [(4, .int 12), (3, .int 0), (2, .int 0), (0, .int 0), (1, .int 0)]) hx hb dX9_gather_37 hl (k := 0) rfl (by decide) (by decide) rfl (fun ls hl => ?_)
  refine lv_goto (tgt := 7) hx hb dX9_gather_40 (by decide) ?_
  refine lv_iload hx hb dX9_gather_7 (lv_at hl 0 rfl) ?_
  refine lv_bipush (v := 12) hx hb dX9_gather_9 (by decide) ?_
  refine lv_icmp_ge (tgt := 43) hx hb dX9_gather_11 (by decide) (fun _ => ?_) (fun c_13 => absurd (by decide) c_13)
  refine lv_iload_n hx hb dX9_gather_43 rfl (lv_at hl 2 rfl) ?_
  exact W.iret (v := 0) hx hb hr (fun tt_ ht hW => ⟨_, rfl, rfl, ht⟩) (fun _ h => by cases h) dX9_gather_44
set_option maxHeartbeats 1000000 in
set_option maxRecDepth 100000 in
theorem c_gather4095 (l : Launch) (dC : Nat → ClassId) (dI : Nat → Nat → Nat) (cI cJ cS : ClassId)   : Met l yX9_gather wsX9_gather ({ frames := 0, cells := 0, slots := 0, locals := 0 }) (va_Pc [.int 0, .int 4095] (PR dC dI cI cJ cS [])) (vp_Si (fun r : Int32 => r = 0)) 0 0 (fun _ => False) := by
  refine Met.ofW (cc := cX9_gather) (maxL := 5) (ret := (some .int)) (by decide) rfl ?_
  intro pp_ ee_ ss_ mm_ args below meth cc_ s₁ B hml hv
  obtain ⟨rfl, hP, hE⟩ := hv
  have hx := B.exec
  have hb := B.bytes
  have hr := B.returns
  have hts := atoms_spec (ws := wsX9_gather) B.pre
  have hown : ss_.vm.findClass RX9 = some mm_.cls := findClass_of_methodNamed B.named
  have hlocks := B.notSynchronized
  have hK := hE.1
  have hP : va_P (dC, dI) vwCl [] ss_.heap := hP
  have hl := lv_entry ([.int 0, .int 4095]) (n := 5) (Nat.le_of_ble_eq_true rfl)
  rw [lg_entry_eq]
  generalize (lg_sl ([.int 0, .int 4095]) ++ List.replicate (5 - (lg_sl ([.int 0, .int 4095])).length) Slot.unset).toArray = ls at hl ⊢
  have hl : lv_has ls 5 [(0, .int 0), (1, .int 4095)] := hl
  refine lv_iconst (v := 0) hx hb dX9_gather_0 (by decide) ?_
  refine lv_istore_n (lv' := [(2, .int 0), (0, .int 0), (1, .int 4095)]) hx hb dX9_gather_1 rfl hl (by decide) rfl (fun ls hl => ?_)
  refine lv_iconst (v := 0) hx hb dX9_gather_2 (by decide) ?_
  refine lv_istore_n (lv' := [(3, .int 0), (2, .int 0), (0, .int 0), (1, .int 4095)]) hx hb dX9_gather_3 rfl hl (by decide) rfl (fun ls hl => ?_)
  refine lv_iconst (v := 0) hx hb dX9_gather_4 (by decide) ?_
  refine lv_istore (lv' := [(4, .int 0), (3, .int 0), (2, .int 0), (0, .int 0), (1, .int 4095)]) hx hb dX9_gather_5 hl (by decide) rfl (fun ls hl => ?_)
  refine lv_iload hx hb dX9_gather_7 (lv_at hl 0 rfl) ?_
  refine lv_bipush (v := 12) hx hb dX9_gather_9 (by decide) ?_
  refine lv_icmp_ge (tgt := 43) hx hb dX9_gather_11 (by decide) (fun c_1 => absurd c_1 (by decide)) (fun _ => ?_)
  refine lv_iload_n hx hb dX9_gather_14 rfl (lv_at hl 4 rfl) ?_
  refine lv_iload hx hb dX9_gather_15 (lv_at hl 0 rfl) ?_
  refine lv_iushr (v := 4095) hx hb dX9_gather_17 (by decide) ?_
  refine lv_iconst (v := 1) hx hb dX9_gather_18 (by decide) ?_
  refine lv_iand hx hb dX9_gather_19 ?_
  refine zi (y := 1) (by decide) ?_
  refine lv_if_eq (tgt := 37) hx hb dX9_gather_20 (by decide) (fun c_2 => absurd c_2 (by decide)) (fun _ => ?_)
  refine lv_iload_n hx hb dX9_gather_23 rfl (lv_at hl 2 rfl) ?_
  refine lv_iload_n hx hb dX9_gather_24 rfl (lv_at hl 3 rfl) ?_
  refine lv_iload hx hb dX9_gather_25 (lv_at hl 0 rfl) ?_
  refine lv_iushr (v := 0) hx hb dX9_gather_27 (by decide) ?_
  refine lv_iconst (v := 3) hx hb dX9_gather_28 (by decide) ?_
  refine lv_iand hx hb dX9_gather_29 ?_
  refine zi (y := 0) (by decide) ?_
  refine lv_iload_n hx hb dX9_gather_30 rfl (lv_at hl 1 rfl) ?_
  refine lv_ishl hx hb dX9_gather_31 ?_
  refine zi (y := 0) (by decide) ?_
  refine lv_ior hx hb dX9_gather_32 ?_
  refine zi (y := 0) (by decide) ?_
  refine lv_istore_n (lv' := [(2, .int 0), (4, .int 0), (3, .int 0), (0, .int 0), (1, .int 4095)]) hx hb dX9_gather_33 rfl hl (by decide) rfl (fun ls hl => ?_)
  refine lv_iinc (v := 2) (lv' := [(3, .int 2), (2, .int 0), (4, .int 0), (0, .int 0), (1, .int 4095)]) hx hb dX9_gather_34 hl (k := 2) rfl (by decide) (by decide) rfl (fun ls hl => ?_)
  refine lv_iinc (v := 2) (lv' := [(4, .int 2), (3, .int 2), (2, .int 0), (0, .int 0), (1, .int 4095)]) hx hb dX9_gather_37 hl (k := 2) rfl (by decide) (by decide) rfl (fun ls hl => ?_)
  refine lv_goto (tgt := 7) hx hb dX9_gather_40 (by decide) ?_
  refine lv_iload hx hb dX9_gather_7 (lv_at hl 0 rfl) ?_
  refine lv_bipush (v := 12) hx hb dX9_gather_9 (by decide) ?_
  refine lv_icmp_ge (tgt := 43) hx hb dX9_gather_11 (by decide) (fun c_3 => absurd c_3 (by decide)) (fun _ => ?_)
  refine lv_iload_n hx hb dX9_gather_14 rfl (lv_at hl 4 rfl) ?_
  refine lv_iload hx hb dX9_gather_15 (lv_at hl 0 rfl) ?_
  refine lv_iushr (v := 1023) hx hb dX9_gather_17 (by decide) ?_
  refine lv_iconst (v := 1) hx hb dX9_gather_18 (by decide) ?_
  refine lv_iand hx hb dX9_gather_19 ?_
  refine zi (y := 1) (by decide) ?_
  refine lv_if_eq (tgt := 37) hx hb dX9_gather_20 (by decide) (fun c_4 => absurd c_4 (by decide)) (fun _ => ?_)
  refine lv_iload_n hx hb dX9_gather_23 rfl (lv_at hl 2 rfl) ?_
  refine lv_iload_n hx hb dX9_gather_24 rfl (lv_at hl 3 rfl) ?_
  refine lv_iload hx hb dX9_gather_25 (lv_at hl 0 rfl) ?_
  refine lv_iushr (v := 0) hx hb dX9_gather_27 (by decide) ?_
  refine lv_iconst (v := 3) hx hb dX9_gather_28 (by decide) ?_
  refine lv_iand hx hb dX9_gather_29 ?_
  refine zi (y := 0) (by decide) ?_
  refine lv_iload_n hx hb dX9_gather_30 rfl (lv_at hl 1 rfl) ?_
  refine lv_ishl hx hb dX9_gather_31 ?_
  refine zi (y := 0) (by decide) ?_
  refine lv_ior hx hb dX9_gather_32 ?_
  refine zi (y := 0) (by decide) ?_
  refine lv_istore_n (lv' := [(2, .int 0), (4, .int 2), (3, .int 2), (0, .int 0), (1, .int 4095)]) hx hb dX9_gather_33 rfl hl (by decide) rfl (fun ls hl => ?_)
  refine lv_iinc (v := 4) (lv' := [(3, .int 4), (2, .int 0), (4, .int 2), (0, .int 0), (1, .int 4095)]) hx hb dX9_gather_34 hl (k := 2) rfl (by decide) (by decide) rfl (fun ls hl => ?_)
  refine lv_iinc (v := 4) (lv' := [(4, .int 4), (3, .int 4), (2, .int 0), (0, .int 0), (1, .int 4095)]) hx hb dX9_gather_37 hl (k := 2) rfl (by decide) (by decide) rfl (fun ls hl => ?_)
  refine lv_goto (tgt := 7) hx hb dX9_gather_40 (by decide) ?_
  refine lv_iload hx hb dX9_gather_7 (lv_at hl 0 rfl) ?_
  refine lv_bipush (v := 12) hx hb dX9_gather_9 (by decide) ?_
  refine lv_icmp_ge (tgt := 43) hx hb dX9_gather_11 (by decide) (fun c_5 => absurd c_5 (by decide)) (fun _ => ?_)
  refine lv_iload_n hx hb dX9_gather_14 rfl (lv_at hl 4 rfl) ?_
  refine lv_iload hx hb dX9_gather_15 (lv_at hl 0 rfl) ?_
  refine lv_iushr (v := 255) hx hb dX9_gather_17 (by decide) ?_
  refine lv_iconst (v := 1) hx hb dX9_gather_18 (by decide) ?_
  refine lv_iand hx hb dX9_gather_19 ?_
  refine zi (y := 1) (by decide) ?_
  refine lv_if_eq (tgt := 37) hx hb dX9_gather_20 (by decide) (fun c_6 => absurd c_6 (by decide)) (fun _ => ?_)
  refine lv_iload_n hx hb dX9_gather_23 rfl (lv_at hl 2 rfl) ?_
  refine lv_iload_n hx hb dX9_gather_24 rfl (lv_at hl 3 rfl) ?_
  refine lv_iload hx hb dX9_gather_25 (lv_at hl 0 rfl) ?_
  refine lv_iushr (v := 0) hx hb dX9_gather_27 (by decide) ?_
  refine lv_iconst (v := 3) hx hb dX9_gather_28 (by decide) ?_
  refine lv_iand hx hb dX9_gather_29 ?_
  refine zi (y := 0) (by decide) ?_
  refine lv_iload_n hx hb dX9_gather_30 rfl (lv_at hl 1 rfl) ?_
  refine lv_ishl hx hb dX9_gather_31 ?_
  refine zi (y := 0) (by decide) ?_
  refine lv_ior hx hb dX9_gather_32 ?_
  refine zi (y := 0) (by decide) ?_
  refine lv_istore_n (lv' := [(2, .int 0), (4, .int 4), (3, .int 4), (0, .int 0), (1, .int 4095)]) hx hb dX9_gather_33 rfl hl (by decide) rfl (fun ls hl => ?_)
  refine lv_iinc (v := 6) (lv' := [(3, .int 6), (2, .int 0), (4, .int 4), (0, .int 0), (1, .int 4095)]) hx hb dX9_gather_34 hl (k := 2) rfl (by decide) (by decide) rfl (fun ls hl => ?_)
  refine lv_iinc (v := 6) (lv' := [(4, .int 6), (3, .int 6), (2, .int 0), (0, .int 0), (1, .int 4095)]) hx hb dX9_gather_37 hl (k := 2) rfl (by decide) (by decide) rfl (fun ls hl => ?_)
  refine lv_goto (tgt := 7) hx hb dX9_gather_40 (by decide) ?_
  refine lv_iload hx hb dX9_gather_7 (lv_at hl 0 rfl) ?_
  refine lv_bipush (v := 12) hx hb dX9_gather_9 (by decide) ?_
  refine lv_icmp_ge (tgt := 43) hx hb dX9_gather_11 (by decide) (fun c_7 => absurd c_7 (by decide)) (fun _ => ?_)
  refine lv_iload_n hx hb dX9_gather_14 rfl (lv_at hl 4 rfl) ?_
  refine lv_iload hx hb dX9_gather_15 (lv_at hl 0 rfl) ?_
  refine lv_iushr (v := 63) hx hb dX9_gather_17 (by decide) ?_
  refine lv_iconst (v := 1) hx hb dX9_gather_18 (by decide) ?_
  refine lv_iand hx hb dX9_gather_19 ?_
  refine zi (y := 1) (by decide) ?_
  refine lv_if_eq (tgt := 37) hx hb dX9_gather_20 (by decide) (fun c_8 => absurd c_8 (by decide)) (fun _ => ?_)
  refine lv_iload_n hx hb dX9_gather_23 rfl (lv_at hl 2 rfl) ?_
  refine lv_iload_n hx hb dX9_gather_24 rfl (lv_at hl 3 rfl) ?_
  refine lv_iload hx hb dX9_gather_25 (lv_at hl 0 rfl) ?_
  refine lv_iushr (v := 0) hx hb dX9_gather_27 (by decide) ?_
  refine lv_iconst (v := 3) hx hb dX9_gather_28 (by decide) ?_
  refine lv_iand hx hb dX9_gather_29 ?_
  refine zi (y := 0) (by decide) ?_
  refine lv_iload_n hx hb dX9_gather_30 rfl (lv_at hl 1 rfl) ?_
  refine lv_ishl hx hb dX9_gather_31 ?_
  refine zi (y := 0) (by decide) ?_
  refine lv_ior hx hb dX9_gather_32 ?_
  refine zi (y := 0) (by decide) ?_
  refine lv_istore_n (lv' := [(2, .int 0), (4, .int 6), (3, .int 6), (0, .int 0), (1, .int 4095)]) hx hb dX9_gather_33 rfl hl (by decide) rfl (fun ls hl => ?_)
  refine lv_iinc (v := 8) (lv' := [(3, .int 8), (2, .int 0), (4, .int 6), (0, .int 0), (1, .int 4095)]) hx hb dX9_gather_34 hl (k := 2) rfl (by decide) (by decide) rfl (fun ls hl => ?_)
  refine lv_iinc (v := 8) (lv' := [(4, .int 8), (3, .int 8), (2, .int 0), (0, .int 0), (1, .int 4095)]) hx hb dX9_gather_37 hl (k := 2) rfl (by decide) (by decide) rfl (fun ls hl => ?_)
  refine lv_goto (tgt := 7) hx hb dX9_gather_40 (by decide) ?_
  refine lv_iload hx hb dX9_gather_7 (lv_at hl 0 rfl) ?_
  refine lv_bipush (v := 12) hx hb dX9_gather_9 (by decide) ?_
  refine lv_icmp_ge (tgt := 43) hx hb dX9_gather_11 (by decide) (fun c_9 => absurd c_9 (by decide)) (fun _ => ?_)
  refine lv_iload_n hx hb dX9_gather_14 rfl (lv_at hl 4 rfl) ?_
  refine lv_iload hx hb dX9_gather_15 (lv_at hl 0 rfl) ?_
  refine lv_iushr (v := 15) hx hb dX9_gather_17 (by decide) ?_
  refine lv_iconst (v := 1) hx hb dX9_gather_18 (by decide) ?_
  refine lv_iand hx hb dX9_gather_19 ?_
  refine zi (y := 1) (by decide) ?_
  refine lv_if_eq (tgt := 37) hx hb dX9_gather_20 (by decide) (fun c_10 => absurd c_10 (by decide)) (fun _ => ?_)
  refine lv_iload_n hx hb dX9_gather_23 rfl (lv_at hl 2 rfl) ?_
  refine lv_iload_n hx hb dX9_gather_24 rfl (lv_at hl 3 rfl) ?_
  refine lv_iload hx hb dX9_gather_25 (lv_at hl 0 rfl) ?_
  refine lv_iushr (v := 0) hx hb dX9_gather_27 (by decide) ?_
  refine lv_iconst (v := 3) hx hb dX9_gather_28 (by decide) ?_
  refine lv_iand hx hb dX9_gather_29 ?_
  refine zi (y := 0) (by decide) ?_
  refine lv_iload_n hx hb dX9_gather_30 rfl (lv_at hl 1 rfl) ?_
  refine lv_ishl hx hb dX9_gather_31 ?_
  refine zi (y := 0) (by decide) ?_
  refine lv_ior hx hb dX9_gather_32 ?_
  refine zi (y := 0) (by decide) ?_
  refine lv_istore_n (lv' := [(2, .int 0), (4, .int 8), (3, .int 8), (0, .int 0), (1, .int 4095)]) hx hb dX9_gather_33 rfl hl (by decide) rfl (fun ls hl => ?_)
  refine lv_iinc (v := 10) (lv' := [(3, .int 10), (2, .int 0), (4, .int 8), (0, .int 0), (1, .int 4095)]) hx hb dX9_gather_34 hl (k := 2) rfl (by decide) (by decide) rfl (fun ls hl => ?_)
  refine lv_iinc (v := 10) (lv' := [(4, .int 10), (3, .int 10), (2, .int 0), (0, .int 0), (1, .int 4095)]) hx hb dX9_gather_37 hl (k := 2) rfl (by decide) (by decide) rfl (fun ls hl => ?_)
  refine lv_goto (tgt := 7) hx hb dX9_gather_40 (by decide) ?_
  refine lv_iload hx hb dX9_gather_7 (lv_at hl 0 rfl) ?_
  refine lv_bipush (v := 12) hx hb dX9_gather_9 (by decide) ?_
  refine lv_icmp_ge (tgt := 43) hx hb dX9_gather_11 (by decide) (fun c_11 => absurd c_11 (by decide)) (fun _ => ?_)
  refine lv_iload_n hx hb dX9_gather_14 rfl (lv_at hl 4 rfl) ?_
  refine lv_iload hx hb dX9_gather_15 (lv_at hl 0 rfl) ?_
  refine lv_iushr (v := 3) hx hb dX9_gather_17 (by decide) ?_
  refine lv_iconst (v := 1) hx hb dX9_gather_18 (by decide) ?_
  refine lv_iand hx hb dX9_gather_19 ?_
  refine zi (y := 1) (by decide) ?_
  refine lv_if_eq (tgt := 37) hx hb dX9_gather_20 (by decide) (fun c_12 => absurd c_12 (by decide)) (fun _ => ?_)
  refine lv_iload_n hx hb dX9_gather_23 rfl (lv_at hl 2 rfl) ?_
  refine lv_iload_n hx hb dX9_gather_24 rfl (lv_at hl 3 rfl) ?_
  refine lv_iload hx hb dX9_gather_25 (lv_at hl 0 rfl) ?_
  refine lv_iushr (v := 0) hx hb dX9_gather_27 (by decide) ?_
  refine lv_iconst (v := 3) hx hb dX9_gather_28 (by decide) ?_
  refine lv_iand hx hb dX9_gather_29 ?_
  refine zi (y := 0) (by decide) ?_
  refine lv_iload_n hx hb dX9_gather_30 rfl (lv_at hl 1 rfl) ?_
  refine lv_ishl hx hb dX9_gather_31 ?_
  refine zi (y := 0) (by decide) ?_
  refine lv_ior hx hb dX9_gather_32 ?_
  refine zi (y := 0) (by decide) ?_
  refine lv_istore_n (lv' := [(2, .int 0), (4, .int 10), (3, .int 10), (0, .int 0), (1, .int 4095)]) hx hb dX9_gather_33 rfl hl (by decide) rfl (fun ls hl => ?_)
  refine lv_iinc (v := 12) (lv' := [(3, .int 12), (2, .int 0), (4, .int 10), (0, .int 0), (1, .int 4095)]) hx hb dX9_gather_34 hl (k := 2) rfl (by decide) (by decide) rfl (fun ls hl => ?_)
  refine lv_iinc (v := 12) (lv' := [(4, .int 12), (3, .int 12), (2, .int 0), (0, .int 0), (1, .int 4095)]) hx hb dX9_gather_37 hl (k := 2) rfl (by decide) (by decide) rfl (fun ls hl => ?_)
  refine lv_goto (tgt := 7) hx hb dX9_gather_40 (by decide) ?_
  refine lv_iload hx hb dX9_gather_7 (lv_at hl 0 rfl) ?_
  refine lv_bipush (v := 12) hx hb dX9_gather_9 (by decide) ?_
  refine lv_icmp_ge (tgt := 43) hx hb dX9_gather_11 (by decide) (fun _ => ?_) (fun c_13 => absurd (by decide) c_13)
  refine lv_iload_n hx hb dX9_gather_43 rfl (lv_at hl 2 rfl) ?_
  exact W.iret (v := 0) hx hb hr (fun tt_ ht hW => ⟨_, rfl, rfl, ht⟩) (fun _ h => by cases h) dX9_gather_44
set_option maxHeartbeats 1000000 in
set_option maxRecDepth 100000 in
theorem c_following0 (l : Launch) (dC : Nat → ClassId) (dI : Nat → Nat → Nat) (cI cJ cS : ClassId)   : Met l yX9_following wsX9_following ({ frames := 0, cells := 0, slots := 0, locals := 0 }) (va_Pc [.int 0, .int 0] (PR dC dI cI cJ cS [])) (vp_Si (fun r : Int32 => r = 0)) 0 0 (fun _ => False) := by
  refine Met.ofW (cc := cX9_following) (maxL := 2) (ret := (some .int)) (by decide) rfl ?_
  intro pp_ ee_ ss_ mm_ args below meth cc_ s₁ B hml hv
  obtain ⟨rfl, hP, hE⟩ := hv
  have hx := B.exec
  have hb := B.bytes
  have hr := B.returns
  have hts := atoms_spec (ws := wsX9_following) B.pre
  have hown : ss_.vm.findClass RX9 = some mm_.cls := findClass_of_methodNamed B.named
  have hlocks := B.notSynchronized
  have hK := hE.1
  have hP : va_P (dC, dI) vwCl [] ss_.heap := hP
  have hl := lv_entry ([.int 0, .int 0]) (n := 2) (Nat.le_of_ble_eq_true rfl)
  rw [lg_entry_eq]
  generalize (lg_sl ([.int 0, .int 0]) ++ List.replicate (2 - (lg_sl ([.int 0, .int 0])).length) Slot.unset).toArray = ls at hl ⊢
  have hl : lv_has ls 2 [(0, .int 0), (1, .int 0)] := hl
  refine lv_iload_n hx hb dX9_following_0 rfl (lv_at hl 0 rfl) ?_
  refine lv_iload_n hx hb dX9_following_1 rfl (lv_at hl 1 rfl) ?_
  refine lv_iconst (v := (-1)) hx hb dX9_following_2 (by decide) ?_
  refine lv_ixor hx hb dX9_following_3 ?_
  refine zi (y := (-1)) (by decide) ?_
  refine lv_ior hx hb dX9_following_4 ?_
  refine zi (y := (-1)) (by decide) ?_
  refine lv_iconst (v := 1) hx hb dX9_following_5 (by decide) ?_
  refine lv_iadd hx hb dX9_following_6 ?_
  refine zi (y := 0) (by decide) ?_
  refine lv_iload_n hx hb dX9_following_7 rfl (lv_at hl 1 rfl) ?_
  refine lv_iand hx hb dX9_following_8 ?_
  refine zi (y := 0) (by decide) ?_
  exact W.iret (v := 0) hx hb hr (fun tt_ ht hW => ⟨_, rfl, rfl, ht⟩) (fun _ h => by cases h) dX9_following_9
set_option maxHeartbeats 1000000 in
set_option maxRecDepth 100000 in
theorem c_isWithin0 (l : Launch) (dC : Nat → ClassId) (dI : Nat → Nat → Nat) (cI cJ cS : ClassId) (w : Int32)  : Met l yX9_isWithin wsX9_isWithin ({ frames := 0, cells := 0, slots := 0, locals := 0 }) (va_Pc [.int 0, .int w] (PR dC dI cI cJ cS [])) (vp_Si (fun r : Int32 => r = 1)) 0 0 (fun _ => False) := by
  refine Met.ofW (cc := cX9_isWithin) (maxL := 2) (ret := (some .boolean)) (by decide) rfl ?_
  intro pp_ ee_ ss_ mm_ args below meth cc_ s₁ B hml hv
  obtain ⟨rfl, hP, hE⟩ := hv
  have hx := B.exec
  have hb := B.bytes
  have hr := B.returns
  have hts := atoms_spec (ws := wsX9_isWithin) B.pre
  have hown : ss_.vm.findClass RX9 = some mm_.cls := findClass_of_methodNamed B.named
  have hlocks := B.notSynchronized
  have hK := hE.1
  have hP : va_P (dC, dI) vwCl [] ss_.heap := hP
  have hl := lv_entry ([.int 0, .int w]) (n := 2) (Nat.le_of_ble_eq_true rfl)
  rw [lg_entry_eq]
  generalize (lg_sl ([.int 0, .int w]) ++ List.replicate (2 - (lg_sl ([.int 0, .int w])).length) Slot.unset).toArray = ls at hl ⊢
  have hl : lv_has ls 2 [(0, .int 0), (1, .int w)] := hl
  refine lv_iload_n hx hb dX9_isWithin_0 rfl (lv_at hl 0 rfl) ?_
  refine lv_iload_n hx hb dX9_isWithin_1 rfl (lv_at hl 1 rfl) ?_
  refine lv_iconst (v := (-1)) hx hb dX9_isWithin_2 (by decide) ?_
  refine lv_ixor hx hb dX9_isWithin_3 ?_
  refine lv_iand hx hb dX9_isWithin_4 ?_
  refine zi (y := 0) (Int32.zero_and) ?_
  refine lv_if_ne (tgt := 12) hx hb dX9_isWithin_5 (by decide) (fun c_1 => absurd (by decide) c_1) (fun _ => ?_)
  refine lv_iconst (v := 1) hx hb dX9_isWithin_8 (by decide) ?_
  refine lv_goto (tgt := 13) hx hb dX9_isWithin_9 (by decide) ?_
  exact W.zret (v := 1) hx hb hr (by decide) (fun tt_ ht hW => ⟨_, rfl, rfl, ht⟩) (fun _ h => by cases h) dX9_isWithin_13
