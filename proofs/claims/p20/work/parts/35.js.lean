/-! the constant text of signs, and where a sign stands in it -/
def jsB : List Int32 := [61, 59, 123, 125, 43, 45, 42, 38, 33, 40, 41, 60]
def JSt (aK aV : Nat) (A : Nat → Prop) (U : State) (H : Heap) : Prop := vk_S 1 [12] [jsB] (fun _ => aK) (fun _ => aV) A U H ∧ va_Z "java/lang/String" "COMPACT_STRINGS" "Z" (.int 1) A U H
theorem JSt.moved {aK aV : Nat} {A : Nat → Prop} {u U : State} {H : Heap} (hvm : u.vm.Alike U.vm) (h : JSt aK aV A u H) : JSt aK aV A U H := ⟨vk_S.moved hvm h.1, va_Z.moved hvm h.2⟩
theorem JSt.kept {aK aV : Nat} {A : Nat → Prop} {U : State} {H H1 : Heap} (h : JSt aK aV A U H) (hq : ∀ a : Nat, a < H.size → ¬ A a → H1[a]? = H[a]?) : JSt aK aV A U H1 := ⟨h.1.kept hq, h.2.kept hq⟩
theorem JSt.narrow {aK aV : Nat} {A B : Nat → Prop} {U : State} {H : Heap} (h : JSt aK aV A U H) (hAB : ∀ q, B q → A q) : JSt aK aV B U H := ⟨h.1.narrow hAB, h.2.narrow hAB⟩
def PJ (aK aV : Nat) : State → Prop := fun U => JSt aK aV (fun _ => False) U U.heap
theorem fbJ {aK aV : Nat} {av : List Value} : FrameBlind (va_Pc av (PJ aK aV)) := fun a U g mk q => ⟨q.1, JSt.moved (u := U) (U := U.calling g mk a) (Vm.Alike.refl U.vm) q.2⟩
theorem preJ {aK aV : Nat} {As : List Value} {s : State} {H : Heap} (h : JSt aK aV (fun _ => False) s H) : PreS s H (va_Pc As (PJ aK aV)) As := ⟨fbJ, fun U hU hW => ⟨rfl, by unfold PJ; rw [hU]; exact h.moved hW.alike⟩⟩
theorem JSt.recv {aK aV : Nat} {A : Nat → Prop} {s : State} {H : Heap} (h : JSt aK aV A s H) : ∃ cell : Cell, H[aK]? = some cell ∧ cell.vm.isStatics = false ∧ s.vm.findClass "java/lang/String" = some cell.cls := by
  obtain ⟨cell, h1, h2, h3, -⟩ := (h.1.1 0 (by decide)).1
  exact ⟨cell, h1, h2, h3⟩
theorem preJV {aK aV : Nat} {As : List Value} {s : State} {H : Heap} (h : JSt aK aV (fun _ => False) s H) : PreV s H "java/lang/String" aK (va_Pc (.ref aK :: As) (PJ aK aV)) As := ⟨fbJ, h.recv, (preJ (As := .ref aK :: As) h).2⟩
/-- where a byte stands in a text, from place k on -/
def ixL (b : Int32) : List Int32 → Nat → Int32
  | [], _ => -1
  | x :: t, k => if x = b then nI k else ixL b t (k + 1)
def ixS (c : Int32) : Int32 := if c < 0 then -1 else if (255 : Int32) < c then -1 else ixL c.toInt8.toInt32 jsB 0
set_option maxHeartbeats 2000000 in
set_option maxRecDepth 100000 in
theorem c_J0_isLatin1 (l : Launch) (aK aV : Nat) : Met l yJ0_isLatin1_aae02 wsJ0_isLatin1_aae02 ({ frames := 0, cells := 0, slots := 0, locals := 0 }) (va_Pc [.ref aK] (PJ aK aV)) (vp_Si (fun r : Int32 => r = 1)) 0 0 (fun _ => False) := by
  refine Met.ofW (cc := cJ0_isLatin1_aae02) (maxL := 1) (ret := (some .boolean)) (by decide) rfl ?_
  intro pp_ ee_ ss_ mm_ args below meth cc_ s₁ B hml hv
  obtain ⟨rfl, hJ⟩ := hv
  have hx := B.exec
  have hb := B.bytes
  have hr := B.returns
  have hts := atoms_spec (ws := wsJ0_isLatin1_aae02) B.pre
  have hown : ss_.vm.findClass RJ0 = some mm_.cls := findClass_of_methodNamed B.named
  have hlocks := B.notSynchronized
  have hS : va_S (fun _ => False) ss_.heap ss_.heap [] := va_S.rf
  have hl := lv_entry ([.ref aK]) (n := 1) (Nat.le_of_ble_eq_true rfl)
  rw [lg_entry_eq]
  generalize (lg_sl ([.ref aK]) ++ List.replicate (1 - (lg_sl ([.ref aK])).length) Slot.unset).toArray = ls at hl ⊢
  have hl : lv_has ls 1 [(0, .ref aK)] := hl
  refine va_gets hx hb hJ.2 hS hown (hts (.fieldLink RJ0 38 "java/lang/String" "COMPACT_STRINGS" "Z") (by decide +kernel)) (fun _ h => h) dJ0_isLatin1_aae02_0 ?_
  refine lv_if_eq (tgt := 17) hx hb dJ0_isLatin1_aae02_3 (by decide) (fun c => absurd c (by decide)) (fun _ => ?_)
  refine lv_aload_n hx hb dJ0_isLatin1_aae02_6 rfl (lv_at hl 0 rfl) ?_
  refine vk_getf hx hb (hJ.1.1 0 (by decide)).2.1 hS hown (hts (.fieldLink RJ0 15 "java/lang/String" "coder" "B") (by decide +kernel)) (fun _ h => h) dJ0_isLatin1_aae02_7 ?_
  refine lv_if_ne (tgt := 17) hx hb dJ0_isLatin1_aae02_10 (by decide) (fun c => absurd rfl c) (fun _ => ?_)
  refine lv_iconst (v := 1) hx hb dJ0_isLatin1_aae02_13 (by decide) ?_
  refine lv_goto (tgt := 18) hx hb dJ0_isLatin1_aae02_14 (by decide) ?_
  exact W.zret (v := 1) hx hb hr (by decide) (fun tt_ ht hW => ⟨_, rfl, rfl, ht⟩) (fun _ h => by cases h) dJ0_isLatin1_aae02_18
set_option maxHeartbeats 2000000 in
set_option maxRecDepth 100000 in
theorem c_J0_coder (l : Launch) (aK aV : Nat) : Met l yJ0_coder_7d493 wsJ0_coder_7d493 ({ frames := 0, cells := 0, slots := 0, locals := 0 }) (va_Pc [.ref aK] (PJ aK aV)) (vp_Si (fun r : Int32 => r = 0)) 0 0 (fun _ => False) := by
  refine Met.ofW (cc := cJ0_coder_7d493) (maxL := 1) (ret := (some .byte)) (by decide) rfl ?_
  intro pp_ ee_ ss_ mm_ args below meth cc_ s₁ B hml hv
  obtain ⟨rfl, hJ⟩ := hv
  have hx := B.exec
  have hb := B.bytes
  have hr := B.returns
  have hts := atoms_spec (ws := wsJ0_coder_7d493) B.pre
  have hown : ss_.vm.findClass RJ0 = some mm_.cls := findClass_of_methodNamed B.named
  have hlocks := B.notSynchronized
  have hS : va_S (fun _ => False) ss_.heap ss_.heap [] := va_S.rf
  have hl := lv_entry ([.ref aK]) (n := 1) (Nat.le_of_ble_eq_true rfl)
  rw [lg_entry_eq]
  generalize (lg_sl ([.ref aK]) ++ List.replicate (1 - (lg_sl ([.ref aK])).length) Slot.unset).toArray = ls at hl ⊢
  have hl : lv_has ls 1 [(0, .ref aK)] := hl
  refine va_gets hx hb hJ.2 hS hown (hts (.fieldLink RJ0 38 "java/lang/String" "COMPACT_STRINGS" "Z") (by decide +kernel)) (fun _ h => h) dJ0_coder_7d493_0 ?_
  refine lv_if_eq (tgt := 13) hx hb dJ0_coder_7d493_3 (by decide) (fun c => absurd c (by decide)) (fun _ => ?_)
  refine lv_aload_n hx hb dJ0_coder_7d493_6 rfl (lv_at hl 0 rfl) ?_
  refine vk_getf hx hb (hJ.1.1 0 (by decide)).2.1 hS hown (hts (.fieldLink RJ0 15 "java/lang/String" "coder" "B") (by decide +kernel)) (fun _ h => h) dJ0_coder_7d493_7 ?_
  refine lv_goto (tgt := 14) hx hb dJ0_coder_7d493_10 (by decide) ?_
  exact W.zret (v := 0) hx hb hr (by decide) (fun tt_ ht hW => ⟨_, rfl, rfl, ht⟩) (fun _ h => by cases h) dJ0_coder_7d493_14
set_option maxHeartbeats 2000000 in
set_option maxRecDepth 100000 in
theorem c_J0_length (l : Launch) (aK aV : Nat) : Met l yJ0_length_8abf5 wsJ0_length_8abf5 ({ frames := 1, cells := 0, slots := 0, locals := 20 }) (va_Pc [.ref aK] (PJ aK aV)) (vp_Si (fun r : Int32 => r = 12)) 0 0 (fun _ => False) := by
  refine Met.ofW (cc := cJ0_length_8abf5) (maxL := 1) (ret := (some .int)) (by decide) rfl ?_
  intro pp_ ee_ ss_ mm_ args below meth cc_ s₁ B hml hv
  obtain ⟨rfl, hJ⟩ := hv
  have hx := B.exec
  have hb := B.bytes
  have hr := B.returns
  have hts := atoms_spec (ws := wsJ0_length_8abf5) B.pre
  have hown : ss_.vm.findClass RJ0 = some mm_.cls := findClass_of_methodNamed B.named
  have hlocks := B.notSynchronized
  have hS : va_S (fun _ => False) ss_.heap ss_.heap [] := va_S.rf
  have hl := lv_entry ([.ref aK]) (n := 1) (Nat.le_of_ble_eq_true rfl)
  rw [lg_entry_eq]
  generalize (lg_sl ([.ref aK]) ++ List.replicate (1 - (lg_sl ([.ref aK])).length) Slot.unset).toArray = ls at hl ⊢
  have hl : lv_has ls 1 [(0, .ref aK)] := hl
  refine lv_aload_n hx hb dJ0_length_8abf5_0 rfl (lv_at hl 0 rfl) ?_
  refine vk_getf hx hb (hJ.1.1 0 (by decide)).2.2.1 hS hown (hts (.fieldLink RJ0 9 "java/lang/String" "value" "[B") (by decide +kernel)) (fun _ h => h) dJ0_length_8abf5_1 ?_
  refine va_tlen hx hb (hJ.1.1 0 (by decide)).2.2.2 hS (v := 12) (by decide) dJ0_length_8abf5_4 ?_
  refine lv_aload_n hx hb dJ0_length_8abf5_5 rfl (lv_at hl 0 rfl) ?_
  refine vp_callSi (va_Run.run (va_runV (As := []) (rest := [.int 12]) ⟨hx, hb, hml, hown, hts⟩ (c_J0_coder l aK aV) (cwV 0 hts gJ0_length_8abf5_J0_coder_7d493 rfl rfl rfl (by decide +kernel) ⟨Nat.le_of_ble_eq_true rfl, Nat.le_of_ble_eq_true rfl⟩) (preJV hJ) rfl rfl hl.1 rfl (lv_room (Nat.le_of_ble_eq_true rfl)) dJ0_length_8abf5_6 ⟨by decide +kernel, by decide +kernel⟩)) (fun r_1 hr_1 => ?_)
  subst hr_1
  refine lv_ishr hx hb dJ0_length_8abf5_9 ?_
  exact W.iret (v := 12) hx hb hr (fun tt_ ht hW => ⟨_, rfl, rfl, ht⟩) (fun _ h => by cases h) dJ0_length_8abf5_10
set_option maxHeartbeats 2000000 in
set_option maxRecDepth 100000 in
theorem c_J1_canEncode (l : Launch) (aK aV : Nat) (c : Int32) : Met l yJ1_canEncode_9a6ad wsJ1_canEncode_9a6ad ({ frames := 0, cells := 0, slots := 0, locals := 0 }) (va_Pc [.int c] (PJ aK aV)) (vp_Si (fun r : Int32 => r = (if c < 0 then 0 else if (255 : Int32) < c then 0 else 1))) 0 0 (fun _ => False) := by
  refine Met.ofW (cc := cJ1_canEncode_9a6ad) (maxL := 1) (ret := (some .boolean)) (by decide) rfl ?_
  intro pp_ ee_ ss_ mm_ args below meth cc_ s₁ B hml hv
  obtain ⟨rfl, hJ⟩ := hv
  have hx := B.exec
  have hb := B.bytes
  have hr := B.returns
  have hts := atoms_spec (ws := wsJ1_canEncode_9a6ad) B.pre
  have hown : ss_.vm.findClass RJ1 = some mm_.cls := findClass_of_methodNamed B.named
  have hlocks := B.notSynchronized
  have hS : va_S (fun _ => False) ss_.heap ss_.heap [] := va_S.rf
  have hl := lv_entry ([.int c]) (n := 1) (Nat.le_of_ble_eq_true rfl)
  rw [lg_entry_eq]
  generalize (lg_sl ([.int c]) ++ List.replicate (1 - (lg_sl ([.int c])).length) Slot.unset).toArray = ls at hl ⊢
  have hl : lv_has ls 1 [(0, .int c)] := hl
  refine lv_iload_n hx hb dJ1_canEncode_9a6ad_0 rfl (lv_at hl 0 rfl) ?_
  refine lv_if_lt (tgt := 15) hx hb dJ1_canEncode_9a6ad_1 (by decide) (fun c1 => ?_) (fun c1 => ?_)
  · refine lv_iconst (v := 0) hx hb dJ1_canEncode_9a6ad_15 (by decide) ?_
    exact W.zret (v := 0) hx hb hr (by decide) (fun tt_ ht hW => ⟨_, rfl, by rw [if_pos c1], ht⟩) (fun _ h => by cases h) dJ1_canEncode_9a6ad_16
  refine lv_iload_n hx hb dJ1_canEncode_9a6ad_4 rfl (lv_at hl 0 rfl) ?_
  refine lv_sipush (v := 255) hx hb dJ1_canEncode_9a6ad_5 (by decide) ?_
  refine lv_icmp_gt (tgt := 15) hx hb dJ1_canEncode_9a6ad_8 (by decide) (fun c2 => ?_) (fun c2 => ?_)
  · refine lv_iconst (v := 0) hx hb dJ1_canEncode_9a6ad_15 (by decide) ?_
    exact W.zret (v := 0) hx hb hr (by decide) (fun tt_ ht hW => ⟨_, rfl, by rw [if_neg c1, if_pos c2], ht⟩) (fun _ h => by cases h) dJ1_canEncode_9a6ad_16
  refine lv_iconst (v := 1) hx hb dJ1_canEncode_9a6ad_11 (by decide) ?_
  refine lv_goto (tgt := 16) hx hb dJ1_canEncode_9a6ad_12 (by decide) ?_
  exact W.zret (v := 1) hx hb hr (by decide) (fun tt_ ht hW => ⟨_, rfl, by rw [if_neg c1, if_neg c2], ht⟩) (fun _ h => by cases h) dJ1_canEncode_9a6ad_16
set_option maxHeartbeats 2000000 in
set_option maxRecDepth 100000 in
theorem c_J1_indexOfChar (l : Launch) (aK aV : Nat) (c : Int32) : Met l yJ1_indexOfChar_4cfef wsJ1_indexOfChar_4cfef ({ frames := 0, cells := 0, slots := 0, locals := 0 }) (va_Pc [.ref aV, .int c, .int 0, .int 12] (PJ aK aV)) (vp_Si (fun r : Int32 => r = ixL c.toInt8.toInt32 jsB 0)) 0 0 (fun _ => False) := by
  refine Met.ofW (cc := cJ1_indexOfChar_4cfef) (maxL := 6) (ret := (some .int)) (by decide) rfl ?_
  intro pp_ ee_ ss_ mm_ args below meth cc_ s₁ B hml hv
  obtain ⟨rfl, hJ⟩ := hv
  have hx := B.exec
  have hb := B.bytes
  have hr := B.returns
  have hts := atoms_spec (ws := wsJ1_indexOfChar_4cfef) B.pre
  have hown : ss_.vm.findClass RJ1 = some mm_.cls := findClass_of_methodNamed B.named
  have hlocks := B.notSynchronized
  have hS : va_S (fun _ => False) ss_.heap ss_.heap [] := va_S.rf
  have hl := lv_entry ([.ref aV, .int c, .int 0, .int 12]) (n := 6) (Nat.le_of_ble_eq_true rfl)
  rw [lg_entry_eq]
  generalize (lg_sl ([.ref aV, .int c, .int 0, .int 12]) ++ List.replicate (6 - (lg_sl ([.ref aV, .int c, .int 0, .int 12])).length) Slot.unset).toArray = ls at hl ⊢
  have hl : lv_has ls 6 [(0, .ref aV), (1, .int c), (2, .int 0), (3, .int 12)] := hl
  refine lv_iload_n hx hb dJ1_indexOfChar_4cfef_0 rfl (lv_at hl 1 rfl) ?_
  refine lv_i2b hx hb dJ1_indexOfChar_4cfef_1 rfl ?_
  generalize hbb : c.toInt8.toInt32 = b
  refine lv_istore (lv' := [(4, .int b), (0, .ref aV), (1, .int c), (2, .int 0), (3, .int 12)]) hx hb dJ1_indexOfChar_4cfef_2 hl (by decide) rfl (fun ls hl => ?_)
  refine lv_iload_n hx hb dJ1_indexOfChar_4cfef_4 rfl (lv_at hl 3 rfl) ?_
  refine lv_istore (lv' := [(5, .int (nI 0)), (4, .int b), (0, .ref aV), (1, .int c), (2, .int 0), (3, .int 12)]) hx hb dJ1_indexOfChar_4cfef_5 hl (by decide) rfl (fun ls hl => ?_)
  have key : ∀ (n k : Nat), k + n = 12 → ∀ ls : Array Slot, lv_has ls 6 [(5, .int (nI k)), (4, .int b), (0, .ref aV), (1, .int c), (2, .int 0), (3, .int 12)] → W pp_ l ee_ (headSpec wsJ1_indexOfChar_4cfef ({ frames := 0, cells := 0, slots := 0, locals := 0 })).room ss_ mm_ #[.ref aV, .int c, .int 0, .int 12] below meth cc_ ss_.heap [] 0 0 (MQ below (vp_Si (fun r : Int32 => r = ixL b (jsB.drop k) k)) #[.ref aV, .int c, .int 0, .int 12] ss_ 0 0 (fun _ => False)) (F0 mm_ 7 ls []) := by
    intro n
    induction n with
    | zero =>
      intro k hk ls hl
      obtain rfl : k = 12 := by omega
      refine lv_iload hx hb dJ1_indexOfChar_4cfef_7 (lv_at hl 0 rfl) ?_
      refine lv_iload_n hx hb dJ1_indexOfChar_4cfef_9 rfl (lv_at hl 5 rfl) ?_
      refine lv_icmp_ge (tgt := 31) hx hb dJ1_indexOfChar_4cfef_10 (by decide) (fun _ => ?_) (fun c1 => absurd (by decide) c1)
      refine lv_iconst (v := -1) hx hb dJ1_indexOfChar_4cfef_31 (by decide) ?_
      exact W.iret (v := -1) hx hb hr (fun tt_ ht hW => ⟨_, rfl, rfl, ht⟩) (fun _ h => by cases h) dJ1_indexOfChar_4cfef_32
    | succ n ih =>
      intro k hk ls hl
      have hk12 : k < 12 := by omega
      refine lv_iload hx hb dJ1_indexOfChar_4cfef_7 (lv_at hl 0 rfl) ?_
      refine lv_iload_n hx hb dJ1_indexOfChar_4cfef_9 rfl (lv_at hl 5 rfl) ?_
      have hlt : nI k < 12 := by have := nI_toInt (n := k) (by omega); rw [Int32.lt_iff_toInt_lt, this]; show (k : Int) < 12; omega
      refine lv_icmp_ge (tgt := 31) hx hb dJ1_indexOfChar_4cfef_10 (by decide) (fun c1 => absurd hlt (Int32.not_lt.mpr c1)) (fun _ => ?_)
      refine lv_aload_n hx hb dJ1_indexOfChar_4cfef_13 rfl (lv_at hl 2 rfl) ?_
      refine lv_iload hx hb dJ1_indexOfChar_4cfef_14 (lv_at hl 0 rfl) ?_
      have hin : vp_in (nI k) 12 := by rw [vp_in_iff, nI_toInt (n := k) (by omega)]; omega
      have hck : (nI k).toNatClampNeg = k := by have := nI_toInt (n := k) (by omega); show (nI k).toInt.toNat = k; rw [this]; omega
      refine va_tb hx hb (hJ.1.1 0 (by decide)).2.2.2 hS hin (v := .int (jsB.getD k 0)) (by rw [hck]; rfl) dJ1_indexOfChar_4cfef_16 ?_
      refine lv_iload hx hb dJ1_indexOfChar_4cfef_17 (lv_at hl 1 rfl) ?_
      have hdr : jsB.drop k = jsB.getD k 0 :: jsB.drop (k + 1) := by
        have : k = 0 ∨ k = 1 ∨ k = 2 ∨ k = 3 ∨ k = 4 ∨ k = 5 ∨ k = 6 ∨ k = 7 ∨ k = 8 ∨ k = 9 ∨ k = 10 ∨ k = 11 := by omega
        rcases this with rfl | rfl | rfl | rfl | rfl | rfl | rfl | rfl | rfl | rfl | rfl | rfl <;> rfl
      rw [hdr]
      generalize jsB.getD k 0 = z
      refine lv_icmp_ne (tgt := 25) hx hb dJ1_indexOfChar_4cfef_19 (by decide) (fun c2 => ?_) (fun c2 => ?_)
      · refine lv_iinc (v := nI (k + 1)) (lv' := [(5, .int (nI (k + 1))), (4, .int b), (0, .ref aV), (1, .int c), (2, .int 0), (3, .int 12)]) hx hb dJ1_indexOfChar_4cfef_25 hl (k := 0) rfl (by rw [show nI (k + 1) = nI k + 1 from nI_succ k]; rfl) (by decide) rfl (fun ls hl => ?_)
        refine lv_goto (tgt := 7) hx hb dJ1_indexOfChar_4cfef_28 (by decide) ?_
        have := ih (k + 1) (by omega) ls hl
        simp only [ixL]
        rw [if_neg c2]
        exact this
      · refine lv_iload hx hb dJ1_indexOfChar_4cfef_22 (lv_at hl 0 rfl) ?_
        simp only [ixL]
        rw [if_pos c2]
        exact W.iret (v := nI k) hx hb hr (fun tt_ ht hW => ⟨_, rfl, rfl, ht⟩) (fun _ h => by cases h) dJ1_indexOfChar_4cfef_24
  exact key 12 0 rfl ls hl
set_option maxHeartbeats 2000000 in
set_option maxRecDepth 100000 in
theorem c_J1_indexOf (l : Launch) (aK aV : Nat) (c : Int32) : Met l yJ1_indexOf_4cfef wsJ1_indexOf_4cfef ({ frames := 1, cells := 0, slots := 0, locals := 30 }) (va_Pc [.ref aV, .int c, .int 0, .int 12] (PJ aK aV)) (vp_Si (fun r : Int32 => r = ixS c)) 0 0 (fun _ => False) := by
  refine Met.ofW (cc := cJ1_indexOf_4cfef) (maxL := 4) (ret := (some .int)) (by decide) rfl ?_
  intro pp_ ee_ ss_ mm_ args below meth cc_ s₁ B hml hv
  obtain ⟨rfl, hJ⟩ := hv
  have hx := B.exec
  have hb := B.bytes
  have hr := B.returns
  have hts := atoms_spec (ws := wsJ1_indexOf_4cfef) B.pre
  have hown : ss_.vm.findClass RJ1 = some mm_.cls := findClass_of_methodNamed B.named
  have hlocks := B.notSynchronized
  have hS : va_S (fun _ => False) ss_.heap ss_.heap [] := va_S.rf
  have hl := lv_entry ([.ref aV, .int c, .int 0, .int 12]) (n := 4) (Nat.le_of_ble_eq_true rfl)
  rw [lg_entry_eq]
  generalize (lg_sl ([.ref aV, .int c, .int 0, .int 12]) ++ List.replicate (4 - (lg_sl ([.ref aV, .int c, .int 0, .int 12])).length) Slot.unset).toArray = ls at hl ⊢
  have hl : lv_has ls 4 [(0, .ref aV), (1, .int c), (2, .int 0), (3, .int 12)] := hl
  refine lv_iload_n hx hb dJ1_indexOf_4cfef_0 rfl (lv_at hl 1 rfl) ?_
  refine vp_callSi (va_Run.run (va_runS (As := [.int c]) (rest := []) ⟨hx, hb, hml, hown, hts⟩ (c_J1_canEncode l aK aV c) (va_cwS 1 hts gJ1_indexOf_4cfef_J1_canEncode_9a6ad rfl rfl rfl (by decide +kernel) ⟨Nat.le_of_ble_eq_true rfl, Nat.le_of_ble_eq_true rfl⟩) (preJ hJ) rfl rfl hl.1 rfl (lv_room (Nat.le_of_ble_eq_true rfl)) dJ1_indexOf_4cfef_1 ⟨by decide +kernel, by decide +kernel⟩)) (fun r_1 hr_1 => ?_)
  refine lv_if_ne (tgt := 9) hx hb dJ1_indexOf_4cfef_4 (by decide) (fun c1 => ?_) (fun c1 => ?_)
  rotate_left
  · refine lv_iconst (v := -1) hx hb dJ1_indexOf_4cfef_7 (by decide) ?_
    refine W.iret (v := -1) hx hb hr (fun tt_ ht hW => ⟨_, rfl, ?_, ht⟩) (fun _ h => by cases h) dJ1_indexOf_4cfef_8
    unfold ixS
    rw [hr_1] at c1
    by_cases h1 : c < 0
    · rw [if_pos h1]
    · rw [if_neg h1] at c1 ⊢
      by_cases h2 : (255 : Int32) < c
      · rw [if_pos h2]
      · rw [if_neg h2] at c1; exact absurd c1 (by decide)
  have hpost : ixS c = ixL c.toInt8.toInt32 jsB 0 := by
    unfold ixS
    rw [hr_1] at c1
    by_cases h1 : c < 0
    · rw [if_pos h1] at c1; exact absurd rfl c1
    · rw [if_neg h1] at c1 ⊢
      by_cases h2 : (255 : Int32) < c
      · rw [if_pos h2] at c1; exact absurd rfl c1
      · rw [if_neg h2]
  rw [hpost]
  refine lv_iload_n hx hb dJ1_indexOf_4cfef_9 rfl (lv_at hl 2 rfl) ?_
  refine lv_iconst (v := 0) hx hb dJ1_indexOf_4cfef_10 (by decide) ?_
  refine va_mmax hx hb (hml.trans hl.1.symm) hown (hts (.methodLink RJ1 92 Lib.Math.max.name) (by decide +kernel)) (hts (.static Lib.Math.max.name) (by decide +kernel)) (hts (.initialized "java/lang/Math") (by decide +kernel)) (hts (.code Lib.Math.max.name Lib.Math.max.code 2 (some .int)) (by decide +kernel)) (Nat.le_of_ble_eq_true rfl) (Nat.le_of_ble_eq_true rfl) (Nat.le_of_ble_eq_true rfl) (Nat.le_of_ble_eq_true rfl) dJ1_indexOf_4cfef_11 ?_
  refine zi (y := 0) (by decide) ?_
  refine lv_istore_n (lv' := [(2, .int 0), (0, .ref aV), (1, .int c), (3, .int 12)]) hx hb dJ1_indexOf_4cfef_14 rfl hl (by decide) rfl (fun ls hl => ?_)
  refine lv_iload_n hx hb dJ1_indexOf_4cfef_15 rfl (lv_at hl 3 rfl) ?_
  refine lv_aload_n hx hb dJ1_indexOf_4cfef_16 rfl (lv_at hl 1 rfl) ?_
  refine va_tlen hx hb (hJ.1.1 0 (by decide)).2.2.2 hS (v := 12) (by decide) dJ1_indexOf_4cfef_17 ?_
  refine va_mmin hx hb (hml.trans hl.1.symm) hown (hts (.methodLink RJ1 38 Lib.Math.min.name) (by decide +kernel)) (hts (.static Lib.Math.min.name) (by decide +kernel)) (hts (.initialized "java/lang/Math") (by decide +kernel)) (hts (.code Lib.Math.min.name Lib.Math.min.code 2 (some .int)) (by decide +kernel)) (Nat.le_of_ble_eq_true rfl) (Nat.le_of_ble_eq_true rfl) (Nat.le_of_ble_eq_true rfl) (Nat.le_of_ble_eq_true rfl) dJ1_indexOf_4cfef_18 ?_
  refine zi (y := 12) (by decide) ?_
  refine lv_istore_n (lv' := [(3, .int 12), (2, .int 0), (0, .ref aV), (1, .int c)]) hx hb dJ1_indexOf_4cfef_21 rfl hl (by decide) rfl (fun ls hl => ?_)
  refine lv_iload_n hx hb dJ1_indexOf_4cfef_22 rfl (lv_at hl 1 rfl) ?_
  refine lv_iload_n hx hb dJ1_indexOf_4cfef_23 rfl (lv_at hl 0 rfl) ?_
  refine lv_icmp_lt (tgt := 29) hx hb dJ1_indexOf_4cfef_24 (by decide) (fun _ => ?_) (fun c2 => absurd (by decide) c2)
  refine lv_aload_n hx hb dJ1_indexOf_4cfef_29 rfl (lv_at hl 2 rfl) ?_
  refine lv_iload_n hx hb dJ1_indexOf_4cfef_30 rfl (lv_at hl 3 rfl) ?_
  refine lv_iload_n hx hb dJ1_indexOf_4cfef_31 rfl (lv_at hl 1 rfl) ?_
  refine lv_iload_n hx hb dJ1_indexOf_4cfef_32 rfl (lv_at hl 0 rfl) ?_
  refine vp_callSi (va_Run.run (va_runS (As := [.ref aV, .int c, .int 0, .int 12]) (rest := []) ⟨hx, hb, hml, hown, hts⟩ (c_J1_indexOfChar l aK aV c) (va_cwS 4 hts gJ1_indexOf_4cfef_J1_indexOfChar_4cfef rfl rfl rfl (by decide +kernel) ⟨Nat.le_of_ble_eq_true rfl, Nat.le_of_ble_eq_true rfl⟩) (preJ hJ) rfl rfl hl.1 rfl (lv_room (Nat.le_of_ble_eq_true rfl)) dJ1_indexOf_4cfef_33 ⟨by decide +kernel, by decide +kernel⟩)) (fun r_2 hr_2 => ?_)
  exact W.iret (v := r_2) hx hb hr (fun tt_ ht hW => ⟨_, rfl, hr_2, ht⟩) (fun _ h => by cases h) dJ1_indexOf_4cfef_36
set_option maxHeartbeats 2000000 in
set_option maxRecDepth 100000 in
theorem c_J0_indexOf2 (l : Launch) (aK aV : Nat) (c : Int32) : Met l yJ0_indexOf_7cf53 wsJ0_indexOf_7cf53 ({ frames := 2, cells := 0, slots := 0, locals := 60 }) (va_Pc [.ref aK, .int c, .int 0] (PJ aK aV)) (vp_Si (fun r : Int32 => r = ixS c)) 0 0 (fun _ => False) := by
  refine Met.ofW (cc := cJ0_indexOf_7cf53) (maxL := 3) (ret := (some .int)) (by decide) rfl ?_
  intro pp_ ee_ ss_ mm_ args below meth cc_ s₁ B hml hv
  obtain ⟨rfl, hJ⟩ := hv
  have hx := B.exec
  have hb := B.bytes
  have hr := B.returns
  have hts := atoms_spec (ws := wsJ0_indexOf_7cf53) B.pre
  have hown : ss_.vm.findClass RJ0 = some mm_.cls := findClass_of_methodNamed B.named
  have hlocks := B.notSynchronized
  have hS : va_S (fun _ => False) ss_.heap ss_.heap [] := va_S.rf
  have hl := lv_entry ([.ref aK, .int c, .int 0]) (n := 3) (Nat.le_of_ble_eq_true rfl)
  rw [lg_entry_eq]
  generalize (lg_sl ([.ref aK, .int c, .int 0]) ++ List.replicate (3 - (lg_sl ([.ref aK, .int c, .int 0])).length) Slot.unset).toArray = ls at hl ⊢
  have hl : lv_has ls 3 [(0, .ref aK), (1, .int c), (2, .int 0)] := hl
  refine lv_aload_n hx hb dJ0_indexOf_7cf53_0 rfl (lv_at hl 0 rfl) ?_
  refine vp_callSi (va_Run.run (va_runV (As := []) (rest := []) ⟨hx, hb, hml, hown, hts⟩ (c_J0_isLatin1 l aK aV) (cwV 0 hts gJ0_indexOf_7cf53_J0_isLatin1_aae02 rfl rfl rfl (by decide +kernel) ⟨Nat.le_of_ble_eq_true rfl, Nat.le_of_ble_eq_true rfl⟩) (preJV hJ) rfl rfl hl.1 rfl (lv_room (Nat.le_of_ble_eq_true rfl)) dJ0_indexOf_7cf53_1 ⟨by decide +kernel, by decide +kernel⟩)) (fun r_1 hr_1 => ?_)
  subst hr_1
  refine lv_if_eq (tgt := 23) hx hb dJ0_indexOf_7cf53_4 (by decide) (fun c1 => absurd c1 (by decide)) (fun _ => ?_)
  refine lv_aload_n hx hb dJ0_indexOf_7cf53_7 rfl (lv_at hl 0 rfl) ?_
  refine vk_getf hx hb (hJ.1.1 0 (by decide)).2.2.1 hS hown (hts (.fieldLink RJ0 9 "java/lang/String" "value" "[B") (by decide +kernel)) (fun _ h => h) dJ0_indexOf_7cf53_8 ?_
  refine lv_iload_n hx hb dJ0_indexOf_7cf53_11 rfl (lv_at hl 1 rfl) ?_
  refine lv_iload_n hx hb dJ0_indexOf_7cf53_12 rfl (lv_at hl 2 rfl) ?_
  refine lv_aload_n hx hb dJ0_indexOf_7cf53_13 rfl (lv_at hl 0 rfl) ?_
  refine vp_callSi (va_Run.run (va_runV (As := []) (rest := [.int 0, .int c, .ref aV]) ⟨hx, hb, hml, hown, hts⟩ (c_J0_length l aK aV) (cwV 0 hts gJ0_indexOf_7cf53_J0_length_8abf5 rfl rfl rfl (by decide +kernel) ⟨Nat.le_of_ble_eq_true rfl, Nat.le_of_ble_eq_true rfl⟩) (preJV hJ) rfl rfl hl.1 rfl (lv_room (Nat.le_of_ble_eq_true rfl)) dJ0_indexOf_7cf53_14 ⟨by decide +kernel, by decide +kernel⟩)) (fun r_2 hr_2 => ?_)
  subst hr_2
  refine vp_callSi (va_Run.run (va_runS (As := [.ref aV, .int c, .int 0, .int 12]) (rest := []) ⟨hx, hb, hml, hown, hts⟩ (c_J1_indexOf l aK aV c) (va_cwS 4 hts gJ0_indexOf_7cf53_J1_indexOf_4cfef rfl rfl rfl (by decide +kernel) ⟨Nat.le_of_ble_eq_true rfl, Nat.le_of_ble_eq_true rfl⟩) (preJ hJ) rfl rfl hl.1 rfl (lv_room (Nat.le_of_ble_eq_true rfl)) dJ0_indexOf_7cf53_17 ⟨by decide +kernel, by decide +kernel⟩)) (fun r_3 hr_3 => ?_)
  refine lv_goto (tgt := 36) hx hb dJ0_indexOf_7cf53_20 (by decide) ?_
  exact W.iret (v := r_3) hx hb hr (fun tt_ ht hW => ⟨_, rfl, hr_3, ht⟩) (fun _ h => by cases h) dJ0_indexOf_7cf53_36
set_option maxHeartbeats 2000000 in
set_option maxRecDepth 100000 in
theorem c_J0_indexOf (l : Launch) (aK aV : Nat) (c : Int32) : Met l yJ0_indexOf_0f7a4 wsJ0_indexOf_0f7a4 ({ frames := 3, cells := 0, slots := 0, locals := 90 }) (va_Pc [.ref aK, .int c] (PJ aK aV)) (vp_Si (fun r : Int32 => r = ixS c)) 0 0 (fun _ => False) := by
  refine Met.ofW (cc := cJ0_indexOf_0f7a4) (maxL := 2) (ret := (some .int)) (by decide) rfl ?_
  intro pp_ ee_ ss_ mm_ args below meth cc_ s₁ B hml hv
  obtain ⟨rfl, hJ⟩ := hv
  have hx := B.exec
  have hb := B.bytes
  have hr := B.returns
  have hts := atoms_spec (ws := wsJ0_indexOf_0f7a4) B.pre
  have hown : ss_.vm.findClass RJ0 = some mm_.cls := findClass_of_methodNamed B.named
  have hlocks := B.notSynchronized
  have hS : va_S (fun _ => False) ss_.heap ss_.heap [] := va_S.rf
  have hl := lv_entry ([.ref aK, .int c]) (n := 2) (Nat.le_of_ble_eq_true rfl)
  rw [lg_entry_eq]
  generalize (lg_sl ([.ref aK, .int c]) ++ List.replicate (2 - (lg_sl ([.ref aK, .int c])).length) Slot.unset).toArray = ls at hl ⊢
  have hl : lv_has ls 2 [(0, .ref aK), (1, .int c)] := hl
  refine lv_aload_n hx hb dJ0_indexOf_0f7a4_0 rfl (lv_at hl 0 rfl) ?_
  refine lv_iload_n hx hb dJ0_indexOf_0f7a4_1 rfl (lv_at hl 1 rfl) ?_
  refine lv_iconst (v := 0) hx hb dJ0_indexOf_0f7a4_2 (by decide) ?_
  refine vp_callSi (va_Run.run (va_runV (As := [.int c, .int 0]) (rest := []) ⟨hx, hb, hml, hown, hts⟩ (c_J0_indexOf2 l aK aV c) (cwV 2 hts gJ0_indexOf_0f7a4_J0_indexOf_7cf53 rfl rfl rfl (by decide +kernel) ⟨Nat.le_of_ble_eq_true rfl, Nat.le_of_ble_eq_true rfl⟩) (preJV hJ) rfl rfl hl.1 rfl (lv_room (Nat.le_of_ble_eq_true rfl)) dJ0_indexOf_0f7a4_3 ⟨by decide +kernel, by decide +kernel⟩)) (fun r_1 hr_1 => ?_)
  exact W.iret (v := r_1) hx hb hr (fun tt_ ht hW => ⟨_, rfl, hr_1, ht⟩) (fun _ h => by cases h) dJ0_indexOf_0f7a4_6
