set_option maxHeartbeats 1000000 in
set_option maxRecDepth 100000 in
theorem c_isSafe0 (l : Launch) (dC : Nat → ClassId) (dI : Nat → Nat → Nat) (cI cJ cS : ClassId) (sz : Nat) (h : Nat) (w : Int32) (x1 : Nat) (x2 : Nat) (x3 : Nat) (x4 : Nat) (x5 : Nat) (x6 : Nat) (x7 : Nat) (wm : Nat) (wt : Nat) (wv : Nat) (wk : Nat) (we : Nat) (wf : Nat) (wp : Nat) (x7s : Nat) (x7c : Nat)  : Met l yX9_isSafe wsX9_isSafe ({ frames := 3, cells := 0, slots := 0, locals := 69 }) (va_Pc [.ref h, .int w, .int 0] (PE dC dI cI cJ cS [(h, .inr (9, [.ref x1, .ref x2, .ref x3, .ref x4, .ref x5, .ref x6, .ref x7])), (x1, aI cI 6 (fun _ => 0)), (x5, .inr (8, [.ref wm, .ref wt, .ref wv, .ref wk, .int 1, .ref we, .ref wf, .int 0, .ref wp, .int 0, .long 0, .int 0, .int 0, .int 0, .int 0, .int 0, .int 0])), (x7, .inr (4, [.ref x7s, .ref x7c, .int 0, .int 0, .int 0, .int 0]))] sz)) (va_Qi (fun (r : Int32) (_ : Unit) => r = 1) (BE dC dI (va_A [(h, .inr (9, [.ref x1, .ref x2, .ref x3, .ref x4, .ref x5, .ref x6, .ref x7])), (x1, aI cI 6 (fun _ => 0)), (x5, .inr (8, [.ref wm, .ref wt, .ref wv, .ref wk, .int 1, .ref we, .ref wf, .int 0, .ref wp, .int 0, .long 0, .int 0, .int 0, .int 0, .int 0, .int 0, .int 0])), (x7, .inr (4, [.ref x7s, .ref x7c, .int 0, .int 0, .int 0, .int 0]))] sz) (fun (_ : Unit) => [(h, .inr (9, [.ref x1, .ref x2, .ref x3, .ref x4, .ref x5, .ref x6, .ref x7])), (x1, aI cI 6 (fun _ => 0)), (x7, .inr (4, [.ref x7s, .ref x7c, .int 0, .int 0, .int 0, .int 0])), (x5, .inr (8, [.ref wm, .ref wt, .ref wv, .ref wk, .int 1, .ref we, .ref wf, .int 0, .ref x7, .int (w &&& 3), .long 9007199254740991, .int 4095, .int 0, .int 0, .int 0, .int 0, .int 0]))])) (va_A [(h, .inr (9, [.ref x1, .ref x2, .ref x3, .ref x4, .ref x5, .ref x6, .ref x7])), (x1, aI cI 6 (fun _ => 0)), (x5, .inr (8, [.ref wm, .ref wt, .ref wv, .ref wk, .int 1, .ref we, .ref wf, .int 0, .ref wp, .int 0, .long 0, .int 0, .int 0, .int 0, .int 0, .int 0, .int 0])), (x7, .inr (4, [.ref x7s, .ref x7c, .int 0, .int 0, .int 0, .int 0]))] sz)) 0 0 (va_A [(h, .inr (9, [.ref x1, .ref x2, .ref x3, .ref x4, .ref x5, .ref x6, .ref x7])), (x1, aI cI 6 (fun _ => 0)), (x5, .inr (8, [.ref wm, .ref wt, .ref wv, .ref wk, .int 1, .ref we, .ref wf, .int 0, .ref wp, .int 0, .long 0, .int 0, .int 0, .int 0, .int 0, .int 0, .int 0])), (x7, .inr (4, [.ref x7s, .ref x7c, .int 0, .int 0, .int 0, .int 0]))] sz) := by
  refine Met.ofW (cc := cX9_isSafe) (maxL := 3) (ret := (some .boolean)) (by decide) rfl ?_
  intro pp_ ee_ ss_ mm_ args below meth cc_ s₁ B hml hv
  obtain ⟨rfl, hsz, hP, hE, hD0⟩ := hv
  have hx := B.exec
  have hb := B.bytes
  have hr := B.returns
  have hts := atoms_spec (ws := wsX9_isSafe) B.pre
  have hown : ss_.vm.findClass RX9 = some mm_.cls := findClass_of_methodNamed B.named
  have hlocks := B.notSynchronized
  have hK := hE.1
  have hiX9 : ∀ w ∈ wsX90, w ∈ wsX9_isSafe := by decide +kernel
  subst hsz
  have hD := hD0.self (sz := ss_.heap.size)
  generalize hAe : va_A [(h, .inr (9, [.ref x1, .ref x2, .ref x3, .ref x4, .ref x5, .ref x6, .ref x7])), (x1, aI cI 6 (fun _ => 0)), (x5, .inr (8, [.ref wm, .ref wt, .ref wv, .ref wk, .int 1, .ref we, .ref wf, .int 0, .ref wp, .int 0, .long 0, .int 0, .int 0, .int 0, .int 0, .int 0, .int 0])), (x7, .inr (4, [.ref x7s, .ref x7c, .int 0, .int 0, .int 0, .int 0]))] ss_.heap.size = A at hD ⊢
  have hA : ∀ q : Nat, ss_.heap.size ≤ q → A q := fun q h => by rw [← hAe]; exact Or.inr h
  have hS : va_S A ss_.heap ss_.heap [] := va_S.rf
  have hP : va_P (dC, dI) vwCl [(h, .inr (9, [.ref x1, .ref x2, .ref x3, .ref x4, .ref x5, .ref x6, .ref x7])), (x1, aI cI 6 (fun _ => 0)), (x5, .inr (8, [.ref wm, .ref wt, .ref wv, .ref wk, .int 1, .ref we, .ref wf, .int 0, .ref wp, .int 0, .long 0, .int 0, .int 0, .int 0, .int 0, .int 0, .int 0])), (x7, .inr (4, [.ref x7s, .ref x7c, .int 0, .int 0, .int 0, .int 0]))] ss_.heap := hP
  have hl := lv_entry ([.ref h, .int w, .int 0]) (n := 3) (Nat.le_of_ble_eq_true rfl)
  rw [lg_entry_eq]
  generalize (lg_sl ([.ref h, .int w, .int 0]) ++ List.replicate (3 - (lg_sl ([.ref h, .int w, .int 0])).length) Slot.unset).toArray = ls at hl ⊢
  have hl : lv_has ls 3 [(0, .ref h), (1, .int w), (2, .int 0)] := hl
  refine lv_aload_n hx hb dX9_isSafe_0 rfl (lv_at hl 0 rfl) ?_
  refine va_get (D := (dC, dI)) (ci := 9) (v := .ref x5) (C := RX9) (T := TX9) (N := 7) hx hb hts hiX9 hown hK hP 0 rfl rfl 4 (by decide) (hts (.fieldLink RX9 37 "WatchedPrograms" "watch" "LWatchedPrograms$Watch;") (by decide +kernel)) (fun _ h9 => h9) rfl dX9_isSafe_1 ?_
  refine lv_aload_n hx hb dX9_isSafe_4 rfl (lv_at hl 0 rfl) ?_
  refine va_get (D := (dC, dI)) (ci := 9) (v := .ref x7) (C := RX9) (T := TX9) (N := 7) hx hb hts hiX9 hown hK hP 0 rfl rfl 6 (by decide) (hts (.fieldLink RX9 51 "WatchedPrograms" "program" "LWatchedPrograms$Program;") (by decide +kernel)) (fun _ h9 => h9) rfl dX9_isSafe_5 ?_
  refine lv_iload_n hx hb dX9_isSafe_8 rfl (lv_at hl 1 rfl) ?_
  refine lv_aload_n hx hb dX9_isSafe_9 rfl (lv_at hl 0 rfl) ?_
  refine lv_iload_n hx hb dX9_isSafe_10 rfl (lv_at hl 1 rfl) ?_
  refine vp_callSi (va_Run.run (va_runV (As := [.int w]) (rest := [.int w, .ref x7, .ref x5]) ⟨hx, hb, hml, hown, hts⟩ (c_cellsWithin l dC dI cI cJ cS  h w x1 x2 x3 x4 x5 x6 x7 ) (cwV 1 hts gX9_isSafe_X9_cellsWithin rfl rfl rfl (by decide +kernel) ⟨Nat.le_of_ble_eq_true rfl, Nat.le_of_ble_eq_true rfl⟩) (preRV (hP.sub (ws' := [(h, .inr (9, [.ref x1, .ref x2, .ref x3, .ref x4, .ref x5, .ref x6, .ref x7])), (x1, aI cI 6 (fun _ => 0))]) [0, 1] rfl) hE 0 (ci := 9) rfl rfl) rfl rfl hl.1 rfl (lv_room (Nat.le_of_ble_eq_true rfl)) dX9_isSafe_11 ⟨by decide +kernel, by decide +kernel⟩)) (fun r_1 hr_2 => ?_)
  obtain rfl := hr_2
  refine lv_iload_n hx hb dX9_isSafe_14 rfl (lv_at hl 2 rfl) ?_
  have hFc := va_free (wc := [(x5, .inr (8, [.ref wm, .ref wt, .ref wv, .ref wk, .int 1, .ref we, .ref wf, .int 0, .ref wp, .int 0, .long 0, .int 0, .int 0, .int 0, .int 0, .int 0, .int 0]))]) hD hS hA [2] rfl
  refine zCv (wr := [(h, .inr (9, [.ref x1, .ref x2, .ref x3, .ref x4, .ref x5, .ref x6, .ref x7])), (x1, aI cI 6 (fun _ => 0)), (x7, .inr (4, [.ref x7s, .ref x7c, .int 0, .int 0, .int 0, .int 0]))]) hP hD hS hFc [2] [0, 1, 3] rfl rfl (by decide) (by decide) (va_runV (As := [.ref x7, .int w, .int 4095, .int 0]) (rest := []) ⟨hx, hb, hml, hown, hts⟩ (c_aim0 l dC dI cI cJ cS ss_.heap.size x5 x7 w wm wt wv wk we wf wp ) (cwV 4 hts gX9_isSafe_X8_aim rfl rfl rfl (by decide +kernel) ⟨Nat.le_of_ble_eq_true rfl, Nat.le_of_ble_eq_true rfl⟩) (preEV (hP.sub (ws' := [(x5, .inr (8, [.ref wm, .ref wt, .ref wv, .ref wk, .int 1, .ref we, .ref wf, .int 0, .ref wp, .int 0, .long 0, .int 0, .int 0, .int 0, .int 0, .int 0, .int 0]))]) [2] rfl) hE (hD.sub (ws' := [(x5, .inr (8, [.ref wm, .ref wt, .ref wv, .ref wk, .int 1, .ref we, .ref wf, .int 0, .ref wp, .int 0, .long 0, .int 0, .int 0, .int 0, .int 0, .int 0, .int 0]))]) [2] (by decide) rfl) 0 (ci := 8) rfl rfl) rfl rfl hl.1 rfl (lv_room (Nat.le_of_ble_eq_true rfl)) dX9_isSafe_15 ⟨by decide +kernel, by decide +kernel⟩) (fun u_5 H locs hr_4 hP hD hS => ?_)
  try dsimp only at hr_4
  have hP : va_P (dC, dI) vwCl [(h, .inr (9, [.ref x1, .ref x2, .ref x3, .ref x4, .ref x5, .ref x6, .ref x7])), (x1, aI cI 6 (fun _ => 0)), (x7, .inr (4, [.ref x7s, .ref x7c, .int 0, .int 0, .int 0, .int 0])), (x5, .inr (8, [.ref wm, .ref wt, .ref wv, .ref wk, .int 1, .ref we, .ref wf, .int 0, .ref x7, .int (w &&& 3), .long 9007199254740991, .int 4095, .int 0, .int 0, .int 0, .int 0, .int 0]))] H := hP
  have hD : va_D A [(h, .inr (9, [.ref x1, .ref x2, .ref x3, .ref x4, .ref x5, .ref x6, .ref x7])), (x1, aI cI 6 (fun _ => 0)), (x7, .inr (4, [.ref x7s, .ref x7c, .int 0, .int 0, .int 0, .int 0])), (x5, .inr (8, [.ref wm, .ref wt, .ref wv, .ref wk, .int 1, .ref we, .ref wf, .int 0, .ref x7, .int (w &&& 3), .long 9007199254740991, .int 4095, .int 0, .int 0, .int 0, .int 0, .int 0]))] := hD
  refine lv_aload_n hx hb dX9_isSafe_18 rfl (lv_at hl 0 rfl) ?_
  refine va_get (D := (dC, dI)) (ci := 9) (v := .ref x5) (C := RX9) (T := TX9) (N := 7) hx hb hts hiX9 hown hK hP 0 rfl rfl 4 (by decide) (hts (.fieldLink RX9 37 "WatchedPrograms" "watch" "LWatchedPrograms$Watch;") (by decide +kernel)) (fun _ h9 => h9) rfl dX9_isSafe_19 ?_
  refine lv_iconst (v := 0) hx hb dX9_isSafe_22 (by decide) ?_
  refine vp_callSi (va_Run.run (va_runV (As := [.int 0]) (rest := []) ⟨hx, hb, hml, hown, hts⟩ (c_findPair0 l dC dI cI cJ cS  x5 wm wt wv wk we wf x7 (w &&& 3) x7s x7c ) (cwV 1 hts gX9_isSafe_X8_findPair rfl rfl rfl (by decide +kernel) ⟨Nat.le_of_ble_eq_true rfl, Nat.le_of_ble_eq_true rfl⟩) (preRV (hP.sub (ws' := [(x5, .inr (8, [.ref wm, .ref wt, .ref wv, .ref wk, .int 1, .ref we, .ref wf, .int 0, .ref x7, .int (w &&& 3), .long 9007199254740991, .int 4095, .int 0, .int 0, .int 0, .int 0, .int 0])), (x7, .inr (4, [.ref x7s, .ref x7c, .int 0, .int 0, .int 0, .int 0]))]) [3, 2] rfl) hE 0 (ci := 8) rfl rfl) rfl rfl hl.1 rfl (lv_room (Nat.le_of_ble_eq_true rfl)) dX9_isSafe_23 ⟨by decide +kernel, by decide +kernel⟩)) (fun r_6 hr_7 => ?_)
  obtain rfl := hr_7
  refine lv_if_ne (tgt := 33) hx hb dX9_isSafe_26 (by decide) (fun c_8 => absurd (by decide) c_8) (fun _ => ?_)
  refine lv_iconst (v := 1) hx hb dX9_isSafe_29 (by decide) ?_
  refine lv_goto (tgt := 34) hx hb dX9_isSafe_30 (by decide) ?_
  have hP9 := hP.sub (ws' := [(h, .inr (9, [.ref x1, .ref x2, .ref x3, .ref x4, .ref x5, .ref x6, .ref x7])), (x1, aI cI 6 (fun _ => 0)), (x7, .inr (4, [.ref x7s, .ref x7c, .int 0, .int 0, .int 0, .int 0])), (x5, .inr (8, [.ref wm, .ref wt, .ref wv, .ref wk, .int 1, .ref we, .ref wf, .int 0, .ref x7, .int (w &&& 3), .long 9007199254740991, .int 4095, .int 0, .int 0, .int 0, .int 0, .int 0]))]) [0, 1, 2, 3] rfl
  have hD9 := hD.sub (ws' := [(h, .inr (9, [.ref x1, .ref x2, .ref x3, .ref x4, .ref x5, .ref x6, .ref x7])), (x1, aI cI 6 (fun _ => 0)), (x7, .inr (4, [.ref x7s, .ref x7c, .int 0, .int 0, .int 0, .int 0])), (x5, .inr (8, [.ref wm, .ref wt, .ref wv, .ref wk, .int 1, .ref we, .ref wf, .int 0, .ref x7, .int (w &&& 3), .long 9007199254740991, .int 4095, .int 0, .int 0, .int 0, .int 0, .int 0]))]) [0, 1, 2, 3] (by decide) rfl
  exact W.zret (v := 1) hx hb hr (by decide) (fun tt_ ht hW => ⟨⟨_, (), rfl, rfl, by rw [ht]; exact hP9, hD9⟩, hS.F ht⟩) hS.2.2 dX9_isSafe_34
set_option maxHeartbeats 1000000 in
set_option maxRecDepth 100000 in
theorem c_isSafe1 (l : Launch) (dC : Nat → ClassId) (dI : Nat → Nat → Nat) (cI cJ cS : ClassId) (sz : Nat) (h : Nat) (w : Int32) (x1 : Nat) (x2 : Nat) (x3 : Nat) (x4 : Nat) (x5 : Nat) (x6 : Nat) (x7 : Nat) (wm : Nat) (wt : Nat) (wv : Nat) (wk : Nat) (we : Nat) (wf : Nat) (wp : Nat) (x7s : Nat) (x7c : Nat)  : Met l yX9_isSafe wsX9_isSafe ({ frames := 3, cells := 0, slots := 0, locals := 69 }) (va_Pc [.ref h, .int w, .int 1] (PE dC dI cI cJ cS [(h, .inr (9, [.ref x1, .ref x2, .ref x3, .ref x4, .ref x5, .ref x6, .ref x7])), (x1, aI cI 6 (fun _ => 0)), (x5, .inr (8, [.ref wm, .ref wt, .ref wv, .ref wk, .int 1, .ref we, .ref wf, .int 0, .ref wp, .int 0, .long 0, .int 0, .int 0, .int 0, .int 0, .int 0, .int 0])), (x7, .inr (4, [.ref x7s, .ref x7c, .int 0, .int 0, .int 0, .int 0]))] sz)) (va_Qi (fun (r : Int32) (_ : Unit) => r = 1) (BE dC dI (va_A [(h, .inr (9, [.ref x1, .ref x2, .ref x3, .ref x4, .ref x5, .ref x6, .ref x7])), (x1, aI cI 6 (fun _ => 0)), (x5, .inr (8, [.ref wm, .ref wt, .ref wv, .ref wk, .int 1, .ref we, .ref wf, .int 0, .ref wp, .int 0, .long 0, .int 0, .int 0, .int 0, .int 0, .int 0, .int 0])), (x7, .inr (4, [.ref x7s, .ref x7c, .int 0, .int 0, .int 0, .int 0]))] sz) (fun (_ : Unit) => [(h, .inr (9, [.ref x1, .ref x2, .ref x3, .ref x4, .ref x5, .ref x6, .ref x7])), (x1, aI cI 6 (fun _ => 0)), (x7, .inr (4, [.ref x7s, .ref x7c, .int 0, .int 0, .int 0, .int 0])), (x5, .inr (8, [.ref wm, .ref wt, .ref wv, .ref wk, .int 1, .ref we, .ref wf, .int 0, .ref x7, .int (w &&& 3), .long 4611686018427387903, .int 4095, .int 0, .int 0, .int 0, .int 0, .int 0]))])) (va_A [(h, .inr (9, [.ref x1, .ref x2, .ref x3, .ref x4, .ref x5, .ref x6, .ref x7])), (x1, aI cI 6 (fun _ => 0)), (x5, .inr (8, [.ref wm, .ref wt, .ref wv, .ref wk, .int 1, .ref we, .ref wf, .int 0, .ref wp, .int 0, .long 0, .int 0, .int 0, .int 0, .int 0, .int 0, .int 0])), (x7, .inr (4, [.ref x7s, .ref x7c, .int 0, .int 0, .int 0, .int 0]))] sz)) 0 0 (va_A [(h, .inr (9, [.ref x1, .ref x2, .ref x3, .ref x4, .ref x5, .ref x6, .ref x7])), (x1, aI cI 6 (fun _ => 0)), (x5, .inr (8, [.ref wm, .ref wt, .ref wv, .ref wk, .int 1, .ref we, .ref wf, .int 0, .ref wp, .int 0, .long 0, .int 0, .int 0, .int 0, .int 0, .int 0, .int 0])), (x7, .inr (4, [.ref x7s, .ref x7c, .int 0, .int 0, .int 0, .int 0]))] sz) := by
  refine Met.ofW (cc := cX9_isSafe) (maxL := 3) (ret := (some .boolean)) (by decide) rfl ?_
  intro pp_ ee_ ss_ mm_ args below meth cc_ s₁ B hml hv
  obtain ⟨rfl, hsz, hP, hE, hD0⟩ := hv
  have hx := B.exec
  have hb := B.bytes
  have hr := B.returns
  have hts := atoms_spec (ws := wsX9_isSafe) B.pre
  have hown : ss_.vm.findClass RX9 = some mm_.cls := findClass_of_methodNamed B.named
  have hlocks := B.notSynchronized
  have hK := hE.1
  have hiX9 : ∀ w ∈ wsX90, w ∈ wsX9_isSafe := by decide +kernel
  subst hsz
  have hD := hD0.self (sz := ss_.heap.size)
  generalize hAe : va_A [(h, .inr (9, [.ref x1, .ref x2, .ref x3, .ref x4, .ref x5, .ref x6, .ref x7])), (x1, aI cI 6 (fun _ => 0)), (x5, .inr (8, [.ref wm, .ref wt, .ref wv, .ref wk, .int 1, .ref we, .ref wf, .int 0, .ref wp, .int 0, .long 0, .int 0, .int 0, .int 0, .int 0, .int 0, .int 0])), (x7, .inr (4, [.ref x7s, .ref x7c, .int 0, .int 0, .int 0, .int 0]))] ss_.heap.size = A at hD ⊢
  have hA : ∀ q : Nat, ss_.heap.size ≤ q → A q := fun q h => by rw [← hAe]; exact Or.inr h
  have hS : va_S A ss_.heap ss_.heap [] := va_S.rf
  have hP : va_P (dC, dI) vwCl [(h, .inr (9, [.ref x1, .ref x2, .ref x3, .ref x4, .ref x5, .ref x6, .ref x7])), (x1, aI cI 6 (fun _ => 0)), (x5, .inr (8, [.ref wm, .ref wt, .ref wv, .ref wk, .int 1, .ref we, .ref wf, .int 0, .ref wp, .int 0, .long 0, .int 0, .int 0, .int 0, .int 0, .int 0, .int 0])), (x7, .inr (4, [.ref x7s, .ref x7c, .int 0, .int 0, .int 0, .int 0]))] ss_.heap := hP
  have hl := lv_entry ([.ref h, .int w, .int 1]) (n := 3) (Nat.le_of_ble_eq_true rfl)
  rw [lg_entry_eq]
  generalize (lg_sl ([.ref h, .int w, .int 1]) ++ List.replicate (3 - (lg_sl ([.ref h, .int w, .int 1])).length) Slot.unset).toArray = ls at hl ⊢
  have hl : lv_has ls 3 [(0, .ref h), (1, .int w), (2, .int 1)] := hl
  refine lv_aload_n hx hb dX9_isSafe_0 rfl (lv_at hl 0 rfl) ?_
  refine va_get (D := (dC, dI)) (ci := 9) (v := .ref x5) (C := RX9) (T := TX9) (N := 7) hx hb hts hiX9 hown hK hP 0 rfl rfl 4 (by decide) (hts (.fieldLink RX9 37 "WatchedPrograms" "watch" "LWatchedPrograms$Watch;") (by decide +kernel)) (fun _ h9 => h9) rfl dX9_isSafe_1 ?_
  refine lv_aload_n hx hb dX9_isSafe_4 rfl (lv_at hl 0 rfl) ?_
  refine va_get (D := (dC, dI)) (ci := 9) (v := .ref x7) (C := RX9) (T := TX9) (N := 7) hx hb hts hiX9 hown hK hP 0 rfl rfl 6 (by decide) (hts (.fieldLink RX9 51 "WatchedPrograms" "program" "LWatchedPrograms$Program;") (by decide +kernel)) (fun _ h9 => h9) rfl dX9_isSafe_5 ?_
  refine lv_iload_n hx hb dX9_isSafe_8 rfl (lv_at hl 1 rfl) ?_
  refine lv_aload_n hx hb dX9_isSafe_9 rfl (lv_at hl 0 rfl) ?_
  refine lv_iload_n hx hb dX9_isSafe_10 rfl (lv_at hl 1 rfl) ?_
  refine vp_callSi (va_Run.run (va_runV (As := [.int w]) (rest := [.int w, .ref x7, .ref x5]) ⟨hx, hb, hml, hown, hts⟩ (c_cellsWithin l dC dI cI cJ cS  h w x1 x2 x3 x4 x5 x6 x7 ) (cwV 1 hts gX9_isSafe_X9_cellsWithin rfl rfl rfl (by decide +kernel) ⟨Nat.le_of_ble_eq_true rfl, Nat.le_of_ble_eq_true rfl⟩) (preRV (hP.sub (ws' := [(h, .inr (9, [.ref x1, .ref x2, .ref x3, .ref x4, .ref x5, .ref x6, .ref x7])), (x1, aI cI 6 (fun _ => 0))]) [0, 1] rfl) hE 0 (ci := 9) rfl rfl) rfl rfl hl.1 rfl (lv_room (Nat.le_of_ble_eq_true rfl)) dX9_isSafe_11 ⟨by decide +kernel, by decide +kernel⟩)) (fun r_1 hr_2 => ?_)
  obtain rfl := hr_2
  refine lv_iload_n hx hb dX9_isSafe_14 rfl (lv_at hl 2 rfl) ?_
  have hFc := va_free (wc := [(x5, .inr (8, [.ref wm, .ref wt, .ref wv, .ref wk, .int 1, .ref we, .ref wf, .int 0, .ref wp, .int 0, .long 0, .int 0, .int 0, .int 0, .int 0, .int 0, .int 0]))]) hD hS hA [2] rfl
  refine zCv (wr := [(h, .inr (9, [.ref x1, .ref x2, .ref x3, .ref x4, .ref x5, .ref x6, .ref x7])), (x1, aI cI 6 (fun _ => 0)), (x7, .inr (4, [.ref x7s, .ref x7c, .int 0, .int 0, .int 0, .int 0]))]) hP hD hS hFc [2] [0, 1, 3] rfl rfl (by decide) (by decide) (va_runV (As := [.ref x7, .int w, .int 4095, .int 1]) (rest := []) ⟨hx, hb, hml, hown, hts⟩ (c_aim1 l dC dI cI cJ cS ss_.heap.size x5 x7 w wm wt wv wk we wf wp ) (cwV 4 hts gX9_isSafe_X8_aim rfl rfl rfl (by decide +kernel) ⟨Nat.le_of_ble_eq_true rfl, Nat.le_of_ble_eq_true rfl⟩) (preEV (hP.sub (ws' := [(x5, .inr (8, [.ref wm, .ref wt, .ref wv, .ref wk, .int 1, .ref we, .ref wf, .int 0, .ref wp, .int 0, .long 0, .int 0, .int 0, .int 0, .int 0, .int 0, .int 0]))]) [2] rfl) hE (hD.sub (ws' := [(x5, .inr (8, [.ref wm, .ref wt, .ref wv, .ref wk, .int 1, .ref we, .ref wf, .int 0, .ref wp, .int 0, .long 0, .int 0, .int 0, .int 0, .int 0, .int 0, .int 0]))]) [2] (by decide) rfl) 0 (ci := 8) rfl rfl) rfl rfl hl.1 rfl (lv_room (Nat.le_of_ble_eq_true rfl)) dX9_isSafe_15 ⟨by decide +kernel, by decide +kernel⟩) (fun u_5 H locs hr_4 hP hD hS => ?_)
  try dsimp only at hr_4
  have hP : va_P (dC, dI) vwCl [(h, .inr (9, [.ref x1, .ref x2, .ref x3, .ref x4, .ref x5, .ref x6, .ref x7])), (x1, aI cI 6 (fun _ => 0)), (x7, .inr (4, [.ref x7s, .ref x7c, .int 0, .int 0, .int 0, .int 0])), (x5, .inr (8, [.ref wm, .ref wt, .ref wv, .ref wk, .int 1, .ref we, .ref wf, .int 0, .ref x7, .int (w &&& 3), .long 4611686018427387903, .int 4095, .int 0, .int 0, .int 0, .int 0, .int 0]))] H := hP
  have hD : va_D A [(h, .inr (9, [.ref x1, .ref x2, .ref x3, .ref x4, .ref x5, .ref x6, .ref x7])), (x1, aI cI 6 (fun _ => 0)), (x7, .inr (4, [.ref x7s, .ref x7c, .int 0, .int 0, .int 0, .int 0])), (x5, .inr (8, [.ref wm, .ref wt, .ref wv, .ref wk, .int 1, .ref we, .ref wf, .int 0, .ref x7, .int (w &&& 3), .long 4611686018427387903, .int 4095, .int 0, .int 0, .int 0, .int 0, .int 0]))] := hD
  refine lv_aload_n hx hb dX9_isSafe_18 rfl (lv_at hl 0 rfl) ?_
  refine va_get (D := (dC, dI)) (ci := 9) (v := .ref x5) (C := RX9) (T := TX9) (N := 7) hx hb hts hiX9 hown hK hP 0 rfl rfl 4 (by decide) (hts (.fieldLink RX9 37 "WatchedPrograms" "watch" "LWatchedPrograms$Watch;") (by decide +kernel)) (fun _ h9 => h9) rfl dX9_isSafe_19 ?_
  refine lv_iconst (v := 0) hx hb dX9_isSafe_22 (by decide) ?_
  refine vp_callSi (va_Run.run (va_runV (As := [.int 0]) (rest := []) ⟨hx, hb, hml, hown, hts⟩ (c_findPair1 l dC dI cI cJ cS  x5 wm wt wv wk we wf x7 (w &&& 3) x7s x7c ) (cwV 1 hts gX9_isSafe_X8_findPair rfl rfl rfl (by decide +kernel) ⟨Nat.le_of_ble_eq_true rfl, Nat.le_of_ble_eq_true rfl⟩) (preRV (hP.sub (ws' := [(x5, .inr (8, [.ref wm, .ref wt, .ref wv, .ref wk, .int 1, .ref we, .ref wf, .int 0, .ref x7, .int (w &&& 3), .long 4611686018427387903, .int 4095, .int 0, .int 0, .int 0, .int 0, .int 0])), (x7, .inr (4, [.ref x7s, .ref x7c, .int 0, .int 0, .int 0, .int 0]))]) [3, 2] rfl) hE 0 (ci := 8) rfl rfl) rfl rfl hl.1 rfl (lv_room (Nat.le_of_ble_eq_true rfl)) dX9_isSafe_23 ⟨by decide +kernel, by decide +kernel⟩)) (fun r_6 hr_7 => ?_)
  obtain rfl := hr_7
  refine lv_if_ne (tgt := 33) hx hb dX9_isSafe_26 (by decide) (fun c_8 => absurd (by decide) c_8) (fun _ => ?_)
  refine lv_iconst (v := 1) hx hb dX9_isSafe_29 (by decide) ?_
  refine lv_goto (tgt := 34) hx hb dX9_isSafe_30 (by decide) ?_
  have hP9 := hP.sub (ws' := [(h, .inr (9, [.ref x1, .ref x2, .ref x3, .ref x4, .ref x5, .ref x6, .ref x7])), (x1, aI cI 6 (fun _ => 0)), (x7, .inr (4, [.ref x7s, .ref x7c, .int 0, .int 0, .int 0, .int 0])), (x5, .inr (8, [.ref wm, .ref wt, .ref wv, .ref wk, .int 1, .ref we, .ref wf, .int 0, .ref x7, .int (w &&& 3), .long 4611686018427387903, .int 4095, .int 0, .int 0, .int 0, .int 0, .int 0]))]) [0, 1, 2, 3] rfl
  have hD9 := hD.sub (ws' := [(h, .inr (9, [.ref x1, .ref x2, .ref x3, .ref x4, .ref x5, .ref x6, .ref x7])), (x1, aI cI 6 (fun _ => 0)), (x7, .inr (4, [.ref x7s, .ref x7c, .int 0, .int 0, .int 0, .int 0])), (x5, .inr (8, [.ref wm, .ref wt, .ref wv, .ref wk, .int 1, .ref we, .ref wf, .int 0, .ref x7, .int (w &&& 3), .long 4611686018427387903, .int 4095, .int 0, .int 0, .int 0, .int 0, .int 0]))]) [0, 1, 2, 3] (by decide) rfl
  exact W.zret (v := 1) hx hb hr (by decide) (fun tt_ ht hW => ⟨⟨_, (), rfl, rfl, by rw [ht]; exact hP9, hD9⟩, hS.F ht⟩) hS.2.2 dX9_isSafe_34
set_option maxHeartbeats 1000000 in
set_option maxRecDepth 100000 in
theorem c_heaps (l : Launch) (dC : Nat → ClassId) (dI : Nat → Nat → Nat) (cI cJ cS : ClassId) (sz : Nat) (h : Nat) (w : Int32) (t : Int32) (o : Int32) (q : Int32) (x1 : Nat) (x2 : Nat) (x3 : Nat) (x4 : Nat) (x5 : Nat) (x6 : Nat) (x7 : Nat) (wm : Nat) (wt : Nat) (wv : Nat) (wk : Nat) (we : Nat) (wf : Nat) (wp : Nat) (na : Nat) (nb : Nat) (ta : Nat) (tb : Nat) (tc : Nat) (td : Nat) (x7s : Nat) (x7c : Nat)  : Met l yX9_heaps wsX9_heaps ({ frames := 5, cells := 0, slots := 0, locals := 108 }) (va_Pc [.ref h, .int w, .int t, .int o, .int q] (PE dC dI cI cJ cS [(h, .inr (9, [.ref x1, .ref x2, .ref x3, .ref x4, .ref x5, .ref x6, .ref x7])), (x1, aI cI 6 (fun _ => 0)), (x5, .inr (8, [.ref wm, .ref wt, .ref wv, .ref wk, .int 1, .ref we, .ref wf, .int 0, .ref wp, .int 0, .long 0, .int 0, .int 0, .int 0, .int 0, .int 0, .int 0])), (wm, .inr (2, [.ref na, .ref nb, .int 0, .int 0, .int 0])), (wt, .inr (1, [.ref ta, .ref tb, .ref tc, .ref td, .int 0, .int 0, .int 0])), (ta, aJ cJ 4096 (fun _ => 0)), (tb, aJ cJ 4096 (fun _ => 0)), (tc, aI cI 4096 (fun _ => 0)), (td, aI cI 8192 (fun _ => 0)), (wv, aJ cJ 16384 (fun _ => 0)), (wk, aI cI 4096 (fun _ => 0)), (x7, .inr (4, [.ref x7s, .ref x7c, .int 0, .int 0, .int 0, .int 0]))] sz)) (va_Qi (fun (r : Int32) (_ : Unit) => r = okE (((inR w 0 3 ∧ inR t 0 1) ∧ inR q 0 1) ∧ inR o 0 4095) 1) (BE dC dI (va_A [(h, .inr (9, [.ref x1, .ref x2, .ref x3, .ref x4, .ref x5, .ref x6, .ref x7])), (x1, aI cI 6 (fun _ => 0)), (x5, .inr (8, [.ref wm, .ref wt, .ref wv, .ref wk, .int 1, .ref we, .ref wf, .int 0, .ref wp, .int 0, .long 0, .int 0, .int 0, .int 0, .int 0, .int 0, .int 0])), (wm, .inr (2, [.ref na, .ref nb, .int 0, .int 0, .int 0])), (wt, .inr (1, [.ref ta, .ref tb, .ref tc, .ref td, .int 0, .int 0, .int 0])), (ta, aJ cJ 4096 (fun _ => 0)), (tb, aJ cJ 4096 (fun _ => 0)), (tc, aI cI 4096 (fun _ => 0)), (td, aI cI 8192 (fun _ => 0)), (wv, aJ cJ 16384 (fun _ => 0)), (wk, aI cI 4096 (fun _ => 0)), (x7, .inr (4, [.ref x7s, .ref x7c, .int 0, .int 0, .int 0, .int 0]))] sz) (fun (_ : Unit) => [])) (va_A [(h, .inr (9, [.ref x1, .ref x2, .ref x3, .ref x4, .ref x5, .ref x6, .ref x7])), (x1, aI cI 6 (fun _ => 0)), (x5, .inr (8, [.ref wm, .ref wt, .ref wv, .ref wk, .int 1, .ref we, .ref wf, .int 0, .ref wp, .int 0, .long 0, .int 0, .int 0, .int 0, .int 0, .int 0, .int 0])), (wm, .inr (2, [.ref na, .ref nb, .int 0, .int 0, .int 0])), (wt, .inr (1, [.ref ta, .ref tb, .ref tc, .ref td, .int 0, .int 0, .int 0])), (ta, aJ cJ 4096 (fun _ => 0)), (tb, aJ cJ 4096 (fun _ => 0)), (tc, aI cI 4096 (fun _ => 0)), (td, aI cI 8192 (fun _ => 0)), (wv, aJ cJ 16384 (fun _ => 0)), (wk, aI cI 4096 (fun _ => 0)), (x7, .inr (4, [.ref x7s, .ref x7c, .int 0, .int 0, .int 0, .int 0]))] sz)) 0 0 (va_A [(h, .inr (9, [.ref x1, .ref x2, .ref x3, .ref x4, .ref x5, .ref x6, .ref x7])), (x1, aI cI 6 (fun _ => 0)), (x5, .inr (8, [.ref wm, .ref wt, .ref wv, .ref wk, .int 1, .ref we, .ref wf, .int 0, .ref wp, .int 0, .long 0, .int 0, .int 0, .int 0, .int 0, .int 0, .int 0])), (wm, .inr (2, [.ref na, .ref nb, .int 0, .int 0, .int 0])), (wt, .inr (1, [.ref ta, .ref tb, .ref tc, .ref td, .int 0, .int 0, .int 0])), (ta, aJ cJ 4096 (fun _ => 0)), (tb, aJ cJ 4096 (fun _ => 0)), (tc, aI cI 4096 (fun _ => 0)), (td, aI cI 8192 (fun _ => 0)), (wv, aJ cJ 16384 (fun _ => 0)), (wk, aI cI 4096 (fun _ => 0)), (x7, .inr (4, [.ref x7s, .ref x7c, .int 0, .int 0, .int 0, .int 0]))] sz) := by
  refine Met.ofW (cc := cX9_heaps) (maxL := 7) (ret := (some .int)) (by decide) rfl ?_
  intro pp_ ee_ ss_ mm_ args below meth cc_ s₁ B hml hv
  obtain ⟨rfl, hsz, hP, hE, hD0⟩ := hv
  have hx := B.exec
  have hb := B.bytes
  have hr := B.returns
  have hts := atoms_spec (ws := wsX9_heaps) B.pre
  have hown : ss_.vm.findClass RX9 = some mm_.cls := findClass_of_methodNamed B.named
  have hlocks := B.notSynchronized
  have hK := hE.1
  have hiX9 : ∀ w ∈ wsX90, w ∈ wsX9_heaps := by decide +kernel
  subst hsz
  have hD := hD0.self (sz := ss_.heap.size)
  generalize hAe : va_A [(h, .inr (9, [.ref x1, .ref x2, .ref x3, .ref x4, .ref x5, .ref x6, .ref x7])), (x1, aI cI 6 (fun _ => 0)), (x5, .inr (8, [.ref wm, .ref wt, .ref wv, .ref wk, .int 1, .ref we, .ref wf, .int 0, .ref wp, .int 0, .long 0, .int 0, .int 0, .int 0, .int 0, .int 0, .int 0])), (wm, .inr (2, [.ref na, .ref nb, .int 0, .int 0, .int 0])), (wt, .inr (1, [.ref ta, .ref tb, .ref tc, .ref td, .int 0, .int 0, .int 0])), (ta, aJ cJ 4096 (fun _ => 0)), (tb, aJ cJ 4096 (fun _ => 0)), (tc, aI cI 4096 (fun _ => 0)), (td, aI cI 8192 (fun _ => 0)), (wv, aJ cJ 16384 (fun _ => 0)), (wk, aI cI 4096 (fun _ => 0)), (x7, .inr (4, [.ref x7s, .ref x7c, .int 0, .int 0, .int 0, .int 0]))] ss_.heap.size = A at hD ⊢
  have hA : ∀ q : Nat, ss_.heap.size ≤ q → A q := fun q h => by rw [← hAe]; exact Or.inr h
  have hS : va_S A ss_.heap ss_.heap [] := va_S.rf
  have hP : va_P (dC, dI) vwCl [(h, .inr (9, [.ref x1, .ref x2, .ref x3, .ref x4, .ref x5, .ref x6, .ref x7])), (x1, aI cI 6 (fun _ => 0)), (x5, .inr (8, [.ref wm, .ref wt, .ref wv, .ref wk, .int 1, .ref we, .ref wf, .int 0, .ref wp, .int 0, .long 0, .int 0, .int 0, .int 0, .int 0, .int 0, .int 0])), (wm, .inr (2, [.ref na, .ref nb, .int 0, .int 0, .int 0])), (wt, .inr (1, [.ref ta, .ref tb, .ref tc, .ref td, .int 0, .int 0, .int 0])), (ta, aJ cJ 4096 (fun _ => 0)), (tb, aJ cJ 4096 (fun _ => 0)), (tc, aI cI 4096 (fun _ => 0)), (td, aI cI 8192 (fun _ => 0)), (wv, aJ cJ 16384 (fun _ => 0)), (wk, aI cI 4096 (fun _ => 0)), (x7, .inr (4, [.ref x7s, .ref x7c, .int 0, .int 0, .int 0, .int 0]))] ss_.heap := hP
  have hl := lv_entry ([.ref h, .int w, .int t, .int o, .int q]) (n := 7) (Nat.le_of_ble_eq_true rfl)
  rw [lg_entry_eq]
  generalize (lg_sl ([.ref h, .int w, .int t, .int o, .int q]) ++ List.replicate (7 - (lg_sl ([.ref h, .int w, .int t, .int o, .int q])).length) Slot.unset).toArray = ls at hl ⊢
  have hl : lv_has ls 7 [(0, .ref h), (1, .int w), (2, .int t), (3, .int o), (4, .int q)] := hl
  refine lv_iload_n hx hb dX9_heaps_0 rfl (lv_at hl 1 rfl) ?_
  refine lv_iload_n hx hb dX9_heaps_1 rfl (lv_at hl 2 rfl) ?_
  refine lv_iload hx hb dX9_heaps_2 (lv_at hl 4 rfl) ?_
  refine vp_callSi (va_Run.run (va_runS (As := [.int w, .int t, .int q]) (rest := []) ⟨hx, hb, hml, hown, hts⟩ (c_isWatched l dC dI cI cJ cS  w t q ) (va_cwS 3 hts gX9_heaps_X9_isWatched rfl rfl rfl (by decide +kernel) ⟨Nat.le_of_ble_eq_true rfl, Nat.le_of_ble_eq_true rfl⟩) (preR (hP.sub (ws' := []) [] rfl) hE) rfl rfl hl.1 rfl (lv_room (Nat.le_of_ble_eq_true rfl)) dX9_heaps_4 ⟨by decide +kernel, by decide +kernel⟩)) (fun r_1 hr_2 => ?_)
  refine lv_if_ne (tgt := 12) hx hb dX9_heaps_7 (by decide) (fun c_3 => ?_) (fun c_3 => ?_)
  · have k_4 : (inR w 0 3 ∧ inR t 0 1) ∧ inR q 0 1 := bI_1 hr_2 c_3
    rcases in01 k_4.1.2 with rfl | rfl
    · refine lv_aload_n hx hb dX9_heaps_12 rfl (lv_at hl 0 rfl) ?_
      refine lv_iload_n hx hb dX9_heaps_13 rfl (lv_at hl 1 rfl) ?_
      refine vp_callSi (va_Run.run (va_runV (As := [.int w]) (rest := []) ⟨hx, hb, hml, hown, hts⟩ (c_cellsWithin l dC dI cI cJ cS  h w x1 x2 x3 x4 x5 x6 x7 ) (cwV 1 hts gX9_heaps_X9_cellsWithin rfl rfl rfl (by decide +kernel) ⟨Nat.le_of_ble_eq_true rfl, Nat.le_of_ble_eq_true rfl⟩) (preRV (hP.sub (ws' := [(h, .inr (9, [.ref x1, .ref x2, .ref x3, .ref x4, .ref x5, .ref x6, .ref x7])), (x1, aI cI 6 (fun _ => 0))]) [0, 1] rfl) hE 0 (ci := 9) rfl rfl) rfl rfl hl.1 rfl (lv_room (Nat.le_of_ble_eq_true rfl)) dX9_heaps_14 ⟨by decide +kernel, by decide +kernel⟩)) (fun r_5 hr_6 => ?_)
      obtain rfl := hr_6
      refine lv_istore (lv' := [(5, .int 4095), (0, .ref h), (1, .int w), (2, .int 0), (3, .int o), (4, .int q)]) hx hb dX9_heaps_17 hl (by decide) rfl (fun ls hl => ?_)
      refine lv_iload_n hx hb dX9_heaps_19 rfl (lv_at hl 4 rfl) ?_
      refine lv_iload hx hb dX9_heaps_20 (lv_at hl 0 rfl) ?_
      refine vp_callSi (va_Run.run (va_runS (As := [.int o, .int 4095]) (rest := []) ⟨hx, hb, hml, hown, hts⟩ (c_isPacked l dC dI cI cJ cS  o ) (va_cwS 2 hts gX9_heaps_X9_isPacked rfl rfl rfl (by decide +kernel) ⟨Nat.le_of_ble_eq_true rfl, Nat.le_of_ble_eq_true rfl⟩) (preR (hP.sub (ws' := []) [] rfl) hE) rfl rfl hl.1 rfl (lv_room (Nat.le_of_ble_eq_true rfl)) dX9_heaps_22 ⟨by decide +kernel, by decide +kernel⟩)) (fun r_7 hr_8 => ?_)
      refine lv_if_ne (tgt := 30) hx hb dX9_heaps_25 (by decide) (fun c_9 => ?_) (fun c_9 => ?_)
      · have k_10 : inR o 0 4095 := bI_1 hr_8 c_9
        refine lv_aload_n hx hb dX9_heaps_30 rfl (lv_at hl 1 rfl) ?_
        refine va_get (D := (dC, dI)) (ci := 9) (v := .ref x5) (C := RX9) (T := TX9) (N := 7) hx hb hts hiX9 hown hK hP 0 rfl rfl 4 (by decide) (hts (.fieldLink RX9 37 "WatchedPrograms" "watch" "LWatchedPrograms$Watch;") (by decide +kernel)) (fun _ h9 => h9) rfl dX9_heaps_31 ?_
        refine lv_aload_n hx hb dX9_heaps_34 rfl (lv_at hl 1 rfl) ?_
        refine va_get (D := (dC, dI)) (ci := 9) (v := .ref x7) (C := RX9) (T := TX9) (N := 7) hx hb hts hiX9 hown hK hP 0 rfl rfl 6 (by decide) (hts (.fieldLink RX9 51 "WatchedPrograms" "program" "LWatchedPrograms$Program;") (by decide +kernel)) (fun _ h9 => h9) rfl dX9_heaps_35 ?_
        refine lv_iload_n hx hb dX9_heaps_38 rfl (lv_at hl 2 rfl) ?_
        refine lv_iload hx hb dX9_heaps_39 (lv_at hl 0 rfl) ?_
        refine lv_iload_n hx hb dX9_heaps_41 rfl (lv_at hl 3 rfl) ?_
        have hFc := va_free (wc := [(x5, .inr (8, [.ref wm, .ref wt, .ref wv, .ref wk, .int 1, .ref we, .ref wf, .int 0, .ref wp, .int 0, .long 0, .int 0, .int 0, .int 0, .int 0, .int 0, .int 0]))]) hD hS hA [2] rfl
        refine zCv (wr := [(h, .inr (9, [.ref x1, .ref x2, .ref x3, .ref x4, .ref x5, .ref x6, .ref x7])), (x1, aI cI 6 (fun _ => 0)), (wm, .inr (2, [.ref na, .ref nb, .int 0, .int 0, .int 0])), (wt, .inr (1, [.ref ta, .ref tb, .ref tc, .ref td, .int 0, .int 0, .int 0])), (ta, aJ cJ 4096 (fun _ => 0)), (tb, aJ cJ 4096 (fun _ => 0)), (tc, aI cI 4096 (fun _ => 0)), (td, aI cI 8192 (fun _ => 0)), (wv, aJ cJ 16384 (fun _ => 0)), (wk, aI cI 4096 (fun _ => 0)), (x7, .inr (4, [.ref x7s, .ref x7c, .int 0, .int 0, .int 0, .int 0]))]) hP hD hS hFc [2] [0, 1, 3, 4, 5, 6, 7, 8, 9, 10, 11] rfl rfl (by decide) (by decide) (va_runV (As := [.ref x7, .int w, .int 4095, .int 0]) (rest := []) ⟨hx, hb, hml, hown, hts⟩ (c_aim0 l dC dI cI cJ cS ss_.heap.size x5 x7 w wm wt wv wk we wf wp ) (cwV 4 hts gX9_heaps_X8_aim rfl rfl rfl (by decide +kernel) ⟨Nat.le_of_ble_eq_true rfl, Nat.le_of_ble_eq_true rfl⟩) (preEV (hP.sub (ws' := [(x5, .inr (8, [.ref wm, .ref wt, .ref wv, .ref wk, .int 1, .ref we, .ref wf, .int 0, .ref wp, .int 0, .long 0, .int 0, .int 0, .int 0, .int 0, .int 0, .int 0]))]) [2] rfl) hE (hD.sub (ws' := [(x5, .inr (8, [.ref wm, .ref wt, .ref wv, .ref wk, .int 1, .ref we, .ref wf, .int 0, .ref wp, .int 0, .long 0, .int 0, .int 0, .int 0, .int 0, .int 0, .int 0]))]) [2] (by decide) rfl) 0 (ci := 8) rfl rfl) rfl rfl hl.1 rfl (lv_room (Nat.le_of_ble_eq_true rfl)) dX9_heaps_42 ⟨by decide +kernel, by decide +kernel⟩) (fun u_13 H locs hr_12 hP hD hS => ?_)
        try dsimp only at hr_12
        have hP : va_P (dC, dI) vwCl [(h, .inr (9, [.ref x1, .ref x2, .ref x3, .ref x4, .ref x5, .ref x6, .ref x7])), (x1, aI cI 6 (fun _ => 0)), (wm, .inr (2, [.ref na, .ref nb, .int 0, .int 0, .int 0])), (wt, .inr (1, [.ref ta, .ref tb, .ref tc, .ref td, .int 0, .int 0, .int 0])), (ta, aJ cJ 4096 (fun _ => 0)), (tb, aJ cJ 4096 (fun _ => 0)), (tc, aI cI 4096 (fun _ => 0)), (td, aI cI 8192 (fun _ => 0)), (wv, aJ cJ 16384 (fun _ => 0)), (wk, aI cI 4096 (fun _ => 0)), (x7, .inr (4, [.ref x7s, .ref x7c, .int 0, .int 0, .int 0, .int 0])), (x5, .inr (8, [.ref wm, .ref wt, .ref wv, .ref wk, .int 1, .ref we, .ref wf, .int 0, .ref x7, .int (w &&& 3), .long 9007199254740991, .int 4095, .int 0, .int 0, .int 0, .int 0, .int 0]))] H := hP
        have hD : va_D A [(h, .inr (9, [.ref x1, .ref x2, .ref x3, .ref x4, .ref x5, .ref x6, .ref x7])), (x1, aI cI 6 (fun _ => 0)), (wm, .inr (2, [.ref na, .ref nb, .int 0, .int 0, .int 0])), (wt, .inr (1, [.ref ta, .ref tb, .ref tc, .ref td, .int 0, .int 0, .int 0])), (ta, aJ cJ 4096 (fun _ => 0)), (tb, aJ cJ 4096 (fun _ => 0)), (tc, aI cI 4096 (fun _ => 0)), (td, aI cI 8192 (fun _ => 0)), (wv, aJ cJ 16384 (fun _ => 0)), (wk, aI cI 4096 (fun _ => 0)), (x7, .inr (4, [.ref x7s, .ref x7c, .int 0, .int 0, .int 0, .int 0])), (x5, .inr (8, [.ref wm, .ref wt, .ref wv, .ref wk, .int 1, .ref we, .ref wf, .int 0, .ref x7, .int (w &&& 3), .long 9007199254740991, .int 4095, .int 0, .int 0, .int 0, .int 0, .int 0]))] := hD
        refine lv_aload_n hx hb dX9_heaps_45 rfl (lv_at hl 1 rfl) ?_
        refine va_get (D := (dC, dI)) (ci := 9) (v := .ref x5) (C := RX9) (T := TX9) (N := 7) hx hb hts hiX9 hown hK hP 0 rfl rfl 4 (by decide) (hts (.fieldLink RX9 37 "WatchedPrograms" "watch" "LWatchedPrograms$Watch;") (by decide +kernel)) (fun _ h9 => h9) rfl dX9_heaps_46 ?_
        refine lv_iload_n hx hb dX9_heaps_49 rfl (lv_at hl 4 rfl) ?_
        refine lv_iload hx hb dX9_heaps_50 (lv_at hl 0 rfl) ?_
        refine vp_callSi (va_Run.run (va_runS (As := [.int o, .int 4095]) (rest := [.ref x5]) ⟨hx, hb, hml, hown, hts⟩ (c_spread l dC dI cI cJ cS  o ) (va_cwS 2 hts gX9_heaps_X9_spread rfl rfl rfl (by decide +kernel) ⟨Nat.le_of_ble_eq_true rfl, Nat.le_of_ble_eq_true rfl⟩) (preR (hP.sub (ws' := []) [] rfl) hE) rfl rfl hl.1 rfl (lv_room (Nat.le_of_ble_eq_true rfl)) dX9_heaps_52 ⟨by decide +kernel, by decide +kernel⟩)) (fun r_14 hr_15 => ?_)
        have hFc := va_free (wc := [(x5, .inr (8, [.ref wm, .ref wt, .ref wv, .ref wk, .int 1, .ref we, .ref wf, .int 0, .ref x7, .int (w &&& 3), .long 9007199254740991, .int 4095, .int 0, .int 0, .int 0, .int 0, .int 0])), (wm, .inr (2, [.ref na, .ref nb, .int 0, .int 0, .int 0])), (x7, .inr (4, [.ref x7s, .ref x7c, .int 0, .int 0, .int 0, .int 0])), (wv, aJ cJ 16384 (fun _ => 0)), (wk, aI cI 4096 (fun _ => 0)), (wt, .inr (1, [.ref ta, .ref tb, .ref tc, .ref td, .int 0, .int 0, .int 0])), (td, aI cI 8192 (fun _ => 0)), (ta, aJ cJ 4096 (fun _ => 0)), (tb, aJ cJ 4096 (fun _ => 0)), (tc, aI cI 4096 (fun _ => 0))]) hD hS hA [11, 2, 10, 8, 9, 3, 7, 4, 5, 6] rfl
        refine zCi (wr := [(h, .inr (9, [.ref x1, .ref x2, .ref x3, .ref x4, .ref x5, .ref x6, .ref x7])), (x1, aI cI 6 (fun _ => 0))]) hP hD hS hFc [11, 2, 10, 8, 9, 3, 7, 4, 5, 6] [0, 1] rfl rfl (by decide) (by decide) (va_runV (As := [.int r_14]) (rest := []) ⟨hx, hb, hml, hown, hts⟩ (c_countHeaps0 l dC dI cI cJ cS H.size x5 r_14 wm wt wv wk we wf x7 (w &&& 3) na nb x7s x7c ta tb tc td ) (cwV 1 hts gX9_heaps_X8_countHeaps rfl rfl rfl (by decide +kernel) ⟨Nat.le_of_ble_eq_true rfl, Nat.le_of_ble_eq_true rfl⟩) (preEV (hP.sub (ws' := [(x5, .inr (8, [.ref wm, .ref wt, .ref wv, .ref wk, .int 1, .ref we, .ref wf, .int 0, .ref x7, .int (w &&& 3), .long 9007199254740991, .int 4095, .int 0, .int 0, .int 0, .int 0, .int 0])), (wm, .inr (2, [.ref na, .ref nb, .int 0, .int 0, .int 0])), (x7, .inr (4, [.ref x7s, .ref x7c, .int 0, .int 0, .int 0, .int 0])), (wv, aJ cJ 16384 (fun _ => 0)), (wk, aI cI 4096 (fun _ => 0)), (wt, .inr (1, [.ref ta, .ref tb, .ref tc, .ref td, .int 0, .int 0, .int 0])), (td, aI cI 8192 (fun _ => 0)), (ta, aJ cJ 4096 (fun _ => 0)), (tb, aJ cJ 4096 (fun _ => 0)), (tc, aI cI 4096 (fun _ => 0))]) [11, 2, 10, 8, 9, 3, 7, 4, 5, 6] rfl) hE (hD.sub (ws' := [(x5, .inr (8, [.ref wm, .ref wt, .ref wv, .ref wk, .int 1, .ref we, .ref wf, .int 0, .ref x7, .int (w &&& 3), .long 9007199254740991, .int 4095, .int 0, .int 0, .int 0, .int 0, .int 0])), (wm, .inr (2, [.ref na, .ref nb, .int 0, .int 0, .int 0])), (x7, .inr (4, [.ref x7s, .ref x7c, .int 0, .int 0, .int 0, .int 0])), (wv, aJ cJ 16384 (fun _ => 0)), (wk, aI cI 4096 (fun _ => 0)), (wt, .inr (1, [.ref ta, .ref tb, .ref tc, .ref td, .int 0, .int 0, .int 0])), (td, aI cI 8192 (fun _ => 0)), (ta, aJ cJ 4096 (fun _ => 0)), (tb, aJ cJ 4096 (fun _ => 0)), (tc, aI cI 4096 (fun _ => 0))]) [11, 2, 10, 8, 9, 3, 7, 4, 5, 6] (by decide) rfl) 0 (ci := 8) rfl rfl) rfl rfl hl.1 rfl (lv_room (Nat.le_of_ble_eq_true rfl)) dX9_heaps_55 ⟨by decide +kernel, by decide +kernel⟩) (fun r_16 u_18 H locs hr_17 hP hD hS => ?_)
        try dsimp only at hr_17
        have hP : va_P (dC, dI) vwCl [(h, .inr (9, [.ref x1, .ref x2, .ref x3, .ref x4, .ref x5, .ref x6, .ref x7])), (x1, aI cI 6 (fun _ => 0)), (x5, .inr (8, [.ref wm, .ref wt, .ref wv, .ref wk, .int 1, .ref we, .ref wf, .int 0, .ref x7, .int (w &&& 3), .long 9007199254740991, .int 4095, .int 0, .int 0, .int 0, .int 0, .int 0])), (wv, aJ cJ 16384 (vp_updL (vp_updL (vp_updL (vp_updL (fun _ => 0) 0 1) 4096 1) 8192 1) 12288 1)), (wk, aI cI 4096 (upd (fun _ => 0) 0 1)), (wm, .inr (2, [.ref na, .ref nb, .int 0, .int 0, .int 0])), (x7, .inr (4, [.ref x7s, .ref x7c, .int 0, .int 0, .int 0, .int 0])), (td, aI cI 8192 (upd (upd (upd (fun _ => 0) 0 0) 1 0) 1 1)), (ta, aJ cJ 4096 (vp_updL (fun _ => 0) 0 1)), (tb, aJ cJ 4096 (vp_updL (fun _ => 0) 0 0)), (wt, .inr (1, [.ref ta, .ref tb, .ref tc, .ref td, .int 1, .int 1, .int 1])), (tc, aI cI 4096 (upd (upd (fun _ => 0) 0 0) 0 1))] H := hP
        have hD : va_D A [(h, .inr (9, [.ref x1, .ref x2, .ref x3, .ref x4, .ref x5, .ref x6, .ref x7])), (x1, aI cI 6 (fun _ => 0)), (x5, .inr (8, [.ref wm, .ref wt, .ref wv, .ref wk, .int 1, .ref we, .ref wf, .int 0, .ref x7, .int (w &&& 3), .long 9007199254740991, .int 4095, .int 0, .int 0, .int 0, .int 0, .int 0])), (wv, aJ cJ 16384 (vp_updL (vp_updL (vp_updL (vp_updL (fun _ => 0) 0 1) 4096 1) 8192 1) 12288 1)), (wk, aI cI 4096 (upd (fun _ => 0) 0 1)), (wm, .inr (2, [.ref na, .ref nb, .int 0, .int 0, .int 0])), (x7, .inr (4, [.ref x7s, .ref x7c, .int 0, .int 0, .int 0, .int 0])), (td, aI cI 8192 (upd (upd (upd (fun _ => 0) 0 0) 1 0) 1 1)), (ta, aJ cJ 4096 (vp_updL (fun _ => 0) 0 1)), (tb, aJ cJ 4096 (vp_updL (fun _ => 0) 0 0)), (wt, .inr (1, [.ref ta, .ref tb, .ref tc, .ref td, .int 1, .int 1, .int 1])), (tc, aI cI 4096 (upd (upd (fun _ => 0) 0 0) 0 1))] := hD
        obtain rfl := hr_17
        refine lv_istore (lv' := [(6, .int 1), (5, .int 4095), (0, .ref h), (1, .int w), (2, .int 0), (3, .int o), (4, .int q)]) hx hb dX9_heaps_58 hl (by decide) rfl (fun ls hl => ?_)
        refine lv_iload hx hb dX9_heaps_60 (lv_at hl 6 rfl) ?_
        refine lv_if_ne (tgt := 70) hx hb dX9_heaps_62 (by decide) (fun c_19 => ?_) (fun c_19 => ?_)
        · refine lv_aload_n hx hb dX9_heaps_70 rfl (lv_at hl 2 rfl) ?_
          refine va_get (D := (dC, dI)) (ci := 9) (v := .ref x5) (C := RX9) (T := TX9) (N := 7) hx hb hts hiX9 hown hK hP 0 rfl rfl 4 (by decide) (hts (.fieldLink RX9 37 "WatchedPrograms" "watch" "LWatchedPrograms$Watch;") (by decide +kernel)) (fun _ h9 => h9) rfl dX9_heaps_71 ?_
          refine vp_callSi (va_Run.run (va_runV (As := []) (rest := []) ⟨hx, hb, hml, hown, hts⟩ (c_greatest0 l dC dI cI cJ cS  x5 wm wt wv wk we wf x7 (w &&& 3) x7s x7c ta tb tc td ) (cwV 0 hts gX9_heaps_X8_greatestHeap rfl rfl rfl (by decide +kernel) ⟨Nat.le_of_ble_eq_true rfl, Nat.le_of_ble_eq_true rfl⟩) (preRV (hP.sub (ws' := [(x5, .inr (8, [.ref wm, .ref wt, .ref wv, .ref wk, .int 1, .ref we, .ref wf, .int 0, .ref x7, .int (w &&& 3), .long 9007199254740991, .int 4095, .int 0, .int 0, .int 0, .int 0, .int 0])), (x7, .inr (4, [.ref x7s, .ref x7c, .int 0, .int 0, .int 0, .int 0])), (wt, .inr (1, [.ref ta, .ref tb, .ref tc, .ref td, .int 1, .int 1, .int 1]))]) [2, 6, 10] rfl) hE 0 (ci := 8) rfl rfl) rfl rfl hl.1 rfl (lv_room (Nat.le_of_ble_eq_true rfl)) dX9_heaps_74 ⟨by decide +kernel, by decide +kernel⟩)) (fun r_20 hr_21 => ?_)
          obtain rfl := hr_21
          have hP9 := hP.sub (ws' := []) [] rfl
          have hD9 := hD.sub (ws' := []) [] (by decide) rfl
          exact W.iret (v := 1) hx hb hr (fun tt_ ht hW => ⟨⟨_, (), rfl, (by rw [okE, if_pos (by simp only [inR, Int32.lt_iff_toInt_lt, Int32.le_iff_toInt_le, ← Int32.toInt_inj, tI_0, tI_1, tI_2, tI_3, tI_4, tI_5, tI_6, tI_7, tI_8, tI_20, tI_30, tI_300, tI_400, tI_4095, tI_4096, tI_m1, tI_m2, tI_m3, tI_m9] at k_4 k_10 c_19 ⊢ <;> omega)]), by rw [ht]; exact hP9, hD9⟩, hS.F ht⟩) hS.2.2 dX9_heaps_77
        · refine lv_iload hx hb dX9_heaps_65 (lv_at hl 0 rfl) ?_
          refine lv_goto (tgt := 77) hx hb dX9_heaps_67 (by decide) ?_
          have hP9 := hP.sub (ws' := []) [] rfl
          have hD9 := hD.sub (ws' := []) [] (by decide) rfl
          exact W.iret (v := 1) hx hb hr (fun tt_ ht hW => ⟨⟨_, (), rfl, (by rw [okE, if_pos (by simp only [inR, Int32.lt_iff_toInt_lt, Int32.le_iff_toInt_le, ← Int32.toInt_inj, tI_0, tI_1, tI_2, tI_3, tI_4, tI_5, tI_6, tI_7, tI_8, tI_20, tI_30, tI_300, tI_400, tI_4095, tI_4096, tI_m1, tI_m2, tI_m3, tI_m9] at k_4 k_10 c_19 ⊢ <;> omega)]), by rw [ht]; exact hP9, hD9⟩, hS.F ht⟩) hS.2.2 dX9_heaps_77
      · have k_22 : ¬ (inR o 0 4095) := bI_0 hr_8 c_9
        refine lv_iconst (v := (-1)) hx hb dX9_heaps_28 (by decide) ?_
        have hP9 := hP.sub (ws' := []) [] rfl
        have hD9 := hD.sub (ws' := []) [] (by decide) rfl
        exact W.iret (v := (-1)) hx hb hr (fun tt_ ht hW => ⟨⟨_, (), rfl, (by rw [okE, if_neg (by simp only [inR, Int32.lt_iff_toInt_lt, Int32.le_iff_toInt_le, ← Int32.toInt_inj, tI_0, tI_1, tI_2, tI_3, tI_4, tI_5, tI_6, tI_7, tI_8, tI_20, tI_30, tI_300, tI_400, tI_4095, tI_4096, tI_m1, tI_m2, tI_m3, tI_m9] at k_4 k_22 ⊢ <;> omega)]), by rw [ht]; exact hP9, hD9⟩, hS.F ht⟩) hS.2.2 dX9_heaps_29
    · refine lv_aload_n hx hb dX9_heaps_12 rfl (lv_at hl 0 rfl) ?_
      refine lv_iload_n hx hb dX9_heaps_13 rfl (lv_at hl 1 rfl) ?_
      refine vp_callSi (va_Run.run (va_runV (As := [.int w]) (rest := []) ⟨hx, hb, hml, hown, hts⟩ (c_cellsWithin l dC dI cI cJ cS  h w x1 x2 x3 x4 x5 x6 x7 ) (cwV 1 hts gX9_heaps_X9_cellsWithin rfl rfl rfl (by decide +kernel) ⟨Nat.le_of_ble_eq_true rfl, Nat.le_of_ble_eq_true rfl⟩) (preRV (hP.sub (ws' := [(h, .inr (9, [.ref x1, .ref x2, .ref x3, .ref x4, .ref x5, .ref x6, .ref x7])), (x1, aI cI 6 (fun _ => 0))]) [0, 1] rfl) hE 0 (ci := 9) rfl rfl) rfl rfl hl.1 rfl (lv_room (Nat.le_of_ble_eq_true rfl)) dX9_heaps_14 ⟨by decide +kernel, by decide +kernel⟩)) (fun r_23 hr_24 => ?_)
      obtain rfl := hr_24
      refine lv_istore (lv' := [(5, .int 4095), (0, .ref h), (1, .int w), (2, .int 1), (3, .int o), (4, .int q)]) hx hb dX9_heaps_17 hl (by decide) rfl (fun ls hl => ?_)
      refine lv_iload_n hx hb dX9_heaps_19 rfl (lv_at hl 4 rfl) ?_
      refine lv_iload hx hb dX9_heaps_20 (lv_at hl 0 rfl) ?_
      refine vp_callSi (va_Run.run (va_runS (As := [.int o, .int 4095]) (rest := []) ⟨hx, hb, hml, hown, hts⟩ (c_isPacked l dC dI cI cJ cS  o ) (va_cwS 2 hts gX9_heaps_X9_isPacked rfl rfl rfl (by decide +kernel) ⟨Nat.le_of_ble_eq_true rfl, Nat.le_of_ble_eq_true rfl⟩) (preR (hP.sub (ws' := []) [] rfl) hE) rfl rfl hl.1 rfl (lv_room (Nat.le_of_ble_eq_true rfl)) dX9_heaps_22 ⟨by decide +kernel, by decide +kernel⟩)) (fun r_25 hr_26 => ?_)
      refine lv_if_ne (tgt := 30) hx hb dX9_heaps_25 (by decide) (fun c_27 => ?_) (fun c_27 => ?_)
      · have k_28 : inR o 0 4095 := bI_1 hr_26 c_27
        refine lv_aload_n hx hb dX9_heaps_30 rfl (lv_at hl 1 rfl) ?_
        refine va_get (D := (dC, dI)) (ci := 9) (v := .ref x5) (C := RX9) (T := TX9) (N := 7) hx hb hts hiX9 hown hK hP 0 rfl rfl 4 (by decide) (hts (.fieldLink RX9 37 "WatchedPrograms" "watch" "LWatchedPrograms$Watch;") (by decide +kernel)) (fun _ h9 => h9) rfl dX9_heaps_31 ?_
        refine lv_aload_n hx hb dX9_heaps_34 rfl (lv_at hl 1 rfl) ?_
        refine va_get (D := (dC, dI)) (ci := 9) (v := .ref x7) (C := RX9) (T := TX9) (N := 7) hx hb hts hiX9 hown hK hP 0 rfl rfl 6 (by decide) (hts (.fieldLink RX9 51 "WatchedPrograms" "program" "LWatchedPrograms$Program;") (by decide +kernel)) (fun _ h9 => h9) rfl dX9_heaps_35 ?_
        refine lv_iload_n hx hb dX9_heaps_38 rfl (lv_at hl 2 rfl) ?_
        refine lv_iload hx hb dX9_heaps_39 (lv_at hl 0 rfl) ?_
        refine lv_iload_n hx hb dX9_heaps_41 rfl (lv_at hl 3 rfl) ?_
        have hFc := va_free (wc := [(x5, .inr (8, [.ref wm, .ref wt, .ref wv, .ref wk, .int 1, .ref we, .ref wf, .int 0, .ref wp, .int 0, .long 0, .int 0, .int 0, .int 0, .int 0, .int 0, .int 0]))]) hD hS hA [2] rfl
        refine zCv (wr := [(h, .inr (9, [.ref x1, .ref x2, .ref x3, .ref x4, .ref x5, .ref x6, .ref x7])), (x1, aI cI 6 (fun _ => 0)), (wm, .inr (2, [.ref na, .ref nb, .int 0, .int 0, .int 0])), (wt, .inr (1, [.ref ta, .ref tb, .ref tc, .ref td, .int 0, .int 0, .int 0])), (ta, aJ cJ 4096 (fun _ => 0)), (tb, aJ cJ 4096 (fun _ => 0)), (tc, aI cI 4096 (fun _ => 0)), (td, aI cI 8192 (fun _ => 0)), (wv, aJ cJ 16384 (fun _ => 0)), (wk, aI cI 4096 (fun _ => 0)), (x7, .inr (4, [.ref x7s, .ref x7c, .int 0, .int 0, .int 0, .int 0]))]) hP hD hS hFc [2] [0, 1, 3, 4, 5, 6, 7, 8, 9, 10, 11] rfl rfl (by decide) (by decide) (va_runV (As := [.ref x7, .int w, .int 4095, .int 1]) (rest := []) ⟨hx, hb, hml, hown, hts⟩ (c_aim1 l dC dI cI cJ cS ss_.heap.size x5 x7 w wm wt wv wk we wf wp ) (cwV 4 hts gX9_heaps_X8_aim rfl rfl rfl (by decide +kernel) ⟨Nat.le_of_ble_eq_true rfl, Nat.le_of_ble_eq_true rfl⟩) (preEV (hP.sub (ws' := [(x5, .inr (8, [.ref wm, .ref wt, .ref wv, .ref wk, .int 1, .ref we, .ref wf, .int 0, .ref wp, .int 0, .long 0, .int 0, .int 0, .int 0, .int 0, .int 0, .int 0]))]) [2] rfl) hE (hD.sub (ws' := [(x5, .inr (8, [.ref wm, .ref wt, .ref wv, .ref wk, .int 1, .ref we, .ref wf, .int 0, .ref wp, .int 0, .long 0, .int 0, .int 0, .int 0, .int 0, .int 0, .int 0]))]) [2] (by decide) rfl) 0 (ci := 8) rfl rfl) rfl rfl hl.1 rfl (lv_room (Nat.le_of_ble_eq_true rfl)) dX9_heaps_42 ⟨by decide +kernel, by decide +kernel⟩) (fun u_31 H locs hr_30 hP hD hS => ?_)
        try dsimp only at hr_30
        have hP : va_P (dC, dI) vwCl [(h, .inr (9, [.ref x1, .ref x2, .ref x3, .ref x4, .ref x5, .ref x6, .ref x7])), (x1, aI cI 6 (fun _ => 0)), (wm, .inr (2, [.ref na, .ref nb, .int 0, .int 0, .int 0])), (wt, .inr (1, [.ref ta, .ref tb, .ref tc, .ref td, .int 0, .int 0, .int 0])), (ta, aJ cJ 4096 (fun _ => 0)), (tb, aJ cJ 4096 (fun _ => 0)), (tc, aI cI 4096 (fun _ => 0)), (td, aI cI 8192 (fun _ => 0)), (wv, aJ cJ 16384 (fun _ => 0)), (wk, aI cI 4096 (fun _ => 0)), (x7, .inr (4, [.ref x7s, .ref x7c, .int 0, .int 0, .int 0, .int 0])), (x5, .inr (8, [.ref wm, .ref wt, .ref wv, .ref wk, .int 1, .ref we, .ref wf, .int 0, .ref x7, .int (w &&& 3), .long 4611686018427387903, .int 4095, .int 0, .int 0, .int 0, .int 0, .int 0]))] H := hP
        have hD : va_D A [(h, .inr (9, [.ref x1, .ref x2, .ref x3, .ref x4, .ref x5, .ref x6, .ref x7])), (x1, aI cI 6 (fun _ => 0)), (wm, .inr (2, [.ref na, .ref nb, .int 0, .int 0, .int 0])), (wt, .inr (1, [.ref ta, .ref tb, .ref tc, .ref td, .int 0, .int 0, .int 0])), (ta, aJ cJ 4096 (fun _ => 0)), (tb, aJ cJ 4096 (fun _ => 0)), (tc, aI cI 4096 (fun _ => 0)), (td, aI cI 8192 (fun _ => 0)), (wv, aJ cJ 16384 (fun _ => 0)), (wk, aI cI 4096 (fun _ => 0)), (x7, .inr (4, [.ref x7s, .ref x7c, .int 0, .int 0, .int 0, .int 0])), (x5, .inr (8, [.ref wm, .ref wt, .ref wv, .ref wk, .int 1, .ref we, .ref wf, .int 0, .ref x7, .int (w &&& 3), .long 4611686018427387903, .int 4095, .int 0, .int 0, .int 0, .int 0, .int 0]))] := hD
        refine lv_aload_n hx hb dX9_heaps_45 rfl (lv_at hl 1 rfl) ?_
        refine va_get (D := (dC, dI)) (ci := 9) (v := .ref x5) (C := RX9) (T := TX9) (N := 7) hx hb hts hiX9 hown hK hP 0 rfl rfl 4 (by decide) (hts (.fieldLink RX9 37 "WatchedPrograms" "watch" "LWatchedPrograms$Watch;") (by decide +kernel)) (fun _ h9 => h9) rfl dX9_heaps_46 ?_
        refine lv_iload_n hx hb dX9_heaps_49 rfl (lv_at hl 4 rfl) ?_
        refine lv_iload hx hb dX9_heaps_50 (lv_at hl 0 rfl) ?_
        refine vp_callSi (va_Run.run (va_runS (As := [.int o, .int 4095]) (rest := [.ref x5]) ⟨hx, hb, hml, hown, hts⟩ (c_spread l dC dI cI cJ cS  o ) (va_cwS 2 hts gX9_heaps_X9_spread rfl rfl rfl (by decide +kernel) ⟨Nat.le_of_ble_eq_true rfl, Nat.le_of_ble_eq_true rfl⟩) (preR (hP.sub (ws' := []) [] rfl) hE) rfl rfl hl.1 rfl (lv_room (Nat.le_of_ble_eq_true rfl)) dX9_heaps_52 ⟨by decide +kernel, by decide +kernel⟩)) (fun r_32 hr_33 => ?_)
        have hFc := va_free (wc := [(x5, .inr (8, [.ref wm, .ref wt, .ref wv, .ref wk, .int 1, .ref we, .ref wf, .int 0, .ref x7, .int (w &&& 3), .long 4611686018427387903, .int 4095, .int 0, .int 0, .int 0, .int 0, .int 0])), (wm, .inr (2, [.ref na, .ref nb, .int 0, .int 0, .int 0])), (x7, .inr (4, [.ref x7s, .ref x7c, .int 0, .int 0, .int 0, .int 0])), (wv, aJ cJ 16384 (fun _ => 0)), (wk, aI cI 4096 (fun _ => 0)), (wt, .inr (1, [.ref ta, .ref tb, .ref tc, .ref td, .int 0, .int 0, .int 0])), (td, aI cI 8192 (fun _ => 0)), (ta, aJ cJ 4096 (fun _ => 0)), (tb, aJ cJ 4096 (fun _ => 0)), (tc, aI cI 4096 (fun _ => 0))]) hD hS hA [11, 2, 10, 8, 9, 3, 7, 4, 5, 6] rfl
        refine zCi (wr := [(h, .inr (9, [.ref x1, .ref x2, .ref x3, .ref x4, .ref x5, .ref x6, .ref x7])), (x1, aI cI 6 (fun _ => 0))]) hP hD hS hFc [11, 2, 10, 8, 9, 3, 7, 4, 5, 6] [0, 1] rfl rfl (by decide) (by decide) (va_runV (As := [.int r_32]) (rest := []) ⟨hx, hb, hml, hown, hts⟩ (c_countHeaps1 l dC dI cI cJ cS H.size x5 r_32 wm wt wv wk we wf x7 (w &&& 3) na nb x7s x7c ta tb tc td ) (cwV 1 hts gX9_heaps_X8_countHeaps rfl rfl rfl (by decide +kernel) ⟨Nat.le_of_ble_eq_true rfl, Nat.le_of_ble_eq_true rfl⟩) (preEV (hP.sub (ws' := [(x5, .inr (8, [.ref wm, .ref wt, .ref wv, .ref wk, .int 1, .ref we, .ref wf, .int 0, .ref x7, .int (w &&& 3), .long 4611686018427387903, .int 4095, .int 0, .int 0, .int 0, .int 0, .int 0])), (wm, .inr (2, [.ref na, .ref nb, .int 0, .int 0, .int 0])), (x7, .inr (4, [.ref x7s, .ref x7c, .int 0, .int 0, .int 0, .int 0])), (wv, aJ cJ 16384 (fun _ => 0)), (wk, aI cI 4096 (fun _ => 0)), (wt, .inr (1, [.ref ta, .ref tb, .ref tc, .ref td, .int 0, .int 0, .int 0])), (td, aI cI 8192 (fun _ => 0)), (ta, aJ cJ 4096 (fun _ => 0)), (tb, aJ cJ 4096 (fun _ => 0)), (tc, aI cI 4096 (fun _ => 0))]) [11, 2, 10, 8, 9, 3, 7, 4, 5, 6] rfl) hE (hD.sub (ws' := [(x5, .inr (8, [.ref wm, .ref wt, .ref wv, .ref wk, .int 1, .ref we, .ref wf, .int 0, .ref x7, .int (w &&& 3), .long 4611686018427387903, .int 4095, .int 0, .int 0, .int 0, .int 0, .int 0])), (wm, .inr (2, [.ref na, .ref nb, .int 0, .int 0, .int 0])), (x7, .inr (4, [.ref x7s, .ref x7c, .int 0, .int 0, .int 0, .int 0])), (wv, aJ cJ 16384 (fun _ => 0)), (wk, aI cI 4096 (fun _ => 0)), (wt, .inr (1, [.ref ta, .ref tb, .ref tc, .ref td, .int 0, .int 0, .int 0])), (td, aI cI 8192 (fun _ => 0)), (ta, aJ cJ 4096 (fun _ => 0)), (tb, aJ cJ 4096 (fun _ => 0)), (tc, aI cI 4096 (fun _ => 0))]) [11, 2, 10, 8, 9, 3, 7, 4, 5, 6] (by decide) rfl) 0 (ci := 8) rfl rfl) rfl rfl hl.1 rfl (lv_room (Nat.le_of_ble_eq_true rfl)) dX9_heaps_55 ⟨by decide +kernel, by decide +kernel⟩) (fun r_34 u_36 H locs hr_35 hP hD hS => ?_)
        try dsimp only at hr_35
        have hP : va_P (dC, dI) vwCl [(h, .inr (9, [.ref x1, .ref x2, .ref x3, .ref x4, .ref x5, .ref x6, .ref x7])), (x1, aI cI 6 (fun _ => 0)), (x5, .inr (8, [.ref wm, .ref wt, .ref wv, .ref wk, .int 1, .ref we, .ref wf, .int 0, .ref x7, .int (w &&& 3), .long 4611686018427387903, .int 4095, .int 0, .int 0, .int 0, .int 0, .int 0])), (wv, aJ cJ 16384 (vp_updL (vp_updL (vp_updL (vp_updL (fun _ => 0) 0 1) 4096 1) 8192 1) 12288 1)), (wk, aI cI 4096 (upd (fun _ => 0) 0 1)), (wm, .inr (2, [.ref na, .ref nb, .int 0, .int 0, .int 0])), (x7, .inr (4, [.ref x7s, .ref x7c, .int 0, .int 0, .int 0, .int 0])), (td, aI cI 8192 (upd (upd (upd (fun _ => 0) 0 0) 1 0) 1 1)), (ta, aJ cJ 4096 (vp_updL (fun _ => 0) 0 1)), (tb, aJ cJ 4096 (vp_updL (fun _ => 0) 0 0)), (wt, .inr (1, [.ref ta, .ref tb, .ref tc, .ref td, .int 1, .int 1, .int 1])), (tc, aI cI 4096 (upd (upd (fun _ => 0) 0 0) 0 1))] H := hP
        have hD : va_D A [(h, .inr (9, [.ref x1, .ref x2, .ref x3, .ref x4, .ref x5, .ref x6, .ref x7])), (x1, aI cI 6 (fun _ => 0)), (x5, .inr (8, [.ref wm, .ref wt, .ref wv, .ref wk, .int 1, .ref we, .ref wf, .int 0, .ref x7, .int (w &&& 3), .long 4611686018427387903, .int 4095, .int 0, .int 0, .int 0, .int 0, .int 0])), (wv, aJ cJ 16384 (vp_updL (vp_updL (vp_updL (vp_updL (fun _ => 0) 0 1) 4096 1) 8192 1) 12288 1)), (wk, aI cI 4096 (upd (fun _ => 0) 0 1)), (wm, .inr (2, [.ref na, .ref nb, .int 0, .int 0, .int 0])), (x7, .inr (4, [.ref x7s, .ref x7c, .int 0, .int 0, .int 0, .int 0])), (td, aI cI 8192 (upd (upd (upd (fun _ => 0) 0 0) 1 0) 1 1)), (ta, aJ cJ 4096 (vp_updL (fun _ => 0) 0 1)), (tb, aJ cJ 4096 (vp_updL (fun _ => 0) 0 0)), (wt, .inr (1, [.ref ta, .ref tb, .ref tc, .ref td, .int 1, .int 1, .int 1])), (tc, aI cI 4096 (upd (upd (fun _ => 0) 0 0) 0 1))] := hD
        obtain rfl := hr_35
        refine lv_istore (lv' := [(6, .int 1), (5, .int 4095), (0, .ref h), (1, .int w), (2, .int 1), (3, .int o), (4, .int q)]) hx hb dX9_heaps_58 hl (by decide) rfl (fun ls hl => ?_)
        refine lv_iload hx hb dX9_heaps_60 (lv_at hl 6 rfl) ?_
        refine lv_if_ne (tgt := 70) hx hb dX9_heaps_62 (by decide) (fun c_37 => ?_) (fun c_37 => ?_)
        · refine lv_aload_n hx hb dX9_heaps_70 rfl (lv_at hl 2 rfl) ?_
          refine va_get (D := (dC, dI)) (ci := 9) (v := .ref x5) (C := RX9) (T := TX9) (N := 7) hx hb hts hiX9 hown hK hP 0 rfl rfl 4 (by decide) (hts (.fieldLink RX9 37 "WatchedPrograms" "watch" "LWatchedPrograms$Watch;") (by decide +kernel)) (fun _ h9 => h9) rfl dX9_heaps_71 ?_
          refine vp_callSi (va_Run.run (va_runV (As := []) (rest := []) ⟨hx, hb, hml, hown, hts⟩ (c_greatest1 l dC dI cI cJ cS  x5 wm wt wv wk we wf x7 (w &&& 3) x7s x7c ta tb tc td ) (cwV 0 hts gX9_heaps_X8_greatestHeap rfl rfl rfl (by decide +kernel) ⟨Nat.le_of_ble_eq_true rfl, Nat.le_of_ble_eq_true rfl⟩) (preRV (hP.sub (ws' := [(x5, .inr (8, [.ref wm, .ref wt, .ref wv, .ref wk, .int 1, .ref we, .ref wf, .int 0, .ref x7, .int (w &&& 3), .long 4611686018427387903, .int 4095, .int 0, .int 0, .int 0, .int 0, .int 0])), (x7, .inr (4, [.ref x7s, .ref x7c, .int 0, .int 0, .int 0, .int 0])), (wt, .inr (1, [.ref ta, .ref tb, .ref tc, .ref td, .int 1, .int 1, .int 1]))]) [2, 6, 10] rfl) hE 0 (ci := 8) rfl rfl) rfl rfl hl.1 rfl (lv_room (Nat.le_of_ble_eq_true rfl)) dX9_heaps_74 ⟨by decide +kernel, by decide +kernel⟩)) (fun r_38 hr_39 => ?_)
          obtain rfl := hr_39
          have hP9 := hP.sub (ws' := []) [] rfl
          have hD9 := hD.sub (ws' := []) [] (by decide) rfl
          exact W.iret (v := 1) hx hb hr (fun tt_ ht hW => ⟨⟨_, (), rfl, (by rw [okE, if_pos (by simp only [inR, Int32.lt_iff_toInt_lt, Int32.le_iff_toInt_le, ← Int32.toInt_inj, tI_0, tI_1, tI_2, tI_3, tI_4, tI_5, tI_6, tI_7, tI_8, tI_20, tI_30, tI_300, tI_400, tI_4095, tI_4096, tI_m1, tI_m2, tI_m3, tI_m9] at k_4 k_28 c_37 ⊢ <;> omega)]), by rw [ht]; exact hP9, hD9⟩, hS.F ht⟩) hS.2.2 dX9_heaps_77
        · refine lv_iload hx hb dX9_heaps_65 (lv_at hl 0 rfl) ?_
          refine lv_goto (tgt := 77) hx hb dX9_heaps_67 (by decide) ?_
          have hP9 := hP.sub (ws' := []) [] rfl
          have hD9 := hD.sub (ws' := []) [] (by decide) rfl
          exact W.iret (v := 1) hx hb hr (fun tt_ ht hW => ⟨⟨_, (), rfl, (by rw [okE, if_pos (by simp only [inR, Int32.lt_iff_toInt_lt, Int32.le_iff_toInt_le, ← Int32.toInt_inj, tI_0, tI_1, tI_2, tI_3, tI_4, tI_5, tI_6, tI_7, tI_8, tI_20, tI_30, tI_300, tI_400, tI_4095, tI_4096, tI_m1, tI_m2, tI_m3, tI_m9] at k_4 k_28 c_37 ⊢ <;> omega)]), by rw [ht]; exact hP9, hD9⟩, hS.F ht⟩) hS.2.2 dX9_heaps_77
      · have k_40 : ¬ (inR o 0 4095) := bI_0 hr_26 c_27
        refine lv_iconst (v := (-1)) hx hb dX9_heaps_28 (by decide) ?_
        have hP9 := hP.sub (ws' := []) [] rfl
        have hD9 := hD.sub (ws' := []) [] (by decide) rfl
        exact W.iret (v := (-1)) hx hb hr (fun tt_ ht hW => ⟨⟨_, (), rfl, (by rw [okE, if_neg (by simp only [inR, Int32.lt_iff_toInt_lt, Int32.le_iff_toInt_le, ← Int32.toInt_inj, tI_0, tI_1, tI_2, tI_3, tI_4, tI_5, tI_6, tI_7, tI_8, tI_20, tI_30, tI_300, tI_400, tI_4095, tI_4096, tI_m1, tI_m2, tI_m3, tI_m9] at k_4 k_40 ⊢ <;> omega)]), by rw [ht]; exact hP9, hD9⟩, hS.F ht⟩) hS.2.2 dX9_heaps_29
  · have k_41 : ¬ ((inR w 0 3 ∧ inR t 0 1) ∧ inR q 0 1) := bI_0 hr_2 c_3
    refine lv_iconst (v := (-1)) hx hb dX9_heaps_10 (by decide) ?_
    have hP9 := hP.sub (ws' := []) [] rfl
    have hD9 := hD.sub (ws' := []) [] (by decide) rfl
    exact W.iret (v := (-1)) hx hb hr (fun tt_ ht hW => ⟨⟨_, (), rfl, (by rw [okE, if_neg (by simp only [inR, Int32.lt_iff_toInt_lt, Int32.le_iff_toInt_le, ← Int32.toInt_inj, tI_0, tI_1, tI_2, tI_3, tI_4, tI_5, tI_6, tI_7, tI_8, tI_20, tI_30, tI_300, tI_400, tI_4095, tI_4096, tI_m1, tI_m2, tI_m3, tI_m9] at k_41 ⊢ <;> omega)]), by rw [ht]; exact hP9, hD9⟩, hS.F ht⟩) hS.2.2 dX9_heaps_11
set_option maxHeartbeats 1000000 in
set_option maxRecDepth 100000 in
theorem c_heap (l : Launch) (dC : Nat → ClassId) (dI : Nat → Nat → Nat) (cI cJ cS : ClassId) (sz : Nat) (h : Nat) (w : Int32) (t : Int32) (o : Int32) (s : Int32) (q : Int32) (x1 : Nat) (x2 : Nat) (x3 : Nat) (x4 : Nat) (x5 : Nat) (x6 : Nat) (x7 : Nat) (wm : Nat) (wt : Nat) (wv : Nat) (wk : Nat) (we : Nat) (wf : Nat) (wp : Nat) (na : Nat) (nb : Nat) (ta : Nat) (tb : Nat) (tc : Nat) (td : Nat) (x7s : Nat) (x7c : Nat)  : Met l yX9_heap wsX9_heap ({ frames := 5, cells := 0, slots := 0, locals := 112 }) (va_Pc [.ref h, .int w, .int t, .int o, .int s, .int q] (PE dC dI cI cJ cS [(h, .inr (9, [.ref x1, .ref x2, .ref x3, .ref x4, .ref x5, .ref x6, .ref x7])), (x1, aI cI 6 (fun _ => 0)), (x5, .inr (8, [.ref wm, .ref wt, .ref wv, .ref wk, .int 1, .ref we, .ref wf, .int 0, .ref wp, .int 0, .long 0, .int 0, .int 0, .int 0, .int 0, .int 0, .int 0])), (wm, .inr (2, [.ref na, .ref nb, .int 0, .int 0, .int 0])), (wt, .inr (1, [.ref ta, .ref tb, .ref tc, .ref td, .int 0, .int 0, .int 0])), (ta, aJ cJ 4096 (fun _ => 0)), (tb, aJ cJ 4096 (fun _ => 0)), (tc, aI cI 4096 (fun _ => 0)), (td, aI cI 8192 (fun _ => 0)), (wv, aJ cJ 16384 (fun _ => 0)), (wk, aI cI 4096 (fun _ => 0)), (x7, .inr (4, [.ref x7s, .ref x7c, .int 0, .int 0, .int 0, .int 0]))] sz)) (va_Qi (fun (r : Int32) (_ : Unit) => r = okE ((((inR w 0 3 ∧ inR t 0 1) ∧ inR q 0 1) ∧ inR o 0 4095) ∧ inR s 0 0) (if q = 0 then 1 else 0)) (BE dC dI (va_A [(h, .inr (9, [.ref x1, .ref x2, .ref x3, .ref x4, .ref x5, .ref x6, .ref x7])), (x1, aI cI 6 (fun _ => 0)), (x5, .inr (8, [.ref wm, .ref wt, .ref wv, .ref wk, .int 1, .ref we, .ref wf, .int 0, .ref wp, .int 0, .long 0, .int 0, .int 0, .int 0, .int 0, .int 0, .int 0])), (wm, .inr (2, [.ref na, .ref nb, .int 0, .int 0, .int 0])), (wt, .inr (1, [.ref ta, .ref tb, .ref tc, .ref td, .int 0, .int 0, .int 0])), (ta, aJ cJ 4096 (fun _ => 0)), (tb, aJ cJ 4096 (fun _ => 0)), (tc, aI cI 4096 (fun _ => 0)), (td, aI cI 8192 (fun _ => 0)), (wv, aJ cJ 16384 (fun _ => 0)), (wk, aI cI 4096 (fun _ => 0)), (x7, .inr (4, [.ref x7s, .ref x7c, .int 0, .int 0, .int 0, .int 0]))] sz) (fun (_ : Unit) => [])) (va_A [(h, .inr (9, [.ref x1, .ref x2, .ref x3, .ref x4, .ref x5, .ref x6, .ref x7])), (x1, aI cI 6 (fun _ => 0)), (x5, .inr (8, [.ref wm, .ref wt, .ref wv, .ref wk, .int 1, .ref we, .ref wf, .int 0, .ref wp, .int 0, .long 0, .int 0, .int 0, .int 0, .int 0, .int 0, .int 0])), (wm, .inr (2, [.ref na, .ref nb, .int 0, .int 0, .int 0])), (wt, .inr (1, [.ref ta, .ref tb, .ref tc, .ref td, .int 0, .int 0, .int 0])), (ta, aJ cJ 4096 (fun _ => 0)), (tb, aJ cJ 4096 (fun _ => 0)), (tc, aI cI 4096 (fun _ => 0)), (td, aI cI 8192 (fun _ => 0)), (wv, aJ cJ 16384 (fun _ => 0)), (wk, aI cI 4096 (fun _ => 0)), (x7, .inr (4, [.ref x7s, .ref x7c, .int 0, .int 0, .int 0, .int 0]))] sz)) 0 0 (va_A [(h, .inr (9, [.ref x1, .ref x2, .ref x3, .ref x4, .ref x5, .ref x6, .ref x7])), (x1, aI cI 6 (fun _ => 0)), (x5, .inr (8, [.ref wm, .ref wt, .ref wv, .ref wk, .int 1, .ref we, .ref wf, .int 0, .ref wp, .int 0, .long 0, .int 0, .int 0, .int 0, .int 0, .int 0, .int 0])), (wm, .inr (2, [.ref na, .ref nb, .int 0, .int 0, .int 0])), (wt, .inr (1, [.ref ta, .ref tb, .ref tc, .ref td, .int 0, .int 0, .int 0])), (ta, aJ cJ 4096 (fun _ => 0)), (tb, aJ cJ 4096 (fun _ => 0)), (tc, aI cI 4096 (fun _ => 0)), (td, aI cI 8192 (fun _ => 0)), (wv, aJ cJ 16384 (fun _ => 0)), (wk, aI cI 4096 (fun _ => 0)), (x7, .inr (4, [.ref x7s, .ref x7c, .int 0, .int 0, .int 0, .int 0]))] sz) := by
  refine Met.ofW (cc := cX9_heap) (maxL := 9) (ret := (some .int)) (by decide) rfl ?_
  intro pp_ ee_ ss_ mm_ args below meth cc_ s₁ B hml hv
  obtain ⟨rfl, hsz, hP, hE, hD0⟩ := hv
  have hx := B.exec
  have hb := B.bytes
  have hr := B.returns
  have hts := atoms_spec (ws := wsX9_heap) B.pre
  have hown : ss_.vm.findClass RX9 = some mm_.cls := findClass_of_methodNamed B.named
  have hlocks := B.notSynchronized
  have hK := hE.1
  have hiX9 : ∀ w ∈ wsX90, w ∈ wsX9_heap := by decide +kernel
  subst hsz
  have hD := hD0.self (sz := ss_.heap.size)
  generalize hAe : va_A [(h, .inr (9, [.ref x1, .ref x2, .ref x3, .ref x4, .ref x5, .ref x6, .ref x7])), (x1, aI cI 6 (fun _ => 0)), (x5, .inr (8, [.ref wm, .ref wt, .ref wv, .ref wk, .int 1, .ref we, .ref wf, .int 0, .ref wp, .int 0, .long 0, .int 0, .int 0, .int 0, .int 0, .int 0, .int 0])), (wm, .inr (2, [.ref na, .ref nb, .int 0, .int 0, .int 0])), (wt, .inr (1, [.ref ta, .ref tb, .ref tc, .ref td, .int 0, .int 0, .int 0])), (ta, aJ cJ 4096 (fun _ => 0)), (tb, aJ cJ 4096 (fun _ => 0)), (tc, aI cI 4096 (fun _ => 0)), (td, aI cI 8192 (fun _ => 0)), (wv, aJ cJ 16384 (fun _ => 0)), (wk, aI cI 4096 (fun _ => 0)), (x7, .inr (4, [.ref x7s, .ref x7c, .int 0, .int 0, .int 0, .int 0]))] ss_.heap.size = A at hD ⊢
  have hA : ∀ q : Nat, ss_.heap.size ≤ q → A q := fun q h => by rw [← hAe]; exact Or.inr h
  have hS : va_S A ss_.heap ss_.heap [] := va_S.rf
  have hP : va_P (dC, dI) vwCl [(h, .inr (9, [.ref x1, .ref x2, .ref x3, .ref x4, .ref x5, .ref x6, .ref x7])), (x1, aI cI 6 (fun _ => 0)), (x5, .inr (8, [.ref wm, .ref wt, .ref wv, .ref wk, .int 1, .ref we, .ref wf, .int 0, .ref wp, .int 0, .long 0, .int 0, .int 0, .int 0, .int 0, .int 0, .int 0])), (wm, .inr (2, [.ref na, .ref nb, .int 0, .int 0, .int 0])), (wt, .inr (1, [.ref ta, .ref tb, .ref tc, .ref td, .int 0, .int 0, .int 0])), (ta, aJ cJ 4096 (fun _ => 0)), (tb, aJ cJ 4096 (fun _ => 0)), (tc, aI cI 4096 (fun _ => 0)), (td, aI cI 8192 (fun _ => 0)), (wv, aJ cJ 16384 (fun _ => 0)), (wk, aI cI 4096 (fun _ => 0)), (x7, .inr (4, [.ref x7s, .ref x7c, .int 0, .int 0, .int 0, .int 0]))] ss_.heap := hP
  have hl := lv_entry ([.ref h, .int w, .int t, .int o, .int s, .int q]) (n := 9) (Nat.le_of_ble_eq_true rfl)
  rw [lg_entry_eq]
  generalize (lg_sl ([.ref h, .int w, .int t, .int o, .int s, .int q]) ++ List.replicate (9 - (lg_sl ([.ref h, .int w, .int t, .int o, .int s, .int q])).length) Slot.unset).toArray = ls at hl ⊢
  have hl : lv_has ls 9 [(0, .ref h), (1, .int w), (2, .int t), (3, .int o), (4, .int s), (5, .int q)] := hl
  refine lv_iload_n hx hb dX9_heap_0 rfl (lv_at hl 1 rfl) ?_
  refine lv_iload_n hx hb dX9_heap_1 rfl (lv_at hl 2 rfl) ?_
  refine lv_iload hx hb dX9_heap_2 (lv_at hl 5 rfl) ?_
  refine vp_callSi (va_Run.run (va_runS (As := [.int w, .int t, .int q]) (rest := []) ⟨hx, hb, hml, hown, hts⟩ (c_isWatched l dC dI cI cJ cS  w t q ) (va_cwS 3 hts gX9_heap_X9_isWatched rfl rfl rfl (by decide +kernel) ⟨Nat.le_of_ble_eq_true rfl, Nat.le_of_ble_eq_true rfl⟩) (preR (hP.sub (ws' := []) [] rfl) hE) rfl rfl hl.1 rfl (lv_room (Nat.le_of_ble_eq_true rfl)) dX9_heap_4 ⟨by decide +kernel, by decide +kernel⟩)) (fun r_1 hr_2 => ?_)
  refine lv_if_ne (tgt := 12) hx hb dX9_heap_7 (by decide) (fun c_3 => ?_) (fun c_3 => ?_)
  · have k_4 : (inR w 0 3 ∧ inR t 0 1) ∧ inR q 0 1 := bI_1 hr_2 c_3
    rcases in01 k_4.1.2 with rfl | rfl
    · refine lv_aload_n hx hb dX9_heap_12 rfl (lv_at hl 0 rfl) ?_
      refine lv_iload_n hx hb dX9_heap_13 rfl (lv_at hl 1 rfl) ?_
      refine vp_callSi (va_Run.run (va_runV (As := [.int w]) (rest := []) ⟨hx, hb, hml, hown, hts⟩ (c_cellsWithin l dC dI cI cJ cS  h w x1 x2 x3 x4 x5 x6 x7 ) (cwV 1 hts gX9_heap_X9_cellsWithin rfl rfl rfl (by decide +kernel) ⟨Nat.le_of_ble_eq_true rfl, Nat.le_of_ble_eq_true rfl⟩) (preRV (hP.sub (ws' := [(h, .inr (9, [.ref x1, .ref x2, .ref x3, .ref x4, .ref x5, .ref x6, .ref x7])), (x1, aI cI 6 (fun _ => 0))]) [0, 1] rfl) hE 0 (ci := 9) rfl rfl) rfl rfl hl.1 rfl (lv_room (Nat.le_of_ble_eq_true rfl)) dX9_heap_14 ⟨by decide +kernel, by decide +kernel⟩)) (fun r_5 hr_6 => ?_)
      obtain rfl := hr_6
      refine lv_istore (lv' := [(6, .int 4095), (0, .ref h), (1, .int w), (2, .int 0), (3, .int o), (4, .int s), (5, .int q)]) hx hb dX9_heap_17 hl (by decide) rfl (fun ls hl => ?_)
      refine lv_sipush (v := 4095) hx hb dX9_heap_19 (by decide) ?_
      refine lv_iload hx hb dX9_heap_22 (lv_at hl 0 rfl) ?_
      refine lv_iconst (v := (-1)) hx hb dX9_heap_24 (by decide) ?_
      refine lv_ixor hx hb dX9_heap_25 ?_
      refine zi (y := (-4096)) (by decide) ?_
      refine lv_iand hx hb dX9_heap_26 ?_
      refine zi (y := 0) (by decide) ?_
      refine lv_istore (lv' := [(7, .int 0), (6, .int 4095), (0, .ref h), (1, .int w), (2, .int 0), (3, .int o), (4, .int s), (5, .int q)]) hx hb dX9_heap_27 hl (by decide) rfl (fun ls hl => ?_)
      refine lv_iload_n hx hb dX9_heap_29 rfl (lv_at hl 5 rfl) ?_
      refine lv_iload hx hb dX9_heap_30 (lv_at hl 1 rfl) ?_
      refine vp_callSi (va_Run.run (va_runS (As := [.int o, .int 4095]) (rest := []) ⟨hx, hb, hml, hown, hts⟩ (c_isPacked l dC dI cI cJ cS  o ) (va_cwS 2 hts gX9_heap_X9_isPacked rfl rfl rfl (by decide +kernel) ⟨Nat.le_of_ble_eq_true rfl, Nat.le_of_ble_eq_true rfl⟩) (preR (hP.sub (ws' := []) [] rfl) hE) rfl rfl hl.1 rfl (lv_room (Nat.le_of_ble_eq_true rfl)) dX9_heap_32 ⟨by decide +kernel, by decide +kernel⟩)) (fun r_7 hr_8 => ?_)
      refine lv_if_eq (tgt := 48) hx hb dX9_heap_35 (by decide) (fun c_9 => ?_) (fun c_9 => ?_)
      · have k_10 : ¬ (inR o 0 4095) := bI_0 hr_8 c_9
        refine lv_iconst (v := (-1)) hx hb dX9_heap_48 (by decide) ?_
        have hP9 := hP.sub (ws' := []) [] rfl
        have hD9 := hD.sub (ws' := []) [] (by decide) rfl
        exact W.iret (v := (-1)) hx hb hr (fun tt_ ht hW => ⟨⟨_, (), rfl, (by rw [okE, if_neg (by simp only [inR, Int32.lt_iff_toInt_lt, Int32.le_iff_toInt_le, ← Int32.toInt_inj, tI_0, tI_1, tI_2, tI_3, tI_4, tI_5, tI_6, tI_7, tI_8, tI_20, tI_30, tI_300, tI_400, tI_4095, tI_4096, tI_m1, tI_m2, tI_m3, tI_m9] at k_4 k_10 ⊢ <;> omega)]), by rw [ht]; exact hP9, hD9⟩, hS.F ht⟩) hS.2.2 dX9_heap_49
      · have k_11 : inR o 0 4095 := bI_1 hr_8 c_9
        refine lv_iload hx hb dX9_heap_38 (lv_at hl 6 rfl) ?_
        refine lv_iload hx hb dX9_heap_40 (lv_at hl 0 rfl) ?_
        refine vp_callSi (va_Run.run (va_runS (As := [.int s, .int 0]) (rest := []) ⟨hx, hb, hml, hown, hts⟩ (c_isPacked0 l dC dI cI cJ cS  s ) (va_cwS 2 hts gX9_heap_X9_isPacked rfl rfl rfl (by decide +kernel) ⟨Nat.le_of_ble_eq_true rfl, Nat.le_of_ble_eq_true rfl⟩) (preR (hP.sub (ws' := []) [] rfl) hE) rfl rfl hl.1 rfl (lv_room (Nat.le_of_ble_eq_true rfl)) dX9_heap_42 ⟨by decide +kernel, by decide +kernel⟩)) (fun r_12 hr_13 => ?_)
        refine lv_if_ne (tgt := 50) hx hb dX9_heap_45 (by decide) (fun c_14 => ?_) (fun c_14 => ?_)
        · have k_15 : inR s 0 0 := bI_1 hr_13 c_14
          obtain rfl := in00 k_15
          refine lv_aload_n hx hb dX9_heap_50 rfl (lv_at hl 2 rfl) ?_
          refine va_get (D := (dC, dI)) (ci := 9) (v := .ref x5) (C := RX9) (T := TX9) (N := 7) hx hb hts hiX9 hown hK hP 0 rfl rfl 4 (by decide) (hts (.fieldLink RX9 37 "WatchedPrograms" "watch" "LWatchedPrograms$Watch;") (by decide +kernel)) (fun _ h9 => h9) rfl dX9_heap_51 ?_
          refine lv_aload_n hx hb dX9_heap_54 rfl (lv_at hl 2 rfl) ?_
          refine va_get (D := (dC, dI)) (ci := 9) (v := .ref x7) (C := RX9) (T := TX9) (N := 7) hx hb hts hiX9 hown hK hP 0 rfl rfl 6 (by decide) (hts (.fieldLink RX9 51 "WatchedPrograms" "program" "LWatchedPrograms$Program;") (by decide +kernel)) (fun _ h9 => h9) rfl dX9_heap_55 ?_
          refine lv_iload_n hx hb dX9_heap_58 rfl (lv_at hl 3 rfl) ?_
          refine lv_iload hx hb dX9_heap_59 (lv_at hl 1 rfl) ?_
          refine lv_iload_n hx hb dX9_heap_61 rfl (lv_at hl 4 rfl) ?_
          have hFc := va_free (wc := [(x5, .inr (8, [.ref wm, .ref wt, .ref wv, .ref wk, .int 1, .ref we, .ref wf, .int 0, .ref wp, .int 0, .long 0, .int 0, .int 0, .int 0, .int 0, .int 0, .int 0]))]) hD hS hA [2] rfl
          refine zCv (wr := [(h, .inr (9, [.ref x1, .ref x2, .ref x3, .ref x4, .ref x5, .ref x6, .ref x7])), (x1, aI cI 6 (fun _ => 0)), (wm, .inr (2, [.ref na, .ref nb, .int 0, .int 0, .int 0])), (wt, .inr (1, [.ref ta, .ref tb, .ref tc, .ref td, .int 0, .int 0, .int 0])), (ta, aJ cJ 4096 (fun _ => 0)), (tb, aJ cJ 4096 (fun _ => 0)), (tc, aI cI 4096 (fun _ => 0)), (td, aI cI 8192 (fun _ => 0)), (wv, aJ cJ 16384 (fun _ => 0)), (wk, aI cI 4096 (fun _ => 0)), (x7, .inr (4, [.ref x7s, .ref x7c, .int 0, .int 0, .int 0, .int 0]))]) hP hD hS hFc [2] [0, 1, 3, 4, 5, 6, 7, 8, 9, 10, 11] rfl rfl (by decide) (by decide) (va_runV (As := [.ref x7, .int w, .int 4095, .int 0]) (rest := []) ⟨hx, hb, hml, hown, hts⟩ (c_aim0 l dC dI cI cJ cS ss_.heap.size x5 x7 w wm wt wv wk we wf wp ) (cwV 4 hts gX9_heap_X8_aim rfl rfl rfl (by decide +kernel) ⟨Nat.le_of_ble_eq_true rfl, Nat.le_of_ble_eq_true rfl⟩) (preEV (hP.sub (ws' := [(x5, .inr (8, [.ref wm, .ref wt, .ref wv, .ref wk, .int 1, .ref we, .ref wf, .int 0, .ref wp, .int 0, .long 0, .int 0, .int 0, .int 0, .int 0, .int 0, .int 0]))]) [2] rfl) hE (hD.sub (ws' := [(x5, .inr (8, [.ref wm, .ref wt, .ref wv, .ref wk, .int 1, .ref we, .ref wf, .int 0, .ref wp, .int 0, .long 0, .int 0, .int 0, .int 0, .int 0, .int 0, .int 0]))]) [2] (by decide) rfl) 0 (ci := 8) rfl rfl) rfl rfl hl.1 rfl (lv_room (Nat.le_of_ble_eq_true rfl)) dX9_heap_62 ⟨by decide +kernel, by decide +kernel⟩) (fun u_18 H locs hr_17 hP hD hS => ?_)
          try dsimp only at hr_17
          have hP : va_P (dC, dI) vwCl [(h, .inr (9, [.ref x1, .ref x2, .ref x3, .ref x4, .ref x5, .ref x6, .ref x7])), (x1, aI cI 6 (fun _ => 0)), (wm, .inr (2, [.ref na, .ref nb, .int 0, .int 0, .int 0])), (wt, .inr (1, [.ref ta, .ref tb, .ref tc, .ref td, .int 0, .int 0, .int 0])), (ta, aJ cJ 4096 (fun _ => 0)), (tb, aJ cJ 4096 (fun _ => 0)), (tc, aI cI 4096 (fun _ => 0)), (td, aI cI 8192 (fun _ => 0)), (wv, aJ cJ 16384 (fun _ => 0)), (wk, aI cI 4096 (fun _ => 0)), (x7, .inr (4, [.ref x7s, .ref x7c, .int 0, .int 0, .int 0, .int 0])), (x5, .inr (8, [.ref wm, .ref wt, .ref wv, .ref wk, .int 1, .ref we, .ref wf, .int 0, .ref x7, .int (w &&& 3), .long 9007199254740991, .int 4095, .int 0, .int 0, .int 0, .int 0, .int 0]))] H := hP
          have hD : va_D A [(h, .inr (9, [.ref x1, .ref x2, .ref x3, .ref x4, .ref x5, .ref x6, .ref x7])), (x1, aI cI 6 (fun _ => 0)), (wm, .inr (2, [.ref na, .ref nb, .int 0, .int 0, .int 0])), (wt, .inr (1, [.ref ta, .ref tb, .ref tc, .ref td, .int 0, .int 0, .int 0])), (ta, aJ cJ 4096 (fun _ => 0)), (tb, aJ cJ 4096 (fun _ => 0)), (tc, aI cI 4096 (fun _ => 0)), (td, aI cI 8192 (fun _ => 0)), (wv, aJ cJ 16384 (fun _ => 0)), (wk, aI cI 4096 (fun _ => 0)), (x7, .inr (4, [.ref x7s, .ref x7c, .int 0, .int 0, .int 0, .int 0])), (x5, .inr (8, [.ref wm, .ref wt, .ref wv, .ref wk, .int 1, .ref we, .ref wf, .int 0, .ref x7, .int (w &&& 3), .long 9007199254740991, .int 4095, .int 0, .int 0, .int 0, .int 0, .int 0]))] := hD
          refine lv_aload_n hx hb dX9_heap_65 rfl (lv_at hl 2 rfl) ?_
          refine va_get (D := (dC, dI)) (ci := 9) (v := .ref x5) (C := RX9) (T := TX9) (N := 7) hx hb hts hiX9 hown hK hP 0 rfl rfl 4 (by decide) (hts (.fieldLink RX9 37 "WatchedPrograms" "watch" "LWatchedPrograms$Watch;") (by decide +kernel)) (fun _ h9 => h9) rfl dX9_heap_66 ?_
          refine lv_iload_n hx hb dX9_heap_69 rfl (lv_at hl 5 rfl) ?_
          refine lv_iload hx hb dX9_heap_70 (lv_at hl 1 rfl) ?_
          refine vp_callSi (va_Run.run (va_runS (As := [.int o, .int 4095]) (rest := [.ref x5]) ⟨hx, hb, hml, hown, hts⟩ (c_spread l dC dI cI cJ cS  o ) (va_cwS 2 hts gX9_heap_X9_spread rfl rfl rfl (by decide +kernel) ⟨Nat.le_of_ble_eq_true rfl, Nat.le_of_ble_eq_true rfl⟩) (preR (hP.sub (ws' := []) [] rfl) hE) rfl rfl hl.1 rfl (lv_room (Nat.le_of_ble_eq_true rfl)) dX9_heap_72 ⟨by decide +kernel, by decide +kernel⟩)) (fun r_19 hr_20 => ?_)
          refine lv_iload hx hb dX9_heap_75 (lv_at hl 6 rfl) ?_
          refine lv_iload hx hb dX9_heap_77 (lv_at hl 0 rfl) ?_
          refine vp_callSi (va_Run.run (va_runS (As := [.int 0, .int 0]) (rest := [.int r_19, .ref x5]) ⟨hx, hb, hml, hown, hts⟩ (c_spread0 l dC dI cI cJ cS  0 ) (va_cwS 2 hts gX9_heap_X9_spread rfl rfl rfl (by decide +kernel) ⟨Nat.le_of_ble_eq_true rfl, Nat.le_of_ble_eq_true rfl⟩) (preR (hP.sub (ws' := []) [] rfl) hE) rfl rfl hl.1 rfl (lv_room (Nat.le_of_ble_eq_true rfl)) dX9_heap_79 ⟨by decide +kernel, by decide +kernel⟩)) (fun r_21 hr_22 => ?_)
          obtain rfl := hr_22
          have hFc := va_free (wc := [(x5, .inr (8, [.ref wm, .ref wt, .ref wv, .ref wk, .int 1, .ref we, .ref wf, .int 0, .ref x7, .int (w &&& 3), .long 9007199254740991, .int 4095, .int 0, .int 0, .int 0, .int 0, .int 0])), (wm, .inr (2, [.ref na, .ref nb, .int 0, .int 0, .int 0])), (x7, .inr (4, [.ref x7s, .ref x7c, .int 0, .int 0, .int 0, .int 0])), (wv, aJ cJ 16384 (fun _ => 0)), (wk, aI cI 4096 (fun _ => 0))]) hD hS hA [11, 2, 10, 8, 9] rfl
          refine zCi (wr := [(h, .inr (9, [.ref x1, .ref x2, .ref x3, .ref x4, .ref x5, .ref x6, .ref x7])), (x1, aI cI 6 (fun _ => 0)), (wt, .inr (1, [.ref ta, .ref tb, .ref tc, .ref td, .int 0, .int 0, .int 0])), (ta, aJ cJ 4096 (fun _ => 0)), (tb, aJ cJ 4096 (fun _ => 0)), (tc, aI cI 4096 (fun _ => 0)), (td, aI cI 8192 (fun _ => 0))]) hP hD hS hFc [11, 2, 10, 8, 9] [0, 1, 3, 4, 5, 6, 7] rfl rfl (by decide) (by decide) (va_runV (As := [.int r_19, .int 0]) (rest := []) ⟨hx, hb, hml, hown, hts⟩ (c_findHeap0 l dC dI cI cJ cS H.size x5 r_19 wm wt wv wk we wf x7 (w &&& 3) na nb x7s x7c ) (cwV 2 hts gX9_heap_X8_findHeap rfl rfl rfl (by decide +kernel) ⟨Nat.le_of_ble_eq_true rfl, Nat.le_of_ble_eq_true rfl⟩) (preEV (hP.sub (ws' := [(x5, .inr (8, [.ref wm, .ref wt, .ref wv, .ref wk, .int 1, .ref we, .ref wf, .int 0, .ref x7, .int (w &&& 3), .long 9007199254740991, .int 4095, .int 0, .int 0, .int 0, .int 0, .int 0])), (wm, .inr (2, [.ref na, .ref nb, .int 0, .int 0, .int 0])), (x7, .inr (4, [.ref x7s, .ref x7c, .int 0, .int 0, .int 0, .int 0])), (wv, aJ cJ 16384 (fun _ => 0)), (wk, aI cI 4096 (fun _ => 0))]) [11, 2, 10, 8, 9] rfl) hE (hD.sub (ws' := [(x5, .inr (8, [.ref wm, .ref wt, .ref wv, .ref wk, .int 1, .ref we, .ref wf, .int 0, .ref x7, .int (w &&& 3), .long 9007199254740991, .int 4095, .int 0, .int 0, .int 0, .int 0, .int 0])), (wm, .inr (2, [.ref na, .ref nb, .int 0, .int 0, .int 0])), (x7, .inr (4, [.ref x7s, .ref x7c, .int 0, .int 0, .int 0, .int 0])), (wv, aJ cJ 16384 (fun _ => 0)), (wk, aI cI 4096 (fun _ => 0))]) [11, 2, 10, 8, 9] (by decide) rfl) 0 (ci := 8) rfl rfl) rfl rfl hl.1 rfl (lv_room (Nat.le_of_ble_eq_true rfl)) dX9_heap_82 ⟨by decide +kernel, by decide +kernel⟩) (fun r_23 u_25 H locs hr_24 hP hD hS => ?_)
          try dsimp only at hr_24
          have hP : va_P (dC, dI) vwCl [(h, .inr (9, [.ref x1, .ref x2, .ref x3, .ref x4, .ref x5, .ref x6, .ref x7])), (x1, aI cI 6 (fun _ => 0)), (wt, .inr (1, [.ref ta, .ref tb, .ref tc, .ref td, .int 0, .int 0, .int 0])), (ta, aJ cJ 4096 (fun _ => 0)), (tb, aJ cJ 4096 (fun _ => 0)), (tc, aI cI 4096 (fun _ => 0)), (td, aI cI 8192 (fun _ => 0)), (x5, .inr (8, [.ref wm, .ref wt, .ref wv, .ref wk, .int 1, .ref we, .ref wf, .int 0, .ref x7, .int (w &&& 3), .long 9007199254740991, .int 4095, .int 0, .int 1, .int 0, .int 0, .int 0])), (wv, aJ cJ 16384 (vp_updL (vp_updL (vp_updL (vp_updL (fun _ => 0) 0 1) 4096 1) 8192 1) 12288 1)), (wk, aI cI 4096 (upd (fun _ => 0) 0 1)), (wm, .inr (2, [.ref na, .ref nb, .int 0, .int 0, .int 0])), (x7, .inr (4, [.ref x7s, .ref x7c, .int 0, .int 0, .int 0, .int 0]))] H := hP
          have hD : va_D A [(h, .inr (9, [.ref x1, .ref x2, .ref x3, .ref x4, .ref x5, .ref x6, .ref x7])), (x1, aI cI 6 (fun _ => 0)), (wt, .inr (1, [.ref ta, .ref tb, .ref tc, .ref td, .int 0, .int 0, .int 0])), (ta, aJ cJ 4096 (fun _ => 0)), (tb, aJ cJ 4096 (fun _ => 0)), (tc, aI cI 4096 (fun _ => 0)), (td, aI cI 8192 (fun _ => 0)), (x5, .inr (8, [.ref wm, .ref wt, .ref wv, .ref wk, .int 1, .ref we, .ref wf, .int 0, .ref x7, .int (w &&& 3), .long 9007199254740991, .int 4095, .int 0, .int 1, .int 0, .int 0, .int 0])), (wv, aJ cJ 16384 (vp_updL (vp_updL (vp_updL (vp_updL (fun _ => 0) 0 1) 4096 1) 8192 1) 12288 1)), (wk, aI cI 4096 (upd (fun _ => 0) 0 1)), (wm, .inr (2, [.ref na, .ref nb, .int 0, .int 0, .int 0])), (x7, .inr (4, [.ref x7s, .ref x7c, .int 0, .int 0, .int 0, .int 0]))] := hD
          obtain rfl := hr_24
          refine lv_istore (lv' := [(8, .int 0), (7, .int 0), (6, .int 4095), (0, .ref h), (1, .int w), (2, .int 0), (3, .int o), (4, .int 0), (5, .int q)]) hx hb dX9_heap_85 hl (by decide) rfl (fun ls hl => ?_)
          refine lv_iload hx hb dX9_heap_87 (lv_at hl 8 rfl) ?_
          refine lv_if_ne (tgt := 102) hx hb dX9_heap_89 (by decide) (fun c_26 => ?_) (fun c_26 => ?_)
          · refine lv_iload hx hb dX9_heap_102 (lv_at hl 0 rfl) ?_
            refine lv_iload hx hb dX9_heap_104 (lv_at hl 1 rfl) ?_
            refine vp_callSi (va_Run.run (va_runS (As := [.int 0, .int 0]) (rest := []) ⟨hx, hb, hml, hown, hts⟩ (c_gather0 l dC dI cI cJ cS   ) (va_cwS 2 hts gX9_heap_X9_gather rfl rfl rfl (by decide +kernel) ⟨Nat.le_of_ble_eq_true rfl, Nat.le_of_ble_eq_true rfl⟩) (preR (hP.sub (ws' := []) [] rfl) hE) rfl rfl hl.1 rfl (lv_room (Nat.le_of_ble_eq_true rfl)) dX9_heap_106 ⟨by decide +kernel, by decide +kernel⟩)) (fun r_27 hr_28 => ?_)
            obtain rfl := hr_28
            have hP9 := hP.sub (ws' := []) [] rfl
            have hD9 := hD.sub (ws' := []) [] (by decide) rfl
            exact W.iret (v := 0) hx hb hr (fun tt_ ht hW => ⟨⟨_, (), rfl, (by rw [okE, if_pos (by simp only [inR, Int32.lt_iff_toInt_lt, Int32.le_iff_toInt_le, ← Int32.toInt_inj, tI_0, tI_1, tI_2, tI_3, tI_4, tI_5, tI_6, tI_7, tI_8, tI_20, tI_30, tI_300, tI_400, tI_4095, tI_4096, tI_m1, tI_m2, tI_m3, tI_m9] at k_4 k_11 k_15 c_26 ⊢ <;> omega)]; exact (if_neg c_26).symm), by rw [ht]; exact hP9, hD9⟩, hS.F ht⟩) hS.2.2 dX9_heap_109
          · refine lv_aload_n hx hb dX9_heap_92 rfl (lv_at hl 3 rfl) ?_
            refine va_get (D := (dC, dI)) (ci := 9) (v := .ref x5) (C := RX9) (T := TX9) (N := 7) hx hb hts hiX9 hown hK hP 0 rfl rfl 4 (by decide) (hts (.fieldLink RX9 37 "WatchedPrograms" "watch" "LWatchedPrograms$Watch;") (by decide +kernel)) (fun _ h9 => h9) rfl dX9_heap_93 ?_
            refine vp_callSi (va_Run.run (va_runV (As := []) (rest := []) ⟨hx, hb, hml, hown, hts⟩ (c_foundSize0 l dC dI cI cJ cS  x5 wm wt wv wk we wf x7 (w &&& 3) x7s x7c ) (cwV 0 hts gX9_heap_X8_foundSize rfl rfl rfl (by decide +kernel) ⟨Nat.le_of_ble_eq_true rfl, Nat.le_of_ble_eq_true rfl⟩) (preRV (hP.sub (ws' := [(x5, .inr (8, [.ref wm, .ref wt, .ref wv, .ref wk, .int 1, .ref we, .ref wf, .int 0, .ref x7, .int (w &&& 3), .long 9007199254740991, .int 4095, .int 0, .int 1, .int 0, .int 0, .int 0])), (x7, .inr (4, [.ref x7s, .ref x7c, .int 0, .int 0, .int 0, .int 0]))]) [7, 11] rfl) hE 0 (ci := 8) rfl rfl) rfl rfl hl.1 rfl (lv_room (Nat.le_of_ble_eq_true rfl)) dX9_heap_96 ⟨by decide +kernel, by decide +kernel⟩)) (fun r_29 hr_30 => ?_)
            obtain rfl := hr_30
            refine lv_goto (tgt := 109) hx hb dX9_heap_99 (by decide) ?_
            have hP9 := hP.sub (ws' := []) [] rfl
            have hD9 := hD.sub (ws' := []) [] (by decide) rfl
            exact W.iret (v := 1) hx hb hr (fun tt_ ht hW => ⟨⟨_, (), rfl, (by rw [okE, if_pos (by simp only [inR, Int32.lt_iff_toInt_lt, Int32.le_iff_toInt_le, ← Int32.toInt_inj, tI_0, tI_1, tI_2, tI_3, tI_4, tI_5, tI_6, tI_7, tI_8, tI_20, tI_30, tI_300, tI_400, tI_4095, tI_4096, tI_m1, tI_m2, tI_m3, tI_m9] at k_4 k_11 k_15 c_26 ⊢ <;> omega)]; exact (if_pos c_26).symm), by rw [ht]; exact hP9, hD9⟩, hS.F ht⟩) hS.2.2 dX9_heap_109
        · have k_31 : ¬ (inR s 0 0) := bI_0 hr_13 c_14
          refine lv_iconst (v := (-1)) hx hb dX9_heap_48 (by decide) ?_
          have hP9 := hP.sub (ws' := []) [] rfl
          have hD9 := hD.sub (ws' := []) [] (by decide) rfl
          exact W.iret (v := (-1)) hx hb hr (fun tt_ ht hW => ⟨⟨_, (), rfl, (by rw [okE, if_neg (by simp only [inR, Int32.lt_iff_toInt_lt, Int32.le_iff_toInt_le, ← Int32.toInt_inj, tI_0, tI_1, tI_2, tI_3, tI_4, tI_5, tI_6, tI_7, tI_8, tI_20, tI_30, tI_300, tI_400, tI_4095, tI_4096, tI_m1, tI_m2, tI_m3, tI_m9] at k_4 k_11 k_31 ⊢ <;> omega)]), by rw [ht]; exact hP9, hD9⟩, hS.F ht⟩) hS.2.2 dX9_heap_49
    · refine lv_aload_n hx hb dX9_heap_12 rfl (lv_at hl 0 rfl) ?_
      refine lv_iload_n hx hb dX9_heap_13 rfl (lv_at hl 1 rfl) ?_
      refine vp_callSi (va_Run.run (va_runV (As := [.int w]) (rest := []) ⟨hx, hb, hml, hown, hts⟩ (c_cellsWithin l dC dI cI cJ cS  h w x1 x2 x3 x4 x5 x6 x7 ) (cwV 1 hts gX9_heap_X9_cellsWithin rfl rfl rfl (by decide +kernel) ⟨Nat.le_of_ble_eq_true rfl, Nat.le_of_ble_eq_true rfl⟩) (preRV (hP.sub (ws' := [(h, .inr (9, [.ref x1, .ref x2, .ref x3, .ref x4, .ref x5, .ref x6, .ref x7])), (x1, aI cI 6 (fun _ => 0))]) [0, 1] rfl) hE 0 (ci := 9) rfl rfl) rfl rfl hl.1 rfl (lv_room (Nat.le_of_ble_eq_true rfl)) dX9_heap_14 ⟨by decide +kernel, by decide +kernel⟩)) (fun r_32 hr_33 => ?_)
      obtain rfl := hr_33
      refine lv_istore (lv' := [(6, .int 4095), (0, .ref h), (1, .int w), (2, .int 1), (3, .int o), (4, .int s), (5, .int q)]) hx hb dX9_heap_17 hl (by decide) rfl (fun ls hl => ?_)
      refine lv_sipush (v := 4095) hx hb dX9_heap_19 (by decide) ?_
      refine lv_iload hx hb dX9_heap_22 (lv_at hl 0 rfl) ?_
      refine lv_iconst (v := (-1)) hx hb dX9_heap_24 (by decide) ?_
      refine lv_ixor hx hb dX9_heap_25 ?_
      refine zi (y := (-4096)) (by decide) ?_
      refine lv_iand hx hb dX9_heap_26 ?_
      refine zi (y := 0) (by decide) ?_
      refine lv_istore (lv' := [(7, .int 0), (6, .int 4095), (0, .ref h), (1, .int w), (2, .int 1), (3, .int o), (4, .int s), (5, .int q)]) hx hb dX9_heap_27 hl (by decide) rfl (fun ls hl => ?_)
      refine lv_iload_n hx hb dX9_heap_29 rfl (lv_at hl 5 rfl) ?_
      refine lv_iload hx hb dX9_heap_30 (lv_at hl 1 rfl) ?_
      refine vp_callSi (va_Run.run (va_runS (As := [.int o, .int 4095]) (rest := []) ⟨hx, hb, hml, hown, hts⟩ (c_isPacked l dC dI cI cJ cS  o ) (va_cwS 2 hts gX9_heap_X9_isPacked rfl rfl rfl (by decide +kernel) ⟨Nat.le_of_ble_eq_true rfl, Nat.le_of_ble_eq_true rfl⟩) (preR (hP.sub (ws' := []) [] rfl) hE) rfl rfl hl.1 rfl (lv_room (Nat.le_of_ble_eq_true rfl)) dX9_heap_32 ⟨by decide +kernel, by decide +kernel⟩)) (fun r_34 hr_35 => ?_)
      refine lv_if_eq (tgt := 48) hx hb dX9_heap_35 (by decide) (fun c_36 => ?_) (fun c_36 => ?_)
      · have k_37 : ¬ (inR o 0 4095) := bI_0 hr_35 c_36
        refine lv_iconst (v := (-1)) hx hb dX9_heap_48 (by decide) ?_
        have hP9 := hP.sub (ws' := []) [] rfl
        have hD9 := hD.sub (ws' := []) [] (by decide) rfl
        exact W.iret (v := (-1)) hx hb hr (fun tt_ ht hW => ⟨⟨_, (), rfl, (by rw [okE, if_neg (by simp only [inR, Int32.lt_iff_toInt_lt, Int32.le_iff_toInt_le, ← Int32.toInt_inj, tI_0, tI_1, tI_2, tI_3, tI_4, tI_5, tI_6, tI_7, tI_8, tI_20, tI_30, tI_300, tI_400, tI_4095, tI_4096, tI_m1, tI_m2, tI_m3, tI_m9] at k_4 k_37 ⊢ <;> omega)]), by rw [ht]; exact hP9, hD9⟩, hS.F ht⟩) hS.2.2 dX9_heap_49
      · have k_38 : inR o 0 4095 := bI_1 hr_35 c_36
        refine lv_iload hx hb dX9_heap_38 (lv_at hl 6 rfl) ?_
        refine lv_iload hx hb dX9_heap_40 (lv_at hl 0 rfl) ?_
        refine vp_callSi (va_Run.run (va_runS (As := [.int s, .int 0]) (rest := []) ⟨hx, hb, hml, hown, hts⟩ (c_isPacked0 l dC dI cI cJ cS  s ) (va_cwS 2 hts gX9_heap_X9_isPacked rfl rfl rfl (by decide +kernel) ⟨Nat.le_of_ble_eq_true rfl, Nat.le_of_ble_eq_true rfl⟩) (preR (hP.sub (ws' := []) [] rfl) hE) rfl rfl hl.1 rfl (lv_room (Nat.le_of_ble_eq_true rfl)) dX9_heap_42 ⟨by decide +kernel, by decide +kernel⟩)) (fun r_39 hr_40 => ?_)
        refine lv_if_ne (tgt := 50) hx hb dX9_heap_45 (by decide) (fun c_41 => ?_) (fun c_41 => ?_)
        · have k_42 : inR s 0 0 := bI_1 hr_40 c_41
          obtain rfl := in00 k_42
          refine lv_aload_n hx hb dX9_heap_50 rfl (lv_at hl 2 rfl) ?_
          refine va_get (D := (dC, dI)) (ci := 9) (v := .ref x5) (C := RX9) (T := TX9) (N := 7) hx hb hts hiX9 hown hK hP 0 rfl rfl 4 (by decide) (hts (.fieldLink RX9 37 "WatchedPrograms" "watch" "LWatchedPrograms$Watch;") (by decide +kernel)) (fun _ h9 => h9) rfl dX9_heap_51 ?_
          refine lv_aload_n hx hb dX9_heap_54 rfl (lv_at hl 2 rfl) ?_
          refine va_get (D := (dC, dI)) (ci := 9) (v := .ref x7) (C := RX9) (T := TX9) (N := 7) hx hb hts hiX9 hown hK hP 0 rfl rfl 6 (by decide) (hts (.fieldLink RX9 51 "WatchedPrograms" "program" "LWatchedPrograms$Program;") (by decide +kernel)) (fun _ h9 => h9) rfl dX9_heap_55 ?_
          refine lv_iload_n hx hb dX9_heap_58 rfl (lv_at hl 3 rfl) ?_
          refine lv_iload hx hb dX9_heap_59 (lv_at hl 1 rfl) ?_
          refine lv_iload_n hx hb dX9_heap_61 rfl (lv_at hl 4 rfl) ?_
          have hFc := va_free (wc := [(x5, .inr (8, [.ref wm, .ref wt, .ref wv, .ref wk, .int 1, .ref we, .ref wf, .int 0, .ref wp, .int 0, .long 0, .int 0, .int 0, .int 0, .int 0, .int 0, .int 0]))]) hD hS hA [2] rfl
          refine zCv (wr := [(h, .inr (9, [.ref x1, .ref x2, .ref x3, .ref x4, .ref x5, .ref x6, .ref x7])), (x1, aI cI 6 (fun _ => 0)), (wm, .inr (2, [.ref na, .ref nb, .int 0, .int 0, .int 0])), (wt, .inr (1, [.ref ta, .ref tb, .ref tc, .ref td, .int 0, .int 0, .int 0])), (ta, aJ cJ 4096 (fun _ => 0)), (tb, aJ cJ 4096 (fun _ => 0)), (tc, aI cI 4096 (fun _ => 0)), (td, aI cI 8192 (fun _ => 0)), (wv, aJ cJ 16384 (fun _ => 0)), (wk, aI cI 4096 (fun _ => 0)), (x7, .inr (4, [.ref x7s, .ref x7c, .int 0, .int 0, .int 0, .int 0]))]) hP hD hS hFc [2] [0, 1, 3, 4, 5, 6, 7, 8, 9, 10, 11] rfl rfl (by decide) (by decide) (va_runV (As := [.ref x7, .int w, .int 4095, .int 1]) (rest := []) ⟨hx, hb, hml, hown, hts⟩ (c_aim1 l dC dI cI cJ cS ss_.heap.size x5 x7 w wm wt wv wk we wf wp ) (cwV 4 hts gX9_heap_X8_aim rfl rfl rfl (by decide +kernel) ⟨Nat.le_of_ble_eq_true rfl, Nat.le_of_ble_eq_true rfl⟩) (preEV (hP.sub (ws' := [(x5, .inr (8, [.ref wm, .ref wt, .ref wv, .ref wk, .int 1, .ref we, .ref wf, .int 0, .ref wp, .int 0, .long 0, .int 0, .int 0, .int 0, .int 0, .int 0, .int 0]))]) [2] rfl) hE (hD.sub (ws' := [(x5, .inr (8, [.ref wm, .ref wt, .ref wv, .ref wk, .int 1, .ref we, .ref wf, .int 0, .ref wp, .int 0, .long 0, .int 0, .int 0, .int 0, .int 0, .int 0, .int 0]))]) [2] (by decide) rfl) 0 (ci := 8) rfl rfl) rfl rfl hl.1 rfl (lv_room (Nat.le_of_ble_eq_true rfl)) dX9_heap_62 ⟨by decide +kernel, by decide +kernel⟩) (fun u_45 H locs hr_44 hP hD hS => ?_)
          try dsimp only at hr_44
          have hP : va_P (dC, dI) vwCl [(h, .inr (9, [.ref x1, .ref x2, .ref x3, .ref x4, .ref x5, .ref x6, .ref x7])), (x1, aI cI 6 (fun _ => 0)), (wm, .inr (2, [.ref na, .ref nb, .int 0, .int 0, .int 0])), (wt, .inr (1, [.ref ta, .ref tb, .ref tc, .ref td, .int 0, .int 0, .int 0])), (ta, aJ cJ 4096 (fun _ => 0)), (tb, aJ cJ 4096 (fun _ => 0)), (tc, aI cI 4096 (fun _ => 0)), (td, aI cI 8192 (fun _ => 0)), (wv, aJ cJ 16384 (fun _ => 0)), (wk, aI cI 4096 (fun _ => 0)), (x7, .inr (4, [.ref x7s, .ref x7c, .int 0, .int 0, .int 0, .int 0])), (x5, .inr (8, [.ref wm, .ref wt, .ref wv, .ref wk, .int 1, .ref we, .ref wf, .int 0, .ref x7, .int (w &&& 3), .long 4611686018427387903, .int 4095, .int 0, .int 0, .int 0, .int 0, .int 0]))] H := hP
          have hD : va_D A [(h, .inr (9, [.ref x1, .ref x2, .ref x3, .ref x4, .ref x5, .ref x6, .ref x7])), (x1, aI cI 6 (fun _ => 0)), (wm, .inr (2, [.ref na, .ref nb, .int 0, .int 0, .int 0])), (wt, .inr (1, [.ref ta, .ref tb, .ref tc, .ref td, .int 0, .int 0, .int 0])), (ta, aJ cJ 4096 (fun _ => 0)), (tb, aJ cJ 4096 (fun _ => 0)), (tc, aI cI 4096 (fun _ => 0)), (td, aI cI 8192 (fun _ => 0)), (wv, aJ cJ 16384 (fun _ => 0)), (wk, aI cI 4096 (fun _ => 0)), (x7, .inr (4, [.ref x7s, .ref x7c, .int 0, .int 0, .int 0, .int 0])), (x5, .inr (8, [.ref wm, .ref wt, .ref wv, .ref wk, .int 1, .ref we, .ref wf, .int 0, .ref x7, .int (w &&& 3), .long 4611686018427387903, .int 4095, .int 0, .int 0, .int 0, .int 0, .int 0]))] := hD
          refine lv_aload_n hx hb dX9_heap_65 rfl (lv_at hl 2 rfl) ?_
          refine va_get (D := (dC, dI)) (ci := 9) (v := .ref x5) (C := RX9) (T := TX9) (N := 7) hx hb hts hiX9 hown hK hP 0 rfl rfl 4 (by decide) (hts (.fieldLink RX9 37 "WatchedPrograms" "watch" "LWatchedPrograms$Watch;") (by decide +kernel)) (fun _ h9 => h9) rfl dX9_heap_66 ?_
          refine lv_iload_n hx hb dX9_heap_69 rfl (lv_at hl 5 rfl) ?_
          refine lv_iload hx hb dX9_heap_70 (lv_at hl 1 rfl) ?_
          refine vp_callSi (va_Run.run (va_runS (As := [.int o, .int 4095]) (rest := [.ref x5]) ⟨hx, hb, hml, hown, hts⟩ (c_spread l dC dI cI cJ cS  o ) (va_cwS 2 hts gX9_heap_X9_spread rfl rfl rfl (by decide +kernel) ⟨Nat.le_of_ble_eq_true rfl, Nat.le_of_ble_eq_true rfl⟩) (preR (hP.sub (ws' := []) [] rfl) hE) rfl rfl hl.1 rfl (lv_room (Nat.le_of_ble_eq_true rfl)) dX9_heap_72 ⟨by decide +kernel, by decide +kernel⟩)) (fun r_46 hr_47 => ?_)
          refine lv_iload hx hb dX9_heap_75 (lv_at hl 6 rfl) ?_
          refine lv_iload hx hb dX9_heap_77 (lv_at hl 0 rfl) ?_
          refine vp_callSi (va_Run.run (va_runS (As := [.int 0, .int 0]) (rest := [.int r_46, .ref x5]) ⟨hx, hb, hml, hown, hts⟩ (c_spread0 l dC dI cI cJ cS  0 ) (va_cwS 2 hts gX9_heap_X9_spread rfl rfl rfl (by decide +kernel) ⟨Nat.le_of_ble_eq_true rfl, Nat.le_of_ble_eq_true rfl⟩) (preR (hP.sub (ws' := []) [] rfl) hE) rfl rfl hl.1 rfl (lv_room (Nat.le_of_ble_eq_true rfl)) dX9_heap_79 ⟨by decide +kernel, by decide +kernel⟩)) (fun r_48 hr_49 => ?_)
          obtain rfl := hr_49
          have hFc := va_free (wc := [(x5, .inr (8, [.ref wm, .ref wt, .ref wv, .ref wk, .int 1, .ref we, .ref wf, .int 0, .ref x7, .int (w &&& 3), .long 4611686018427387903, .int 4095, .int 0, .int 0, .int 0, .int 0, .int 0])), (wm, .inr (2, [.ref na, .ref nb, .int 0, .int 0, .int 0])), (x7, .inr (4, [.ref x7s, .ref x7c, .int 0, .int 0, .int 0, .int 0])), (wv, aJ cJ 16384 (fun _ => 0)), (wk, aI cI 4096 (fun _ => 0))]) hD hS hA [11, 2, 10, 8, 9] rfl
          refine zCi (wr := [(h, .inr (9, [.ref x1, .ref x2, .ref x3, .ref x4, .ref x5, .ref x6, .ref x7])), (x1, aI cI 6 (fun _ => 0)), (wt, .inr (1, [.ref ta, .ref tb, .ref tc, .ref td, .int 0, .int 0, .int 0])), (ta, aJ cJ 4096 (fun _ => 0)), (tb, aJ cJ 4096 (fun _ => 0)), (tc, aI cI 4096 (fun _ => 0)), (td, aI cI 8192 (fun _ => 0))]) hP hD hS hFc [11, 2, 10, 8, 9] [0, 1, 3, 4, 5, 6, 7] rfl rfl (by decide) (by decide) (va_runV (As := [.int r_46, .int 0]) (rest := []) ⟨hx, hb, hml, hown, hts⟩ (c_findHeap1 l dC dI cI cJ cS H.size x5 r_46 wm wt wv wk we wf x7 (w &&& 3) na nb x7s x7c ) (cwV 2 hts gX9_heap_X8_findHeap rfl rfl rfl (by decide +kernel) ⟨Nat.le_of_ble_eq_true rfl, Nat.le_of_ble_eq_true rfl⟩) (preEV (hP.sub (ws' := [(x5, .inr (8, [.ref wm, .ref wt, .ref wv, .ref wk, .int 1, .ref we, .ref wf, .int 0, .ref x7, .int (w &&& 3), .long 4611686018427387903, .int 4095, .int 0, .int 0, .int 0, .int 0, .int 0])), (wm, .inr (2, [.ref na, .ref nb, .int 0, .int 0, .int 0])), (x7, .inr (4, [.ref x7s, .ref x7c, .int 0, .int 0, .int 0, .int 0])), (wv, aJ cJ 16384 (fun _ => 0)), (wk, aI cI 4096 (fun _ => 0))]) [11, 2, 10, 8, 9] rfl) hE (hD.sub (ws' := [(x5, .inr (8, [.ref wm, .ref wt, .ref wv, .ref wk, .int 1, .ref we, .ref wf, .int 0, .ref x7, .int (w &&& 3), .long 4611686018427387903, .int 4095, .int 0, .int 0, .int 0, .int 0, .int 0])), (wm, .inr (2, [.ref na, .ref nb, .int 0, .int 0, .int 0])), (x7, .inr (4, [.ref x7s, .ref x7c, .int 0, .int 0, .int 0, .int 0])), (wv, aJ cJ 16384 (fun _ => 0)), (wk, aI cI 4096 (fun _ => 0))]) [11, 2, 10, 8, 9] (by decide) rfl) 0 (ci := 8) rfl rfl) rfl rfl hl.1 rfl (lv_room (Nat.le_of_ble_eq_true rfl)) dX9_heap_82 ⟨by decide +kernel, by decide +kernel⟩) (fun r_50 u_52 H locs hr_51 hP hD hS => ?_)
          try dsimp only at hr_51
          have hP : va_P (dC, dI) vwCl [(h, .inr (9, [.ref x1, .ref x2, .ref x3, .ref x4, .ref x5, .ref x6, .ref x7])), (x1, aI cI 6 (fun _ => 0)), (wt, .inr (1, [.ref ta, .ref tb, .ref tc, .ref td, .int 0, .int 0, .int 0])), (ta, aJ cJ 4096 (fun _ => 0)), (tb, aJ cJ 4096 (fun _ => 0)), (tc, aI cI 4096 (fun _ => 0)), (td, aI cI 8192 (fun _ => 0)), (x5, .inr (8, [.ref wm, .ref wt, .ref wv, .ref wk, .int 1, .ref we, .ref wf, .int 0, .ref x7, .int (w &&& 3), .long 4611686018427387903, .int 4095, .int 0, .int 1, .int 0, .int 0, .int 0])), (wv, aJ cJ 16384 (vp_updL (vp_updL (vp_updL (vp_updL (fun _ => 0) 0 1) 4096 1) 8192 1) 12288 1)), (wk, aI cI 4096 (upd (fun _ => 0) 0 1)), (wm, .inr (2, [.ref na, .ref nb, .int 0, .int 0, .int 0])), (x7, .inr (4, [.ref x7s, .ref x7c, .int 0, .int 0, .int 0, .int 0]))] H := hP
          have hD : va_D A [(h, .inr (9, [.ref x1, .ref x2, .ref x3, .ref x4, .ref x5, .ref x6, .ref x7])), (x1, aI cI 6 (fun _ => 0)), (wt, .inr (1, [.ref ta, .ref tb, .ref tc, .ref td, .int 0, .int 0, .int 0])), (ta, aJ cJ 4096 (fun _ => 0)), (tb, aJ cJ 4096 (fun _ => 0)), (tc, aI cI 4096 (fun _ => 0)), (td, aI cI 8192 (fun _ => 0)), (x5, .inr (8, [.ref wm, .ref wt, .ref wv, .ref wk, .int 1, .ref we, .ref wf, .int 0, .ref x7, .int (w &&& 3), .long 4611686018427387903, .int 4095, .int 0, .int 1, .int 0, .int 0, .int 0])), (wv, aJ cJ 16384 (vp_updL (vp_updL (vp_updL (vp_updL (fun _ => 0) 0 1) 4096 1) 8192 1) 12288 1)), (wk, aI cI 4096 (upd (fun _ => 0) 0 1)), (wm, .inr (2, [.ref na, .ref nb, .int 0, .int 0, .int 0])), (x7, .inr (4, [.ref x7s, .ref x7c, .int 0, .int 0, .int 0, .int 0]))] := hD
          obtain rfl := hr_51
          refine lv_istore (lv' := [(8, .int 0), (7, .int 0), (6, .int 4095), (0, .ref h), (1, .int w), (2, .int 1), (3, .int o), (4, .int 0), (5, .int q)]) hx hb dX9_heap_85 hl (by decide) rfl (fun ls hl => ?_)
          refine lv_iload hx hb dX9_heap_87 (lv_at hl 8 rfl) ?_
          refine lv_if_ne (tgt := 102) hx hb dX9_heap_89 (by decide) (fun c_53 => ?_) (fun c_53 => ?_)
          · refine lv_iload hx hb dX9_heap_102 (lv_at hl 0 rfl) ?_
            refine lv_iload hx hb dX9_heap_104 (lv_at hl 1 rfl) ?_
            refine vp_callSi (va_Run.run (va_runS (As := [.int 0, .int 0]) (rest := []) ⟨hx, hb, hml, hown, hts⟩ (c_gather0 l dC dI cI cJ cS   ) (va_cwS 2 hts gX9_heap_X9_gather rfl rfl rfl (by decide +kernel) ⟨Nat.le_of_ble_eq_true rfl, Nat.le_of_ble_eq_true rfl⟩) (preR (hP.sub (ws' := []) [] rfl) hE) rfl rfl hl.1 rfl (lv_room (Nat.le_of_ble_eq_true rfl)) dX9_heap_106 ⟨by decide +kernel, by decide +kernel⟩)) (fun r_54 hr_55 => ?_)
            obtain rfl := hr_55
            have hP9 := hP.sub (ws' := []) [] rfl
            have hD9 := hD.sub (ws' := []) [] (by decide) rfl
            exact W.iret (v := 0) hx hb hr (fun tt_ ht hW => ⟨⟨_, (), rfl, (by rw [okE, if_pos (by simp only [inR, Int32.lt_iff_toInt_lt, Int32.le_iff_toInt_le, ← Int32.toInt_inj, tI_0, tI_1, tI_2, tI_3, tI_4, tI_5, tI_6, tI_7, tI_8, tI_20, tI_30, tI_300, tI_400, tI_4095, tI_4096, tI_m1, tI_m2, tI_m3, tI_m9] at k_4 k_38 k_42 c_53 ⊢ <;> omega)]; exact (if_neg c_53).symm), by rw [ht]; exact hP9, hD9⟩, hS.F ht⟩) hS.2.2 dX9_heap_109
          · refine lv_aload_n hx hb dX9_heap_92 rfl (lv_at hl 3 rfl) ?_
            refine va_get (D := (dC, dI)) (ci := 9) (v := .ref x5) (C := RX9) (T := TX9) (N := 7) hx hb hts hiX9 hown hK hP 0 rfl rfl 4 (by decide) (hts (.fieldLink RX9 37 "WatchedPrograms" "watch" "LWatchedPrograms$Watch;") (by decide +kernel)) (fun _ h9 => h9) rfl dX9_heap_93 ?_
            refine vp_callSi (va_Run.run (va_runV (As := []) (rest := []) ⟨hx, hb, hml, hown, hts⟩ (c_foundSize1 l dC dI cI cJ cS  x5 wm wt wv wk we wf x7 (w &&& 3) x7s x7c ) (cwV 0 hts gX9_heap_X8_foundSize rfl rfl rfl (by decide +kernel) ⟨Nat.le_of_ble_eq_true rfl, Nat.le_of_ble_eq_true rfl⟩) (preRV (hP.sub (ws' := [(x5, .inr (8, [.ref wm, .ref wt, .ref wv, .ref wk, .int 1, .ref we, .ref wf, .int 0, .ref x7, .int (w &&& 3), .long 4611686018427387903, .int 4095, .int 0, .int 1, .int 0, .int 0, .int 0])), (x7, .inr (4, [.ref x7s, .ref x7c, .int 0, .int 0, .int 0, .int 0]))]) [7, 11] rfl) hE 0 (ci := 8) rfl rfl) rfl rfl hl.1 rfl (lv_room (Nat.le_of_ble_eq_true rfl)) dX9_heap_96 ⟨by decide +kernel, by decide +kernel⟩)) (fun r_56 hr_57 => ?_)
            obtain rfl := hr_57
            refine lv_goto (tgt := 109) hx hb dX9_heap_99 (by decide) ?_
            have hP9 := hP.sub (ws' := []) [] rfl
            have hD9 := hD.sub (ws' := []) [] (by decide) rfl
            exact W.iret (v := 1) hx hb hr (fun tt_ ht hW => ⟨⟨_, (), rfl, (by rw [okE, if_pos (by simp only [inR, Int32.lt_iff_toInt_lt, Int32.le_iff_toInt_le, ← Int32.toInt_inj, tI_0, tI_1, tI_2, tI_3, tI_4, tI_5, tI_6, tI_7, tI_8, tI_20, tI_30, tI_300, tI_400, tI_4095, tI_4096, tI_m1, tI_m2, tI_m3, tI_m9] at k_4 k_38 k_42 c_53 ⊢ <;> omega)]; exact (if_pos c_53).symm), by rw [ht]; exact hP9, hD9⟩, hS.F ht⟩) hS.2.2 dX9_heap_109
        · have k_58 : ¬ (inR s 0 0) := bI_0 hr_40 c_41
          refine lv_iconst (v := (-1)) hx hb dX9_heap_48 (by decide) ?_
          have hP9 := hP.sub (ws' := []) [] rfl
          have hD9 := hD.sub (ws' := []) [] (by decide) rfl
          exact W.iret (v := (-1)) hx hb hr (fun tt_ ht hW => ⟨⟨_, (), rfl, (by rw [okE, if_neg (by simp only [inR, Int32.lt_iff_toInt_lt, Int32.le_iff_toInt_le, ← Int32.toInt_inj, tI_0, tI_1, tI_2, tI_3, tI_4, tI_5, tI_6, tI_7, tI_8, tI_20, tI_30, tI_300, tI_400, tI_4095, tI_4096, tI_m1, tI_m2, tI_m3, tI_m9] at k_4 k_38 k_58 ⊢ <;> omega)]), by rw [ht]; exact hP9, hD9⟩, hS.F ht⟩) hS.2.2 dX9_heap_49
  · have k_59 : ¬ ((inR w 0 3 ∧ inR t 0 1) ∧ inR q 0 1) := bI_0 hr_2 c_3
    refine lv_iconst (v := (-1)) hx hb dX9_heap_10 (by decide) ?_
    have hP9 := hP.sub (ws' := []) [] rfl
    have hD9 := hD.sub (ws' := []) [] (by decide) rfl
    exact W.iret (v := (-1)) hx hb hr (fun tt_ ht hW => ⟨⟨_, (), rfl, (by rw [okE, if_neg (by simp only [inR, Int32.lt_iff_toInt_lt, Int32.le_iff_toInt_le, ← Int32.toInt_inj, tI_0, tI_1, tI_2, tI_3, tI_4, tI_5, tI_6, tI_7, tI_8, tI_20, tI_30, tI_300, tI_400, tI_4095, tI_4096, tI_m1, tI_m2, tI_m3, tI_m9] at k_59 ⊢ <;> omega)]), by rw [ht]; exact hP9, hD9⟩, hS.F ht⟩) hS.2.2 dX9_heap_11
set_option maxHeartbeats 1000000 in
set_option maxRecDepth 100000 in
theorem c_safe (l : Launch) (dC : Nat → ClassId) (dI : Nat → Nat → Nat) (cI cJ cS : ClassId) (sz : Nat) (h : Nat) (w : Int32) (t : Int32) (x1 : Nat) (x2 : Nat) (x3 : Nat) (x4 : Nat) (x5 : Nat) (x6 : Nat) (x7 : Nat) (wm : Nat) (wt : Nat) (wv : Nat) (wk : Nat) (we : Nat) (wf : Nat) (wp : Nat) (x7s : Nat) (x7c : Nat)  : Met l yX9_safe wsX9_safe ({ frames := 4, cells := 0, slots := 0, locals := 91 }) (va_Pc [.ref h, .int w, .int t] (PE dC dI cI cJ cS [(h, .inr (9, [.ref x1, .ref x2, .ref x3, .ref x4, .ref x5, .ref x6, .ref x7])), (x1, aI cI 6 (fun _ => 0)), (x5, .inr (8, [.ref wm, .ref wt, .ref wv, .ref wk, .int 1, .ref we, .ref wf, .int 0, .ref wp, .int 0, .long 0, .int 0, .int 0, .int 0, .int 0, .int 0, .int 0])), (x7, .inr (4, [.ref x7s, .ref x7c, .int 0, .int 0, .int 0, .int 0]))] sz)) (va_Qi (fun (r : Int32) (_ : Unit) => r = okE (inR w 0 3 ∧ inR t 0 1) 1) (BE dC dI (va_A [(h, .inr (9, [.ref x1, .ref x2, .ref x3, .ref x4, .ref x5, .ref x6, .ref x7])), (x1, aI cI 6 (fun _ => 0)), (x5, .inr (8, [.ref wm, .ref wt, .ref wv, .ref wk, .int 1, .ref we, .ref wf, .int 0, .ref wp, .int 0, .long 0, .int 0, .int 0, .int 0, .int 0, .int 0, .int 0])), (x7, .inr (4, [.ref x7s, .ref x7c, .int 0, .int 0, .int 0, .int 0]))] sz) (fun (_ : Unit) => [])) (va_A [(h, .inr (9, [.ref x1, .ref x2, .ref x3, .ref x4, .ref x5, .ref x6, .ref x7])), (x1, aI cI 6 (fun _ => 0)), (x5, .inr (8, [.ref wm, .ref wt, .ref wv, .ref wk, .int 1, .ref we, .ref wf, .int 0, .ref wp, .int 0, .long 0, .int 0, .int 0, .int 0, .int 0, .int 0, .int 0])), (x7, .inr (4, [.ref x7s, .ref x7c, .int 0, .int 0, .int 0, .int 0]))] sz)) 0 0 (va_A [(h, .inr (9, [.ref x1, .ref x2, .ref x3, .ref x4, .ref x5, .ref x6, .ref x7])), (x1, aI cI 6 (fun _ => 0)), (x5, .inr (8, [.ref wm, .ref wt, .ref wv, .ref wk, .int 1, .ref we, .ref wf, .int 0, .ref wp, .int 0, .long 0, .int 0, .int 0, .int 0, .int 0, .int 0, .int 0])), (x7, .inr (4, [.ref x7s, .ref x7c, .int 0, .int 0, .int 0, .int 0]))] sz) := by
  refine Met.ofW (cc := cX9_safe) (maxL := 3) (ret := (some .int)) (by decide) rfl ?_
  intro pp_ ee_ ss_ mm_ args below meth cc_ s₁ B hml hv
  obtain ⟨rfl, hsz, hP, hE, hD0⟩ := hv
  have hx := B.exec
  have hb := B.bytes
  have hr := B.returns
  have hts := atoms_spec (ws := wsX9_safe) B.pre
  have hown : ss_.vm.findClass RX9 = some mm_.cls := findClass_of_methodNamed B.named
  have hlocks := B.notSynchronized
  have hK := hE.1
  subst hsz
  have hD := hD0.self (sz := ss_.heap.size)
  generalize hAe : va_A [(h, .inr (9, [.ref x1, .ref x2, .ref x3, .ref x4, .ref x5, .ref x6, .ref x7])), (x1, aI cI 6 (fun _ => 0)), (x5, .inr (8, [.ref wm, .ref wt, .ref wv, .ref wk, .int 1, .ref we, .ref wf, .int 0, .ref wp, .int 0, .long 0, .int 0, .int 0, .int 0, .int 0, .int 0, .int 0])), (x7, .inr (4, [.ref x7s, .ref x7c, .int 0, .int 0, .int 0, .int 0]))] ss_.heap.size = A at hD ⊢
  have hA : ∀ q : Nat, ss_.heap.size ≤ q → A q := fun q h => by rw [← hAe]; exact Or.inr h
  have hS : va_S A ss_.heap ss_.heap [] := va_S.rf
  have hP : va_P (dC, dI) vwCl [(h, .inr (9, [.ref x1, .ref x2, .ref x3, .ref x4, .ref x5, .ref x6, .ref x7])), (x1, aI cI 6 (fun _ => 0)), (x5, .inr (8, [.ref wm, .ref wt, .ref wv, .ref wk, .int 1, .ref we, .ref wf, .int 0, .ref wp, .int 0, .long 0, .int 0, .int 0, .int 0, .int 0, .int 0, .int 0])), (x7, .inr (4, [.ref x7s, .ref x7c, .int 0, .int 0, .int 0, .int 0]))] ss_.heap := hP
  have hl := lv_entry ([.ref h, .int w, .int t]) (n := 3) (Nat.le_of_ble_eq_true rfl)
  rw [lg_entry_eq]
  generalize (lg_sl ([.ref h, .int w, .int t]) ++ List.replicate (3 - (lg_sl ([.ref h, .int w, .int t])).length) Slot.unset).toArray = ls at hl ⊢
  have hl : lv_has ls 3 [(0, .ref h), (1, .int w), (2, .int t)] := hl
  refine lv_iload_n hx hb dX9_safe_0 rfl (lv_at hl 1 rfl) ?_
  refine lv_iload_n hx hb dX9_safe_1 rfl (lv_at hl 2 rfl) ?_
  refine lv_iconst (v := 0) hx hb dX9_safe_2 (by decide) ?_
  refine vp_callSi (va_Run.run (va_runS (As := [.int w, .int t, .int 0]) (rest := []) ⟨hx, hb, hml, hown, hts⟩ (c_isWatched0 l dC dI cI cJ cS  w t ) (va_cwS 3 hts gX9_safe_X9_isWatched rfl rfl rfl (by decide +kernel) ⟨Nat.le_of_ble_eq_true rfl, Nat.le_of_ble_eq_true rfl⟩) (preR (hP.sub (ws' := []) [] rfl) hE) rfl rfl hl.1 rfl (lv_room (Nat.le_of_ble_eq_true rfl)) dX9_safe_3 ⟨by decide +kernel, by decide +kernel⟩)) (fun r_1 hr_2 => ?_)
  refine lv_if_ne (tgt := 11) hx hb dX9_safe_6 (by decide) (fun c_3 => ?_) (fun c_3 => ?_)
  · have k_4 : inR w 0 3 ∧ inR t 0 1 := bI_1 hr_2 c_3
    rcases in01 k_4.2 with rfl | rfl
    · refine lv_aload_n hx hb dX9_safe_11 rfl (lv_at hl 0 rfl) ?_
      refine lv_iload_n hx hb dX9_safe_12 rfl (lv_at hl 1 rfl) ?_
      refine lv_iload_n hx hb dX9_safe_13 rfl (lv_at hl 2 rfl) ?_
      have hFc := va_free (wc := [(h, .inr (9, [.ref x1, .ref x2, .ref x3, .ref x4, .ref x5, .ref x6, .ref x7])), (x1, aI cI 6 (fun _ => 0)), (x5, .inr (8, [.ref wm, .ref wt, .ref wv, .ref wk, .int 1, .ref we, .ref wf, .int 0, .ref wp, .int 0, .long 0, .int 0, .int 0, .int 0, .int 0, .int 0, .int 0])), (x7, .inr (4, [.ref x7s, .ref x7c, .int 0, .int 0, .int 0, .int 0]))]) hD hS hA [0, 1, 2, 3] rfl
      refine zCi (wr := []) hP hD hS hFc [0, 1, 2, 3] [] rfl rfl (by decide) (by decide) (va_runV (As := [.int w, .int 0]) (rest := []) ⟨hx, hb, hml, hown, hts⟩ (c_isSafe0 l dC dI cI cJ cS ss_.heap.size h w x1 x2 x3 x4 x5 x6 x7 wm wt wv wk we wf wp x7s x7c ) (cwV 2 hts gX9_safe_X9_isSafe rfl rfl rfl (by decide +kernel) ⟨Nat.le_of_ble_eq_true rfl, Nat.le_of_ble_eq_true rfl⟩) (preEV (hP.sub (ws' := [(h, .inr (9, [.ref x1, .ref x2, .ref x3, .ref x4, .ref x5, .ref x6, .ref x7])), (x1, aI cI 6 (fun _ => 0)), (x5, .inr (8, [.ref wm, .ref wt, .ref wv, .ref wk, .int 1, .ref we, .ref wf, .int 0, .ref wp, .int 0, .long 0, .int 0, .int 0, .int 0, .int 0, .int 0, .int 0])), (x7, .inr (4, [.ref x7s, .ref x7c, .int 0, .int 0, .int 0, .int 0]))]) [0, 1, 2, 3] rfl) hE (hD.sub (ws' := [(h, .inr (9, [.ref x1, .ref x2, .ref x3, .ref x4, .ref x5, .ref x6, .ref x7])), (x1, aI cI 6 (fun _ => 0)), (x5, .inr (8, [.ref wm, .ref wt, .ref wv, .ref wk, .int 1, .ref we, .ref wf, .int 0, .ref wp, .int 0, .long 0, .int 0, .int 0, .int 0, .int 0, .int 0, .int 0])), (x7, .inr (4, [.ref x7s, .ref x7c, .int 0, .int 0, .int 0, .int 0]))]) [0, 1, 2, 3] (by decide) rfl) 0 (ci := 9) rfl rfl) rfl rfl hl.1 rfl (lv_room (Nat.le_of_ble_eq_true rfl)) dX9_safe_14 ⟨by decide +kernel, by decide +kernel⟩) (fun r_5 u_7 H locs hr_6 hP hD hS => ?_)
      try dsimp only at hr_6
      have hP : va_P (dC, dI) vwCl [(h, .inr (9, [.ref x1, .ref x2, .ref x3, .ref x4, .ref x5, .ref x6, .ref x7])), (x1, aI cI 6 (fun _ => 0)), (x7, .inr (4, [.ref x7s, .ref x7c, .int 0, .int 0, .int 0, .int 0])), (x5, .inr (8, [.ref wm, .ref wt, .ref wv, .ref wk, .int 1, .ref we, .ref wf, .int 0, .ref x7, .int (w &&& 3), .long 9007199254740991, .int 4095, .int 0, .int 0, .int 0, .int 0, .int 0]))] H := hP
      have hD : va_D A [(h, .inr (9, [.ref x1, .ref x2, .ref x3, .ref x4, .ref x5, .ref x6, .ref x7])), (x1, aI cI 6 (fun _ => 0)), (x7, .inr (4, [.ref x7s, .ref x7c, .int 0, .int 0, .int 0, .int 0])), (x5, .inr (8, [.ref wm, .ref wt, .ref wv, .ref wk, .int 1, .ref we, .ref wf, .int 0, .ref x7, .int (w &&& 3), .long 9007199254740991, .int 4095, .int 0, .int 0, .int 0, .int 0, .int 0]))] := hD
      obtain rfl := hr_6
      refine lv_if_eq (tgt := 24) hx hb dX9_safe_17 (by decide) (fun c_8 => absurd c_8 (by decide)) (fun _ => ?_)
      refine lv_iconst (v := 1) hx hb dX9_safe_20 (by decide) ?_
      refine lv_goto (tgt := 25) hx hb dX9_safe_21 (by decide) ?_
      have hP9 := hP.sub (ws' := []) [] rfl
      have hD9 := hD.sub (ws' := []) [] (by decide) rfl
      exact W.iret (v := 1) hx hb hr (fun tt_ ht hW => ⟨⟨_, (), rfl, (by rw [okE, if_pos (by simp only [inR, Int32.lt_iff_toInt_lt, Int32.le_iff_toInt_le, ← Int32.toInt_inj, tI_0, tI_1, tI_2, tI_3, tI_4, tI_5, tI_6, tI_7, tI_8, tI_20, tI_30, tI_300, tI_400, tI_4095, tI_4096, tI_m1, tI_m2, tI_m3, tI_m9] at k_4 ⊢ <;> omega)]), by rw [ht]; exact hP9, hD9⟩, hS.F ht⟩) hS.2.2 dX9_safe_25
    · refine lv_aload_n hx hb dX9_safe_11 rfl (lv_at hl 0 rfl) ?_
      refine lv_iload_n hx hb dX9_safe_12 rfl (lv_at hl 1 rfl) ?_
      refine lv_iload_n hx hb dX9_safe_13 rfl (lv_at hl 2 rfl) ?_
      have hFc := va_free (wc := [(h, .inr (9, [.ref x1, .ref x2, .ref x3, .ref x4, .ref x5, .ref x6, .ref x7])), (x1, aI cI 6 (fun _ => 0)), (x5, .inr (8, [.ref wm, .ref wt, .ref wv, .ref wk, .int 1, .ref we, .ref wf, .int 0, .ref wp, .int 0, .long 0, .int 0, .int 0, .int 0, .int 0, .int 0, .int 0])), (x7, .inr (4, [.ref x7s, .ref x7c, .int 0, .int 0, .int 0, .int 0]))]) hD hS hA [0, 1, 2, 3] rfl
      refine zCi (wr := []) hP hD hS hFc [0, 1, 2, 3] [] rfl rfl (by decide) (by decide) (va_runV (As := [.int w, .int 1]) (rest := []) ⟨hx, hb, hml, hown, hts⟩ (c_isSafe1 l dC dI cI cJ cS ss_.heap.size h w x1 x2 x3 x4 x5 x6 x7 wm wt wv wk we wf wp x7s x7c ) (cwV 2 hts gX9_safe_X9_isSafe rfl rfl rfl (by decide +kernel) ⟨Nat.le_of_ble_eq_true rfl, Nat.le_of_ble_eq_true rfl⟩) (preEV (hP.sub (ws' := [(h, .inr (9, [.ref x1, .ref x2, .ref x3, .ref x4, .ref x5, .ref x6, .ref x7])), (x1, aI cI 6 (fun _ => 0)), (x5, .inr (8, [.ref wm, .ref wt, .ref wv, .ref wk, .int 1, .ref we, .ref wf, .int 0, .ref wp, .int 0, .long 0, .int 0, .int 0, .int 0, .int 0, .int 0, .int 0])), (x7, .inr (4, [.ref x7s, .ref x7c, .int 0, .int 0, .int 0, .int 0]))]) [0, 1, 2, 3] rfl) hE (hD.sub (ws' := [(h, .inr (9, [.ref x1, .ref x2, .ref x3, .ref x4, .ref x5, .ref x6, .ref x7])), (x1, aI cI 6 (fun _ => 0)), (x5, .inr (8, [.ref wm, .ref wt, .ref wv, .ref wk, .int 1, .ref we, .ref wf, .int 0, .ref wp, .int 0, .long 0, .int 0, .int 0, .int 0, .int 0, .int 0, .int 0])), (x7, .inr (4, [.ref x7s, .ref x7c, .int 0, .int 0, .int 0, .int 0]))]) [0, 1, 2, 3] (by decide) rfl) 0 (ci := 9) rfl rfl) rfl rfl hl.1 rfl (lv_room (Nat.le_of_ble_eq_true rfl)) dX9_safe_14 ⟨by decide +kernel, by decide +kernel⟩) (fun r_9 u_11 H locs hr_10 hP hD hS => ?_)
      try dsimp only at hr_10
      have hP : va_P (dC, dI) vwCl [(h, .inr (9, [.ref x1, .ref x2, .ref x3, .ref x4, .ref x5, .ref x6, .ref x7])), (x1, aI cI 6 (fun _ => 0)), (x7, .inr (4, [.ref x7s, .ref x7c, .int 0, .int 0, .int 0, .int 0])), (x5, .inr (8, [.ref wm, .ref wt, .ref wv, .ref wk, .int 1, .ref we, .ref wf, .int 0, .ref x7, .int (w &&& 3), .long 4611686018427387903, .int 4095, .int 0, .int 0, .int 0, .int 0, .int 0]))] H := hP
      have hD : va_D A [(h, .inr (9, [.ref x1, .ref x2, .ref x3, .ref x4, .ref x5, .ref x6, .ref x7])), (x1, aI cI 6 (fun _ => 0)), (x7, .inr (4, [.ref x7s, .ref x7c, .int 0, .int 0, .int 0, .int 0])), (x5, .inr (8, [.ref wm, .ref wt, .ref wv, .ref wk, .int 1, .ref we, .ref wf, .int 0, .ref x7, .int (w &&& 3), .long 4611686018427387903, .int 4095, .int 0, .int 0, .int 0, .int 0, .int 0]))] := hD
      obtain rfl := hr_10
      refine lv_if_eq (tgt := 24) hx hb dX9_safe_17 (by decide) (fun c_12 => absurd c_12 (by decide)) (fun _ => ?_)
      refine lv_iconst (v := 1) hx hb dX9_safe_20 (by decide) ?_
      refine lv_goto (tgt := 25) hx hb dX9_safe_21 (by decide) ?_
      have hP9 := hP.sub (ws' := []) [] rfl
      have hD9 := hD.sub (ws' := []) [] (by decide) rfl
      exact W.iret (v := 1) hx hb hr (fun tt_ ht hW => ⟨⟨_, (), rfl, (by rw [okE, if_pos (by simp only [inR, Int32.lt_iff_toInt_lt, Int32.le_iff_toInt_le, ← Int32.toInt_inj, tI_0, tI_1, tI_2, tI_3, tI_4, tI_5, tI_6, tI_7, tI_8, tI_20, tI_30, tI_300, tI_400, tI_4095, tI_4096, tI_m1, tI_m2, tI_m3, tI_m9] at k_4 ⊢ <;> omega)]), by rw [ht]; exact hP9, hD9⟩, hS.F ht⟩) hS.2.2 dX9_safe_25
  · have k_13 : ¬ (inR w 0 3 ∧ inR t 0 1) := bI_0 hr_2 c_3
    refine lv_iconst (v := (-1)) hx hb dX9_safe_9 (by decide) ?_
    have hP9 := hP.sub (ws' := []) [] rfl
    have hD9 := hD.sub (ws' := []) [] (by decide) rfl
    exact W.iret (v := (-1)) hx hb hr (fun tt_ ht hW => ⟨⟨_, (), rfl, (by rw [okE, if_neg (by simp only [inR, Int32.lt_iff_toInt_lt, Int32.le_iff_toInt_le, ← Int32.toInt_inj, tI_0, tI_1, tI_2, tI_3, tI_4, tI_5, tI_6, tI_7, tI_8, tI_20, tI_30, tI_300, tI_400, tI_4095, tI_4096, tI_m1, tI_m2, tI_m3, tI_m9] at k_13 ⊢ <;> omega)]), by rw [ht]; exact hP9, hD9⟩, hS.F ht⟩) hS.2.2 dX9_safe_10
set_option maxHeartbeats 1000000 in
set_option maxRecDepth 100000 in
theorem c_pair (l : Launch) (dC : Nat → ClassId) (dI : Nat → Nat → Nat) (cI cJ cS : ClassId) (sz : Nat) (h : Nat) (w : Int32) (t : Int32) (q : Int32) (x1 : Nat) (x2 : Nat) (x3 : Nat) (x4 : Nat) (x5 : Nat) (x6 : Nat) (x7 : Nat) (wm : Nat) (wt : Nat) (wv : Nat) (wk : Nat) (we : Nat) (wf : Nat) (wp : Nat) (x7s : Nat) (x7c : Nat)  : Met l yX9_pair wsX9_pair ({ frames := 4, cells := 0, slots := 0, locals := 91 }) (va_Pc [.ref h, .int w, .int t, .int q] (PE dC dI cI cJ cS [(h, .inr (9, [.ref x1, .ref x2, .ref x3, .ref x4, .ref x5, .ref x6, .ref x7])), (x1, aI cI 6 (fun _ => 0)), (x5, .inr (8, [.ref wm, .ref wt, .ref wv, .ref wk, .int 1, .ref we, .ref wf, .int 0, .ref wp, .int 0, .long 0, .int 0, .int 0, .int 0, .int 0, .int 0, .int 0])), (x7, .inr (4, [.ref x7s, .ref x7c, .int 0, .int 0, .int 0, .int 0]))] sz)) (va_Qi (fun (r : Int32) (_ : Unit) => r = okE ((inR w 0 3 ∧ inR t 0 1) ∧ inR q 0 1) (-9)) (BE dC dI (va_A [(h, .inr (9, [.ref x1, .ref x2, .ref x3, .ref x4, .ref x5, .ref x6, .ref x7])), (x1, aI cI 6 (fun _ => 0)), (x5, .inr (8, [.ref wm, .ref wt, .ref wv, .ref wk, .int 1, .ref we, .ref wf, .int 0, .ref wp, .int 0, .long 0, .int 0, .int 0, .int 0, .int 0, .int 0, .int 0])), (x7, .inr (4, [.ref x7s, .ref x7c, .int 0, .int 0, .int 0, .int 0]))] sz) (fun (_ : Unit) => [])) (va_A [(h, .inr (9, [.ref x1, .ref x2, .ref x3, .ref x4, .ref x5, .ref x6, .ref x7])), (x1, aI cI 6 (fun _ => 0)), (x5, .inr (8, [.ref wm, .ref wt, .ref wv, .ref wk, .int 1, .ref we, .ref wf, .int 0, .ref wp, .int 0, .long 0, .int 0, .int 0, .int 0, .int 0, .int 0, .int 0])), (x7, .inr (4, [.ref x7s, .ref x7c, .int 0, .int 0, .int 0, .int 0]))] sz)) 0 0 (va_A [(h, .inr (9, [.ref x1, .ref x2, .ref x3, .ref x4, .ref x5, .ref x6, .ref x7])), (x1, aI cI 6 (fun _ => 0)), (x5, .inr (8, [.ref wm, .ref wt, .ref wv, .ref wk, .int 1, .ref we, .ref wf, .int 0, .ref wp, .int 0, .long 0, .int 0, .int 0, .int 0, .int 0, .int 0, .int 0])), (x7, .inr (4, [.ref x7s, .ref x7c, .int 0, .int 0, .int 0, .int 0]))] sz) := by
  refine Met.ofW (cc := cX9_pair) (maxL := 5) (ret := (some .int)) (by decide) rfl ?_
  intro pp_ ee_ ss_ mm_ args below meth cc_ s₁ B hml hv
  obtain ⟨rfl, hsz, hP, hE, hD0⟩ := hv
  have hx := B.exec
  have hb := B.bytes
  have hr := B.returns
  have hts := atoms_spec (ws := wsX9_pair) B.pre
  have hown : ss_.vm.findClass RX9 = some mm_.cls := findClass_of_methodNamed B.named
  have hlocks := B.notSynchronized
  have hK := hE.1
  subst hsz
  have hD := hD0.self (sz := ss_.heap.size)
  generalize hAe : va_A [(h, .inr (9, [.ref x1, .ref x2, .ref x3, .ref x4, .ref x5, .ref x6, .ref x7])), (x1, aI cI 6 (fun _ => 0)), (x5, .inr (8, [.ref wm, .ref wt, .ref wv, .ref wk, .int 1, .ref we, .ref wf, .int 0, .ref wp, .int 0, .long 0, .int 0, .int 0, .int 0, .int 0, .int 0, .int 0])), (x7, .inr (4, [.ref x7s, .ref x7c, .int 0, .int 0, .int 0, .int 0]))] ss_.heap.size = A at hD ⊢
  have hA : ∀ q : Nat, ss_.heap.size ≤ q → A q := fun q h => by rw [← hAe]; exact Or.inr h
  have hS : va_S A ss_.heap ss_.heap [] := va_S.rf
  have hP : va_P (dC, dI) vwCl [(h, .inr (9, [.ref x1, .ref x2, .ref x3, .ref x4, .ref x5, .ref x6, .ref x7])), (x1, aI cI 6 (fun _ => 0)), (x5, .inr (8, [.ref wm, .ref wt, .ref wv, .ref wk, .int 1, .ref we, .ref wf, .int 0, .ref wp, .int 0, .long 0, .int 0, .int 0, .int 0, .int 0, .int 0, .int 0])), (x7, .inr (4, [.ref x7s, .ref x7c, .int 0, .int 0, .int 0, .int 0]))] ss_.heap := hP
  have hl := lv_entry ([.ref h, .int w, .int t, .int q]) (n := 5) (Nat.le_of_ble_eq_true rfl)
  rw [lg_entry_eq]
  generalize (lg_sl ([.ref h, .int w, .int t, .int q]) ++ List.replicate (5 - (lg_sl ([.ref h, .int w, .int t, .int q])).length) Slot.unset).toArray = ls at hl ⊢
  have hl : lv_has ls 5 [(0, .ref h), (1, .int w), (2, .int t), (3, .int q)] := hl
  refine lv_iload_n hx hb dX9_pair_0 rfl (lv_at hl 1 rfl) ?_
  refine lv_iload_n hx hb dX9_pair_1 rfl (lv_at hl 2 rfl) ?_
  refine lv_iload_n hx hb dX9_pair_2 rfl (lv_at hl 3 rfl) ?_
  refine vp_callSi (va_Run.run (va_runS (As := [.int w, .int t, .int q]) (rest := []) ⟨hx, hb, hml, hown, hts⟩ (c_isWatched l dC dI cI cJ cS  w t q ) (va_cwS 3 hts gX9_pair_X9_isWatched rfl rfl rfl (by decide +kernel) ⟨Nat.le_of_ble_eq_true rfl, Nat.le_of_ble_eq_true rfl⟩) (preR (hP.sub (ws' := []) [] rfl) hE) rfl rfl hl.1 rfl (lv_room (Nat.le_of_ble_eq_true rfl)) dX9_pair_3 ⟨by decide +kernel, by decide +kernel⟩)) (fun r_1 hr_2 => ?_)
  refine lv_if_ne (tgt := 11) hx hb dX9_pair_6 (by decide) (fun c_3 => ?_) (fun c_3 => ?_)
  · have k_4 : (inR w 0 3 ∧ inR t 0 1) ∧ inR q 0 1 := bI_1 hr_2 c_3
    rcases in01 k_4.1.2 with rfl | rfl
    · refine lv_aload_n hx hb dX9_pair_11 rfl (lv_at hl 0 rfl) ?_
      refine lv_iload_n hx hb dX9_pair_12 rfl (lv_at hl 1 rfl) ?_
      refine lv_iload_n hx hb dX9_pair_13 rfl (lv_at hl 2 rfl) ?_
      have hFc := va_free (wc := [(h, .inr (9, [.ref x1, .ref x2, .ref x3, .ref x4, .ref x5, .ref x6, .ref x7])), (x1, aI cI 6 (fun _ => 0)), (x5, .inr (8, [.ref wm, .ref wt, .ref wv, .ref wk, .int 1, .ref we, .ref wf, .int 0, .ref wp, .int 0, .long 0, .int 0, .int 0, .int 0, .int 0, .int 0, .int 0])), (x7, .inr (4, [.ref x7s, .ref x7c, .int 0, .int 0, .int 0, .int 0]))]) hD hS hA [0, 1, 2, 3] rfl
      refine zCi (wr := []) hP hD hS hFc [0, 1, 2, 3] [] rfl rfl (by decide) (by decide) (va_runV (As := [.int w, .int 0]) (rest := []) ⟨hx, hb, hml, hown, hts⟩ (c_isSafe0 l dC dI cI cJ cS ss_.heap.size h w x1 x2 x3 x4 x5 x6 x7 wm wt wv wk we wf wp x7s x7c ) (cwV 2 hts gX9_pair_X9_isSafe rfl rfl rfl (by decide +kernel) ⟨Nat.le_of_ble_eq_true rfl, Nat.le_of_ble_eq_true rfl⟩) (preEV (hP.sub (ws' := [(h, .inr (9, [.ref x1, .ref x2, .ref x3, .ref x4, .ref x5, .ref x6, .ref x7])), (x1, aI cI 6 (fun _ => 0)), (x5, .inr (8, [.ref wm, .ref wt, .ref wv, .ref wk, .int 1, .ref we, .ref wf, .int 0, .ref wp, .int 0, .long 0, .int 0, .int 0, .int 0, .int 0, .int 0, .int 0])), (x7, .inr (4, [.ref x7s, .ref x7c, .int 0, .int 0, .int 0, .int 0]))]) [0, 1, 2, 3] rfl) hE (hD.sub (ws' := [(h, .inr (9, [.ref x1, .ref x2, .ref x3, .ref x4, .ref x5, .ref x6, .ref x7])), (x1, aI cI 6 (fun _ => 0)), (x5, .inr (8, [.ref wm, .ref wt, .ref wv, .ref wk, .int 1, .ref we, .ref wf, .int 0, .ref wp, .int 0, .long 0, .int 0, .int 0, .int 0, .int 0, .int 0, .int 0])), (x7, .inr (4, [.ref x7s, .ref x7c, .int 0, .int 0, .int 0, .int 0]))]) [0, 1, 2, 3] (by decide) rfl) 0 (ci := 9) rfl rfl) rfl rfl hl.1 rfl (lv_room (Nat.le_of_ble_eq_true rfl)) dX9_pair_14 ⟨by decide +kernel, by decide +kernel⟩) (fun r_5 u_7 H locs hr_6 hP hD hS => ?_)
      try dsimp only at hr_6
      have hP : va_P (dC, dI) vwCl [(h, .inr (9, [.ref x1, .ref x2, .ref x3, .ref x4, .ref x5, .ref x6, .ref x7])), (x1, aI cI 6 (fun _ => 0)), (x7, .inr (4, [.ref x7s, .ref x7c, .int 0, .int 0, .int 0, .int 0])), (x5, .inr (8, [.ref wm, .ref wt, .ref wv, .ref wk, .int 1, .ref we, .ref wf, .int 0, .ref x7, .int (w &&& 3), .long 9007199254740991, .int 4095, .int 0, .int 0, .int 0, .int 0, .int 0]))] H := hP
      have hD : va_D A [(h, .inr (9, [.ref x1, .ref x2, .ref x3, .ref x4, .ref x5, .ref x6, .ref x7])), (x1, aI cI 6 (fun _ => 0)), (x7, .inr (4, [.ref x7s, .ref x7c, .int 0, .int 0, .int 0, .int 0])), (x5, .inr (8, [.ref wm, .ref wt, .ref wv, .ref wk, .int 1, .ref we, .ref wf, .int 0, .ref x7, .int (w &&& 3), .long 9007199254740991, .int 4095, .int 0, .int 0, .int 0, .int 0, .int 0]))] := hD
      obtain rfl := hr_6
      refine lv_if_eq (tgt := 23) hx hb dX9_pair_17 (by decide) (fun c_8 => absurd c_8 (by decide)) (fun _ => ?_)
      refine lv_bipush (v := (-9)) hx hb dX9_pair_20 (by decide) ?_
      have hP9 := hP.sub (ws' := []) [] rfl
      have hD9 := hD.sub (ws' := []) [] (by decide) rfl
      exact W.iret (v := (-9)) hx hb hr (fun tt_ ht hW => ⟨⟨_, (), rfl, (by rw [okE, if_pos (by simp only [inR, Int32.lt_iff_toInt_lt, Int32.le_iff_toInt_le, ← Int32.toInt_inj, tI_0, tI_1, tI_2, tI_3, tI_4, tI_5, tI_6, tI_7, tI_8, tI_20, tI_30, tI_300, tI_400, tI_4095, tI_4096, tI_m1, tI_m2, tI_m3, tI_m9] at k_4 ⊢ <;> omega)]), by rw [ht]; exact hP9, hD9⟩, hS.F ht⟩) hS.2.2 dX9_pair_22
    · refine lv_aload_n hx hb dX9_pair_11 rfl (lv_at hl 0 rfl) ?_
      refine lv_iload_n hx hb dX9_pair_12 rfl (lv_at hl 1 rfl) ?_
      refine lv_iload_n hx hb dX9_pair_13 rfl (lv_at hl 2 rfl) ?_
      have hFc := va_free (wc := [(h, .inr (9, [.ref x1, .ref x2, .ref x3, .ref x4, .ref x5, .ref x6, .ref x7])), (x1, aI cI 6 (fun _ => 0)), (x5, .inr (8, [.ref wm, .ref wt, .ref wv, .ref wk, .int 1, .ref we, .ref wf, .int 0, .ref wp, .int 0, .long 0, .int 0, .int 0, .int 0, .int 0, .int 0, .int 0])), (x7, .inr (4, [.ref x7s, .ref x7c, .int 0, .int 0, .int 0, .int 0]))]) hD hS hA [0, 1, 2, 3] rfl
      refine zCi (wr := []) hP hD hS hFc [0, 1, 2, 3] [] rfl rfl (by decide) (by decide) (va_runV (As := [.int w, .int 1]) (rest := []) ⟨hx, hb, hml, hown, hts⟩ (c_isSafe1 l dC dI cI cJ cS ss_.heap.size h w x1 x2 x3 x4 x5 x6 x7 wm wt wv wk we wf wp x7s x7c ) (cwV 2 hts gX9_pair_X9_isSafe rfl rfl rfl (by decide +kernel) ⟨Nat.le_of_ble_eq_true rfl, Nat.le_of_ble_eq_true rfl⟩) (preEV (hP.sub (ws' := [(h, .inr (9, [.ref x1, .ref x2, .ref x3, .ref x4, .ref x5, .ref x6, .ref x7])), (x1, aI cI 6 (fun _ => 0)), (x5, .inr (8, [.ref wm, .ref wt, .ref wv, .ref wk, .int 1, .ref we, .ref wf, .int 0, .ref wp, .int 0, .long 0, .int 0, .int 0, .int 0, .int 0, .int 0, .int 0])), (x7, .inr (4, [.ref x7s, .ref x7c, .int 0, .int 0, .int 0, .int 0]))]) [0, 1, 2, 3] rfl) hE (hD.sub (ws' := [(h, .inr (9, [.ref x1, .ref x2, .ref x3, .ref x4, .ref x5, .ref x6, .ref x7])), (x1, aI cI 6 (fun _ => 0)), (x5, .inr (8, [.ref wm, .ref wt, .ref wv, .ref wk, .int 1, .ref we, .ref wf, .int 0, .ref wp, .int 0, .long 0, .int 0, .int 0, .int 0, .int 0, .int 0, .int 0])), (x7, .inr (4, [.ref x7s, .ref x7c, .int 0, .int 0, .int 0, .int 0]))]) [0, 1, 2, 3] (by decide) rfl) 0 (ci := 9) rfl rfl) rfl rfl hl.1 rfl (lv_room (Nat.le_of_ble_eq_true rfl)) dX9_pair_14 ⟨by decide +kernel, by decide +kernel⟩) (fun r_9 u_11 H locs hr_10 hP hD hS => ?_)
      try dsimp only at hr_10
      have hP : va_P (dC, dI) vwCl [(h, .inr (9, [.ref x1, .ref x2, .ref x3, .ref x4, .ref x5, .ref x6, .ref x7])), (x1, aI cI 6 (fun _ => 0)), (x7, .inr (4, [.ref x7s, .ref x7c, .int 0, .int 0, .int 0, .int 0])), (x5, .inr (8, [.ref wm, .ref wt, .ref wv, .ref wk, .int 1, .ref we, .ref wf, .int 0, .ref x7, .int (w &&& 3), .long 4611686018427387903, .int 4095, .int 0, .int 0, .int 0, .int 0, .int 0]))] H := hP
      have hD : va_D A [(h, .inr (9, [.ref x1, .ref x2, .ref x3, .ref x4, .ref x5, .ref x6, .ref x7])), (x1, aI cI 6 (fun _ => 0)), (x7, .inr (4, [.ref x7s, .ref x7c, .int 0, .int 0, .int 0, .int 0])), (x5, .inr (8, [.ref wm, .ref wt, .ref wv, .ref wk, .int 1, .ref we, .ref wf, .int 0, .ref x7, .int (w &&& 3), .long 4611686018427387903, .int 4095, .int 0, .int 0, .int 0, .int 0, .int 0]))] := hD
      obtain rfl := hr_10
      refine lv_if_eq (tgt := 23) hx hb dX9_pair_17 (by decide) (fun c_12 => absurd c_12 (by decide)) (fun _ => ?_)
      refine lv_bipush (v := (-9)) hx hb dX9_pair_20 (by decide) ?_
      have hP9 := hP.sub (ws' := []) [] rfl
      have hD9 := hD.sub (ws' := []) [] (by decide) rfl
      exact W.iret (v := (-9)) hx hb hr (fun tt_ ht hW => ⟨⟨_, (), rfl, (by rw [okE, if_pos (by simp only [inR, Int32.lt_iff_toInt_lt, Int32.le_iff_toInt_le, ← Int32.toInt_inj, tI_0, tI_1, tI_2, tI_3, tI_4, tI_5, tI_6, tI_7, tI_8, tI_20, tI_30, tI_300, tI_400, tI_4095, tI_4096, tI_m1, tI_m2, tI_m3, tI_m9] at k_4 ⊢ <;> omega)]), by rw [ht]; exact hP9, hD9⟩, hS.F ht⟩) hS.2.2 dX9_pair_22
  · have k_13 : ¬ ((inR w 0 3 ∧ inR t 0 1) ∧ inR q 0 1) := bI_0 hr_2 c_3
    refine lv_iconst (v := (-1)) hx hb dX9_pair_9 (by decide) ?_
    have hP9 := hP.sub (ws' := []) [] rfl
    have hD9 := hD.sub (ws' := []) [] (by decide) rfl
    exact W.iret (v := (-1)) hx hb hr (fun tt_ ht hW => ⟨⟨_, (), rfl, (by rw [okE, if_neg (by simp only [inR, Int32.lt_iff_toInt_lt, Int32.le_iff_toInt_le, ← Int32.toInt_inj, tI_0, tI_1, tI_2, tI_3, tI_4, tI_5, tI_6, tI_7, tI_8, tI_20, tI_30, tI_300, tI_400, tI_4095, tI_4096, tI_m1, tI_m2, tI_m3, tI_m9] at k_13 ⊢ <;> omega)]), by rw [ht]; exact hP9, hD9⟩, hS.F ht⟩) hS.2.2 dX9_pair_10
set_option maxHeartbeats 1000000 in
set_option maxRecDepth 100000 in
theorem c_most (l : Launch) (dC : Nat → ClassId) (dI : Nat → Nat → Nat) (cI cJ cS : ClassId) (sz : Nat) (h : Nat) (w : Int32) (t : Int32) (q : Int32) (x1 : Nat) (x2 : Nat) (x3 : Nat) (x4 : Nat) (x5 : Nat) (x6 : Nat) (x7 : Nat) (wm : Nat) (wt : Nat) (wv : Nat) (wk : Nat) (we : Nat) (wf : Nat) (wp : Nat) (na : Nat) (nb : Nat) (ta : Nat) (tb : Nat) (tc : Nat) (td : Nat) (x7s : Nat) (x7c : Nat)  : Met l yX9_most wsX9_most ({ frames := 6, cells := 0, slots := 0, locals := 135 }) (va_Pc [.ref h, .int w, .int t, .int q] (PE dC dI cI cJ cS [(h, .inr (9, [.ref x1, .ref x2, .ref x3, .ref x4, .ref x5, .ref x6, .ref x7])), (x1, aI cI 6 (fun _ => 0)), (x5, .inr (8, [.ref wm, .ref wt, .ref wv, .ref wk, .int 1, .ref we, .ref wf, .int 0, .ref wp, .int 0, .long 0, .int 0, .int 0, .int 0, .int 0, .int 0, .int 0])), (wm, .inr (2, [.ref na, .ref nb, .int 0, .int 0, .int 0])), (wt, .inr (1, [.ref ta, .ref tb, .ref tc, .ref td, .int 0, .int 0, .int 0])), (ta, aJ cJ 4096 (fun _ => 0)), (tb, aJ cJ 4096 (fun _ => 0)), (tc, aI cI 4096 (fun _ => 0)), (td, aI cI 8192 (fun _ => 0)), (wv, aJ cJ 16384 (fun _ => 0)), (wk, aI cI 4096 (fun _ => 0)), (x7, .inr (4, [.ref x7s, .ref x7c, .int 0, .int 0, .int 0, .int 0]))] sz)) (va_Qi (fun (r : Int32) (_ : Unit) => r = okE ((inR w 0 3 ∧ inR t 0 1) ∧ inR q 0 1) (if q = 0 then 0 else 1)) (BE dC dI (va_A [(h, .inr (9, [.ref x1, .ref x2, .ref x3, .ref x4, .ref x5, .ref x6, .ref x7])), (x1, aI cI 6 (fun _ => 0)), (x5, .inr (8, [.ref wm, .ref wt, .ref wv, .ref wk, .int 1, .ref we, .ref wf, .int 0, .ref wp, .int 0, .long 0, .int 0, .int 0, .int 0, .int 0, .int 0, .int 0])), (wm, .inr (2, [.ref na, .ref nb, .int 0, .int 0, .int 0])), (wt, .inr (1, [.ref ta, .ref tb, .ref tc, .ref td, .int 0, .int 0, .int 0])), (ta, aJ cJ 4096 (fun _ => 0)), (tb, aJ cJ 4096 (fun _ => 0)), (tc, aI cI 4096 (fun _ => 0)), (td, aI cI 8192 (fun _ => 0)), (wv, aJ cJ 16384 (fun _ => 0)), (wk, aI cI 4096 (fun _ => 0)), (x7, .inr (4, [.ref x7s, .ref x7c, .int 0, .int 0, .int 0, .int 0]))] sz) (fun (_ : Unit) => [])) (va_A [(h, .inr (9, [.ref x1, .ref x2, .ref x3, .ref x4, .ref x5, .ref x6, .ref x7])), (x1, aI cI 6 (fun _ => 0)), (x5, .inr (8, [.ref wm, .ref wt, .ref wv, .ref wk, .int 1, .ref we, .ref wf, .int 0, .ref wp, .int 0, .long 0, .int 0, .int 0, .int 0, .int 0, .int 0, .int 0])), (wm, .inr (2, [.ref na, .ref nb, .int 0, .int 0, .int 0])), (wt, .inr (1, [.ref ta, .ref tb, .ref tc, .ref td, .int 0, .int 0, .int 0])), (ta, aJ cJ 4096 (fun _ => 0)), (tb, aJ cJ 4096 (fun _ => 0)), (tc, aI cI 4096 (fun _ => 0)), (td, aI cI 8192 (fun _ => 0)), (wv, aJ cJ 16384 (fun _ => 0)), (wk, aI cI 4096 (fun _ => 0)), (x7, .inr (4, [.ref x7s, .ref x7c, .int 0, .int 0, .int 0, .int 0]))] sz)) 0 0 (va_A [(h, .inr (9, [.ref x1, .ref x2, .ref x3, .ref x4, .ref x5, .ref x6, .ref x7])), (x1, aI cI 6 (fun _ => 0)), (x5, .inr (8, [.ref wm, .ref wt, .ref wv, .ref wk, .int 1, .ref we, .ref wf, .int 0, .ref wp, .int 0, .long 0, .int 0, .int 0, .int 0, .int 0, .int 0, .int 0])), (wm, .inr (2, [.ref na, .ref nb, .int 0, .int 0, .int 0])), (wt, .inr (1, [.ref ta, .ref tb, .ref tc, .ref td, .int 0, .int 0, .int 0])), (ta, aJ cJ 4096 (fun _ => 0)), (tb, aJ cJ 4096 (fun _ => 0)), (tc, aI cI 4096 (fun _ => 0)), (td, aI cI 8192 (fun _ => 0)), (wv, aJ cJ 16384 (fun _ => 0)), (wk, aI cI 4096 (fun _ => 0)), (x7, .inr (4, [.ref x7s, .ref x7c, .int 0, .int 0, .int 0, .int 0]))] sz) := by
  refine Met.ofW (cc := cX9_most) (maxL := 6) (ret := (some .int)) (by decide) rfl ?_
  intro pp_ ee_ ss_ mm_ args below meth cc_ s₁ B hml hv
  obtain ⟨rfl, hsz, hP, hE, hD0⟩ := hv
  have hx := B.exec
  have hb := B.bytes
  have hr := B.returns
  have hts := atoms_spec (ws := wsX9_most) B.pre
  have hown : ss_.vm.findClass RX9 = some mm_.cls := findClass_of_methodNamed B.named
  have hlocks := B.notSynchronized
  have hK := hE.1
  have hiX8 : ∀ w ∈ wsX80, w ∈ wsX9_most := by decide +kernel
  have hiX9 : ∀ w ∈ wsX90, w ∈ wsX9_most := by decide +kernel
  subst hsz
  have hD := hD0.self (sz := ss_.heap.size)
  generalize hAe : va_A [(h, .inr (9, [.ref x1, .ref x2, .ref x3, .ref x4, .ref x5, .ref x6, .ref x7])), (x1, aI cI 6 (fun _ => 0)), (x5, .inr (8, [.ref wm, .ref wt, .ref wv, .ref wk, .int 1, .ref we, .ref wf, .int 0, .ref wp, .int 0, .long 0, .int 0, .int 0, .int 0, .int 0, .int 0, .int 0])), (wm, .inr (2, [.ref na, .ref nb, .int 0, .int 0, .int 0])), (wt, .inr (1, [.ref ta, .ref tb, .ref tc, .ref td, .int 0, .int 0, .int 0])), (ta, aJ cJ 4096 (fun _ => 0)), (tb, aJ cJ 4096 (fun _ => 0)), (tc, aI cI 4096 (fun _ => 0)), (td, aI cI 8192 (fun _ => 0)), (wv, aJ cJ 16384 (fun _ => 0)), (wk, aI cI 4096 (fun _ => 0)), (x7, .inr (4, [.ref x7s, .ref x7c, .int 0, .int 0, .int 0, .int 0]))] ss_.heap.size = A at hD ⊢
  have hA : ∀ q : Nat, ss_.heap.size ≤ q → A q := fun q h => by rw [← hAe]; exact Or.inr h
  have hS : va_S A ss_.heap ss_.heap [] := va_S.rf
  have hP : va_P (dC, dI) vwCl [(h, .inr (9, [.ref x1, .ref x2, .ref x3, .ref x4, .ref x5, .ref x6, .ref x7])), (x1, aI cI 6 (fun _ => 0)), (x5, .inr (8, [.ref wm, .ref wt, .ref wv, .ref wk, .int 1, .ref we, .ref wf, .int 0, .ref wp, .int 0, .long 0, .int 0, .int 0, .int 0, .int 0, .int 0, .int 0])), (wm, .inr (2, [.ref na, .ref nb, .int 0, .int 0, .int 0])), (wt, .inr (1, [.ref ta, .ref tb, .ref tc, .ref td, .int 0, .int 0, .int 0])), (ta, aJ cJ 4096 (fun _ => 0)), (tb, aJ cJ 4096 (fun _ => 0)), (tc, aI cI 4096 (fun _ => 0)), (td, aI cI 8192 (fun _ => 0)), (wv, aJ cJ 16384 (fun _ => 0)), (wk, aI cI 4096 (fun _ => 0)), (x7, .inr (4, [.ref x7s, .ref x7c, .int 0, .int 0, .int 0, .int 0]))] ss_.heap := hP
  have hl := lv_entry ([.ref h, .int w, .int t, .int q]) (n := 6) (Nat.le_of_ble_eq_true rfl)
  rw [lg_entry_eq]
  generalize (lg_sl ([.ref h, .int w, .int t, .int q]) ++ List.replicate (6 - (lg_sl ([.ref h, .int w, .int t, .int q])).length) Slot.unset).toArray = ls at hl ⊢
  have hl : lv_has ls 6 [(0, .ref h), (1, .int w), (2, .int t), (3, .int q)] := hl
  refine lv_iload_n hx hb dX9_most_0 rfl (lv_at hl 1 rfl) ?_
  refine lv_iload_n hx hb dX9_most_1 rfl (lv_at hl 2 rfl) ?_
  refine lv_iload_n hx hb dX9_most_2 rfl (lv_at hl 3 rfl) ?_
  refine vp_callSi (va_Run.run (va_runS (As := [.int w, .int t, .int q]) (rest := []) ⟨hx, hb, hml, hown, hts⟩ (c_isWatched l dC dI cI cJ cS  w t q ) (va_cwS 3 hts gX9_most_X9_isWatched rfl rfl rfl (by decide +kernel) ⟨Nat.le_of_ble_eq_true rfl, Nat.le_of_ble_eq_true rfl⟩) (preR (hP.sub (ws' := []) [] rfl) hE) rfl rfl hl.1 rfl (lv_room (Nat.le_of_ble_eq_true rfl)) dX9_most_3 ⟨by decide +kernel, by decide +kernel⟩)) (fun r_1 hr_2 => ?_)
  refine lv_if_ne (tgt := 11) hx hb dX9_most_6 (by decide) (fun c_3 => ?_) (fun c_3 => ?_)
  · have k_4 : (inR w 0 3 ∧ inR t 0 1) ∧ inR q 0 1 := bI_1 hr_2 c_3
    rcases in01 k_4.1.2 with rfl | rfl
    · refine lv_aload_n hx hb dX9_most_11 rfl (lv_at hl 0 rfl) ?_
      refine lv_iload_n hx hb dX9_most_12 rfl (lv_at hl 1 rfl) ?_
      refine vp_callSi (va_Run.run (va_runV (As := [.int w]) (rest := []) ⟨hx, hb, hml, hown, hts⟩ (c_cellsWithin l dC dI cI cJ cS  h w x1 x2 x3 x4 x5 x6 x7 ) (cwV 1 hts gX9_most_X9_cellsWithin rfl rfl rfl (by decide +kernel) ⟨Nat.le_of_ble_eq_true rfl, Nat.le_of_ble_eq_true rfl⟩) (preRV (hP.sub (ws' := [(h, .inr (9, [.ref x1, .ref x2, .ref x3, .ref x4, .ref x5, .ref x6, .ref x7])), (x1, aI cI 6 (fun _ => 0))]) [0, 1] rfl) hE 0 (ci := 9) rfl rfl) rfl rfl hl.1 rfl (lv_room (Nat.le_of_ble_eq_true rfl)) dX9_most_13 ⟨by decide +kernel, by decide +kernel⟩)) (fun r_5 hr_6 => ?_)
      obtain rfl := hr_6
      refine lv_istore (lv' := [(4, .int 4095), (0, .ref h), (1, .int w), (2, .int 0), (3, .int q)]) hx hb dX9_most_16 hl (by decide) rfl (fun ls hl => ?_)
      refine lv_aload_n hx hb dX9_most_18 rfl (lv_at hl 1 rfl) ?_
      refine va_get (D := (dC, dI)) (ci := 9) (v := .ref x5) (C := RX9) (T := TX9) (N := 7) hx hb hts hiX9 hown hK hP 0 rfl rfl 4 (by decide) (hts (.fieldLink RX9 37 "WatchedPrograms" "watch" "LWatchedPrograms$Watch;") (by decide +kernel)) (fun _ h9 => h9) rfl dX9_most_19 ?_
      refine lv_aload_n hx hb dX9_most_22 rfl (lv_at hl 1 rfl) ?_
      refine va_get (D := (dC, dI)) (ci := 9) (v := .ref x7) (C := RX9) (T := TX9) (N := 7) hx hb hts hiX9 hown hK hP 0 rfl rfl 6 (by decide) (hts (.fieldLink RX9 51 "WatchedPrograms" "program" "LWatchedPrograms$Program;") (by decide +kernel)) (fun _ h9 => h9) rfl dX9_most_23 ?_
      refine lv_iload_n hx hb dX9_most_26 rfl (lv_at hl 2 rfl) ?_
      refine lv_iload hx hb dX9_most_27 (lv_at hl 0 rfl) ?_
      refine lv_iload_n hx hb dX9_most_29 rfl (lv_at hl 3 rfl) ?_
      have hFc := va_free (wc := [(x5, .inr (8, [.ref wm, .ref wt, .ref wv, .ref wk, .int 1, .ref we, .ref wf, .int 0, .ref wp, .int 0, .long 0, .int 0, .int 0, .int 0, .int 0, .int 0, .int 0]))]) hD hS hA [2] rfl
      refine zCv (wr := [(h, .inr (9, [.ref x1, .ref x2, .ref x3, .ref x4, .ref x5, .ref x6, .ref x7])), (x1, aI cI 6 (fun _ => 0)), (wm, .inr (2, [.ref na, .ref nb, .int 0, .int 0, .int 0])), (wt, .inr (1, [.ref ta, .ref tb, .ref tc, .ref td, .int 0, .int 0, .int 0])), (ta, aJ cJ 4096 (fun _ => 0)), (tb, aJ cJ 4096 (fun _ => 0)), (tc, aI cI 4096 (fun _ => 0)), (td, aI cI 8192 (fun _ => 0)), (wv, aJ cJ 16384 (fun _ => 0)), (wk, aI cI 4096 (fun _ => 0)), (x7, .inr (4, [.ref x7s, .ref x7c, .int 0, .int 0, .int 0, .int 0]))]) hP hD hS hFc [2] [0, 1, 3, 4, 5, 6, 7, 8, 9, 10, 11] rfl rfl (by decide) (by decide) (va_runV (As := [.ref x7, .int w, .int 4095, .int 0]) (rest := []) ⟨hx, hb, hml, hown, hts⟩ (c_aim0 l dC dI cI cJ cS ss_.heap.size x5 x7 w wm wt wv wk we wf wp ) (cwV 4 hts gX9_most_X8_aim rfl rfl rfl (by decide +kernel) ⟨Nat.le_of_ble_eq_true rfl, Nat.le_of_ble_eq_true rfl⟩) (preEV (hP.sub (ws' := [(x5, .inr (8, [.ref wm, .ref wt, .ref wv, .ref wk, .int 1, .ref we, .ref wf, .int 0, .ref wp, .int 0, .long 0, .int 0, .int 0, .int 0, .int 0, .int 0, .int 0]))]) [2] rfl) hE (hD.sub (ws' := [(x5, .inr (8, [.ref wm, .ref wt, .ref wv, .ref wk, .int 1, .ref we, .ref wf, .int 0, .ref wp, .int 0, .long 0, .int 0, .int 0, .int 0, .int 0, .int 0, .int 0]))]) [2] (by decide) rfl) 0 (ci := 8) rfl rfl) rfl rfl hl.1 rfl (lv_room (Nat.le_of_ble_eq_true rfl)) dX9_most_30 ⟨by decide +kernel, by decide +kernel⟩) (fun u_9 H locs hr_8 hP hD hS => ?_)
      try dsimp only at hr_8
      have hP : va_P (dC, dI) vwCl [(h, .inr (9, [.ref x1, .ref x2, .ref x3, .ref x4, .ref x5, .ref x6, .ref x7])), (x1, aI cI 6 (fun _ => 0)), (wm, .inr (2, [.ref na, .ref nb, .int 0, .int 0, .int 0])), (wt, .inr (1, [.ref ta, .ref tb, .ref tc, .ref td, .int 0, .int 0, .int 0])), (ta, aJ cJ 4096 (fun _ => 0)), (tb, aJ cJ 4096 (fun _ => 0)), (tc, aI cI 4096 (fun _ => 0)), (td, aI cI 8192 (fun _ => 0)), (wv, aJ cJ 16384 (fun _ => 0)), (wk, aI cI 4096 (fun _ => 0)), (x7, .inr (4, [.ref x7s, .ref x7c, .int 0, .int 0, .int 0, .int 0])), (x5, .inr (8, [.ref wm, .ref wt, .ref wv, .ref wk, .int 1, .ref we, .ref wf, .int 0, .ref x7, .int (w &&& 3), .long 9007199254740991, .int 4095, .int 0, .int 0, .int 0, .int 0, .int 0]))] H := hP
      have hD : va_D A [(h, .inr (9, [.ref x1, .ref x2, .ref x3, .ref x4, .ref x5, .ref x6, .ref x7])), (x1, aI cI 6 (fun _ => 0)), (wm, .inr (2, [.ref na, .ref nb, .int 0, .int 0, .int 0])), (wt, .inr (1, [.ref ta, .ref tb, .ref tc, .ref td, .int 0, .int 0, .int 0])), (ta, aJ cJ 4096 (fun _ => 0)), (tb, aJ cJ 4096 (fun _ => 0)), (tc, aI cI 4096 (fun _ => 0)), (td, aI cI 8192 (fun _ => 0)), (wv, aJ cJ 16384 (fun _ => 0)), (wk, aI cI 4096 (fun _ => 0)), (x7, .inr (4, [.ref x7s, .ref x7c, .int 0, .int 0, .int 0, .int 0])), (x5, .inr (8, [.ref wm, .ref wt, .ref wv, .ref wk, .int 1, .ref we, .ref wf, .int 0, .ref x7, .int (w &&& 3), .long 9007199254740991, .int 4095, .int 0, .int 0, .int 0, .int 0, .int 0]))] := hD
      refine lv_aload_n hx hb dX9_most_33 rfl (lv_at hl 1 rfl) ?_
      refine va_get (D := (dC, dI)) (ci := 9) (v := .ref x5) (C := RX9) (T := TX9) (N := 7) hx hb hts hiX9 hown hK hP 0 rfl rfl 4 (by decide) (hts (.fieldLink RX9 37 "WatchedPrograms" "watch" "LWatchedPrograms$Watch;") (by decide +kernel)) (fun _ h9 => h9) rfl dX9_most_34 ?_
      have hFc := va_free (wc := [(x5, .inr (8, [.ref wm, .ref wt, .ref wv, .ref wk, .int 1, .ref we, .ref wf, .int 0, .ref x7, .int (w &&& 3), .long 9007199254740991, .int 4095, .int 0, .int 0, .int 0, .int 0, .int 0])), (wm, .inr (2, [.ref na, .ref nb, .int 0, .int 0, .int 0])), (x7, .inr (4, [.ref x7s, .ref x7c, .int 0, .int 0, .int 0, .int 0])), (wv, aJ cJ 16384 (fun _ => 0)), (wk, aI cI 4096 (fun _ => 0)), (wt, .inr (1, [.ref ta, .ref tb, .ref tc, .ref td, .int 0, .int 0, .int 0])), (td, aI cI 8192 (fun _ => 0)), (ta, aJ cJ 4096 (fun _ => 0)), (tb, aJ cJ 4096 (fun _ => 0)), (tc, aI cI 4096 (fun _ => 0))]) hD hS hA [11, 2, 10, 8, 9, 3, 7, 4, 5, 6] rfl
      refine zCi (wr := [(h, .inr (9, [.ref x1, .ref x2, .ref x3, .ref x4, .ref x5, .ref x6, .ref x7])), (x1, aI cI 6 (fun _ => 0))]) hP hD hS hFc [11, 2, 10, 8, 9, 3, 7, 4, 5, 6] [0, 1] rfl rfl (by decide) (by decide) (va_runV (As := []) (rest := []) ⟨hx, hb, hml, hown, hts⟩ (c_tellsMost0 l dC dI cI cJ cS H.size x5 wm wt wv wk we wf x7 (w &&& 3) na nb x7s x7c ta tb tc td ) (cwV 0 hts gX9_most_X8_tellsMost rfl rfl rfl (by decide +kernel) ⟨Nat.le_of_ble_eq_true rfl, Nat.le_of_ble_eq_true rfl⟩) (preEV (hP.sub (ws' := [(x5, .inr (8, [.ref wm, .ref wt, .ref wv, .ref wk, .int 1, .ref we, .ref wf, .int 0, .ref x7, .int (w &&& 3), .long 9007199254740991, .int 4095, .int 0, .int 0, .int 0, .int 0, .int 0])), (wm, .inr (2, [.ref na, .ref nb, .int 0, .int 0, .int 0])), (x7, .inr (4, [.ref x7s, .ref x7c, .int 0, .int 0, .int 0, .int 0])), (wv, aJ cJ 16384 (fun _ => 0)), (wk, aI cI 4096 (fun _ => 0)), (wt, .inr (1, [.ref ta, .ref tb, .ref tc, .ref td, .int 0, .int 0, .int 0])), (td, aI cI 8192 (fun _ => 0)), (ta, aJ cJ 4096 (fun _ => 0)), (tb, aJ cJ 4096 (fun _ => 0)), (tc, aI cI 4096 (fun _ => 0))]) [11, 2, 10, 8, 9, 3, 7, 4, 5, 6] rfl) hE (hD.sub (ws' := [(x5, .inr (8, [.ref wm, .ref wt, .ref wv, .ref wk, .int 1, .ref we, .ref wf, .int 0, .ref x7, .int (w &&& 3), .long 9007199254740991, .int 4095, .int 0, .int 0, .int 0, .int 0, .int 0])), (wm, .inr (2, [.ref na, .ref nb, .int 0, .int 0, .int 0])), (x7, .inr (4, [.ref x7s, .ref x7c, .int 0, .int 0, .int 0, .int 0])), (wv, aJ cJ 16384 (fun _ => 0)), (wk, aI cI 4096 (fun _ => 0)), (wt, .inr (1, [.ref ta, .ref tb, .ref tc, .ref td, .int 0, .int 0, .int 0])), (td, aI cI 8192 (fun _ => 0)), (ta, aJ cJ 4096 (fun _ => 0)), (tb, aJ cJ 4096 (fun _ => 0)), (tc, aI cI 4096 (fun _ => 0))]) [11, 2, 10, 8, 9, 3, 7, 4, 5, 6] (by decide) rfl) 0 (ci := 8) rfl rfl) rfl rfl hl.1 rfl (lv_room (Nat.le_of_ble_eq_true rfl)) dX9_most_37 ⟨by decide +kernel, by decide +kernel⟩) (fun r_10 u_12 H locs hr_11 hP hD hS => ?_)
      try dsimp only at hr_11
      have hP : va_P (dC, dI) vwCl [(h, .inr (9, [.ref x1, .ref x2, .ref x3, .ref x4, .ref x5, .ref x6, .ref x7])), (x1, aI cI 6 (fun _ => 0)), (x5, .inr (8, [.ref wm, .ref wt, .ref wv, .ref wk, .int 1, .ref we, .ref wf, .int 0, .ref x7, .int (w &&& 3), .long 9007199254740991, .int 4095, .int 0, .int 0, .int 0, .int 0, .int 1])), (wv, aJ cJ 16384 (vp_updL (vp_updL (vp_updL (vp_updL (fun _ => 0) 0 1) 4096 1) 8192 1) 12288 1)), (wk, aI cI 4096 (upd (fun _ => 0) 0 1)), (wm, .inr (2, [.ref na, .ref nb, .int 0, .int 0, .int 0])), (x7, .inr (4, [.ref x7s, .ref x7c, .int 0, .int 0, .int 0, .int 0])), (td, aI cI 8192 (upd (upd (upd (fun _ => 0) 0 0) 1 0) 1 1)), (ta, aJ cJ 4096 (vp_updL (fun _ => 0) 0 1)), (tb, aJ cJ 4096 (vp_updL (fun _ => 0) 0 0)), (wt, .inr (1, [.ref ta, .ref tb, .ref tc, .ref td, .int 1, .int 1, .int 1])), (tc, aI cI 4096 (upd (upd (fun _ => 0) 0 0) 0 1))] H := hP
      have hD : va_D A [(h, .inr (9, [.ref x1, .ref x2, .ref x3, .ref x4, .ref x5, .ref x6, .ref x7])), (x1, aI cI 6 (fun _ => 0)), (x5, .inr (8, [.ref wm, .ref wt, .ref wv, .ref wk, .int 1, .ref we, .ref wf, .int 0, .ref x7, .int (w &&& 3), .long 9007199254740991, .int 4095, .int 0, .int 0, .int 0, .int 0, .int 1])), (wv, aJ cJ 16384 (vp_updL (vp_updL (vp_updL (vp_updL (fun _ => 0) 0 1) 4096 1) 8192 1) 12288 1)), (wk, aI cI 4096 (upd (fun _ => 0) 0 1)), (wm, .inr (2, [.ref na, .ref nb, .int 0, .int 0, .int 0])), (x7, .inr (4, [.ref x7s, .ref x7c, .int 0, .int 0, .int 0, .int 0])), (td, aI cI 8192 (upd (upd (upd (fun _ => 0) 0 0) 1 0) 1 1)), (ta, aJ cJ 4096 (vp_updL (fun _ => 0) 0 1)), (tb, aJ cJ 4096 (vp_updL (fun _ => 0) 0 0)), (wt, .inr (1, [.ref ta, .ref tb, .ref tc, .ref td, .int 1, .int 1, .int 1])), (tc, aI cI 4096 (upd (upd (fun _ => 0) 0 0) 0 1))] := hD
      obtain rfl := hr_11
      refine lv_istore (lv' := [(5, .int 0), (4, .int 4095), (0, .ref h), (1, .int w), (2, .int 0), (3, .int q)]) hx hb dX9_most_40 hl (by decide) rfl (fun ls hl => ?_)
      refine lv_iload_n hx hb dX9_most_42 rfl (lv_at hl 5 rfl) ?_
      refine lv_if_ne (tgt := 56) hx hb dX9_most_43 (by decide) (fun c_13 => ?_) (fun c_13 => ?_)
      · refine lv_aload_n hx hb dX9_most_56 rfl (lv_at hl 2 rfl) ?_
        refine va_get (D := (dC, dI)) (ci := 9) (v := .ref x5) (C := RX9) (T := TX9) (N := 7) hx hb hts hiX9 hown hK hP 0 rfl rfl 4 (by decide) (hts (.fieldLink RX9 37 "WatchedPrograms" "watch" "LWatchedPrograms$Watch;") (by decide +kernel)) (fun _ h9 => h9) rfl dX9_most_57 ?_
        refine va_get (D := (dC, dI)) (ci := 8) (v := .int 1) (C := RX8) (T := TX8) (N := 17) hx hb hts hiX8 hown hK hP 2 rfl rfl 16 (by decide) (hts (.fieldLink RX9 157 "WatchedPrograms$Watch" "mostHeaps" "I") (by decide +kernel)) (fun _ h9 => h9) rfl dX9_most_60 ?_
        have hP9 := hP.sub (ws' := []) [] rfl
        have hD9 := hD.sub (ws' := []) [] (by decide) rfl
        exact W.iret (v := 1) hx hb hr (fun tt_ ht hW => ⟨⟨_, (), rfl, (by rw [okE, if_pos (by simp only [inR, Int32.lt_iff_toInt_lt, Int32.le_iff_toInt_le, ← Int32.toInt_inj, tI_0, tI_1, tI_2, tI_3, tI_4, tI_5, tI_6, tI_7, tI_8, tI_20, tI_30, tI_300, tI_400, tI_4095, tI_4096, tI_m1, tI_m2, tI_m3, tI_m9] at k_4 c_13 ⊢ <;> omega)]; exact (if_neg c_13).symm), by rw [ht]; exact hP9, hD9⟩, hS.F ht⟩) hS.2.2 dX9_most_63
      · refine lv_iload hx hb dX9_most_46 (lv_at hl 0 rfl) ?_
        refine lv_iload hx hb dX9_most_48 (lv_at hl 1 rfl) ?_
        refine vp_callSi (va_Run.run (va_runS (As := [.int 0, .int 4095]) (rest := []) ⟨hx, hb, hml, hown, hts⟩ (c_gather4095 l dC dI cI cJ cS   ) (va_cwS 2 hts gX9_most_X9_gather rfl rfl rfl (by decide +kernel) ⟨Nat.le_of_ble_eq_true rfl, Nat.le_of_ble_eq_true rfl⟩) (preR (hP.sub (ws' := []) [] rfl) hE) rfl rfl hl.1 rfl (lv_room (Nat.le_of_ble_eq_true rfl)) dX9_most_50 ⟨by decide +kernel, by decide +kernel⟩)) (fun r_14 hr_15 => ?_)
        obtain rfl := hr_15
        refine lv_goto (tgt := 63) hx hb dX9_most_53 (by decide) ?_
        have hP9 := hP.sub (ws' := []) [] rfl
        have hD9 := hD.sub (ws' := []) [] (by decide) rfl
        exact W.iret (v := 0) hx hb hr (fun tt_ ht hW => ⟨⟨_, (), rfl, (by rw [okE, if_pos (by simp only [inR, Int32.lt_iff_toInt_lt, Int32.le_iff_toInt_le, ← Int32.toInt_inj, tI_0, tI_1, tI_2, tI_3, tI_4, tI_5, tI_6, tI_7, tI_8, tI_20, tI_30, tI_300, tI_400, tI_4095, tI_4096, tI_m1, tI_m2, tI_m3, tI_m9] at k_4 c_13 ⊢ <;> omega)]; exact (if_pos c_13).symm), by rw [ht]; exact hP9, hD9⟩, hS.F ht⟩) hS.2.2 dX9_most_63
    · refine lv_aload_n hx hb dX9_most_11 rfl (lv_at hl 0 rfl) ?_
      refine lv_iload_n hx hb dX9_most_12 rfl (lv_at hl 1 rfl) ?_
      refine vp_callSi (va_Run.run (va_runV (As := [.int w]) (rest := []) ⟨hx, hb, hml, hown, hts⟩ (c_cellsWithin l dC dI cI cJ cS  h w x1 x2 x3 x4 x5 x6 x7 ) (cwV 1 hts gX9_most_X9_cellsWithin rfl rfl rfl (by decide +kernel) ⟨Nat.le_of_ble_eq_true rfl, Nat.le_of_ble_eq_true rfl⟩) (preRV (hP.sub (ws' := [(h, .inr (9, [.ref x1, .ref x2, .ref x3, .ref x4, .ref x5, .ref x6, .ref x7])), (x1, aI cI 6 (fun _ => 0))]) [0, 1] rfl) hE 0 (ci := 9) rfl rfl) rfl rfl hl.1 rfl (lv_room (Nat.le_of_ble_eq_true rfl)) dX9_most_13 ⟨by decide +kernel, by decide +kernel⟩)) (fun r_16 hr_17 => ?_)
      obtain rfl := hr_17
      refine lv_istore (lv' := [(4, .int 4095), (0, .ref h), (1, .int w), (2, .int 1), (3, .int q)]) hx hb dX9_most_16 hl (by decide) rfl (fun ls hl => ?_)
      refine lv_aload_n hx hb dX9_most_18 rfl (lv_at hl 1 rfl) ?_
      refine va_get (D := (dC, dI)) (ci := 9) (v := .ref x5) (C := RX9) (T := TX9) (N := 7) hx hb hts hiX9 hown hK hP 0 rfl rfl 4 (by decide) (hts (.fieldLink RX9 37 "WatchedPrograms" "watch" "LWatchedPrograms$Watch;") (by decide +kernel)) (fun _ h9 => h9) rfl dX9_most_19 ?_
      refine lv_aload_n hx hb dX9_most_22 rfl (lv_at hl 1 rfl) ?_
      refine va_get (D := (dC, dI)) (ci := 9) (v := .ref x7) (C := RX9) (T := TX9) (N := 7) hx hb hts hiX9 hown hK hP 0 rfl rfl 6 (by decide) (hts (.fieldLink RX9 51 "WatchedPrograms" "program" "LWatchedPrograms$Program;") (by decide +kernel)) (fun _ h9 => h9) rfl dX9_most_23 ?_
      refine lv_iload_n hx hb dX9_most_26 rfl (lv_at hl 2 rfl) ?_
      refine lv_iload hx hb dX9_most_27 (lv_at hl 0 rfl) ?_
      refine lv_iload_n hx hb dX9_most_29 rfl (lv_at hl 3 rfl) ?_
      have hFc := va_free (wc := [(x5, .inr (8, [.ref wm, .ref wt, .ref wv, .ref wk, .int 1, .ref we, .ref wf, .int 0, .ref wp, .int 0, .long 0, .int 0, .int 0, .int 0, .int 0, .int 0, .int 0]))]) hD hS hA [2] rfl
      refine zCv (wr := [(h, .inr (9, [.ref x1, .ref x2, .ref x3, .ref x4, .ref x5, .ref x6, .ref x7])), (x1, aI cI 6 (fun _ => 0)), (wm, .inr (2, [.ref na, .ref nb, .int 0, .int 0, .int 0])), (wt, .inr (1, [.ref ta, .ref tb, .ref tc, .ref td, .int 0, .int 0, .int 0])), (ta, aJ cJ 4096 (fun _ => 0)), (tb, aJ cJ 4096 (fun _ => 0)), (tc, aI cI 4096 (fun _ => 0)), (td, aI cI 8192 (fun _ => 0)), (wv, aJ cJ 16384 (fun _ => 0)), (wk, aI cI 4096 (fun _ => 0)), (x7, .inr (4, [.ref x7s, .ref x7c, .int 0, .int 0, .int 0, .int 0]))]) hP hD hS hFc [2] [0, 1, 3, 4, 5, 6, 7, 8, 9, 10, 11] rfl rfl (by decide) (by decide) (va_runV (As := [.ref x7, .int w, .int 4095, .int 1]) (rest := []) ⟨hx, hb, hml, hown, hts⟩ (c_aim1 l dC dI cI cJ cS ss_.heap.size x5 x7 w wm wt wv wk we wf wp ) (cwV 4 hts gX9_most_X8_aim rfl rfl rfl (by decide +kernel) ⟨Nat.le_of_ble_eq_true rfl, Nat.le_of_ble_eq_true rfl⟩) (preEV (hP.sub (ws' := [(x5, .inr (8, [.ref wm, .ref wt, .ref wv, .ref wk, .int 1, .ref we, .ref wf, .int 0, .ref wp, .int 0, .long 0, .int 0, .int 0, .int 0, .int 0, .int 0, .int 0]))]) [2] rfl) hE (hD.sub (ws' := [(x5, .inr (8, [.ref wm, .ref wt, .ref wv, .ref wk, .int 1, .ref we, .ref wf, .int 0, .ref wp, .int 0, .long 0, .int 0, .int 0, .int 0, .int 0, .int 0, .int 0]))]) [2] (by decide) rfl) 0 (ci := 8) rfl rfl) rfl rfl hl.1 rfl (lv_room (Nat.le_of_ble_eq_true rfl)) dX9_most_30 ⟨by decide +kernel, by decide +kernel⟩) (fun u_20 H locs hr_19 hP hD hS => ?_)
      try dsimp only at hr_19
      have hP : va_P (dC, dI) vwCl [(h, .inr (9, [.ref x1, .ref x2, .ref x3, .ref x4, .ref x5, .ref x6, .ref x7])), (x1, aI cI 6 (fun _ => 0)), (wm, .inr (2, [.ref na, .ref nb, .int 0, .int 0, .int 0])), (wt, .inr (1, [.ref ta, .ref tb, .ref tc, .ref td, .int 0, .int 0, .int 0])), (ta, aJ cJ 4096 (fun _ => 0)), (tb, aJ cJ 4096 (fun _ => 0)), (tc, aI cI 4096 (fun _ => 0)), (td, aI cI 8192 (fun _ => 0)), (wv, aJ cJ 16384 (fun _ => 0)), (wk, aI cI 4096 (fun _ => 0)), (x7, .inr (4, [.ref x7s, .ref x7c, .int 0, .int 0, .int 0, .int 0])), (x5, .inr (8, [.ref wm, .ref wt, .ref wv, .ref wk, .int 1, .ref we, .ref wf, .int 0, .ref x7, .int (w &&& 3), .long 4611686018427387903, .int 4095, .int 0, .int 0, .int 0, .int 0, .int 0]))] H := hP
      have hD : va_D A [(h, .inr (9, [.ref x1, .ref x2, .ref x3, .ref x4, .ref x5, .ref x6, .ref x7])), (x1, aI cI 6 (fun _ => 0)), (wm, .inr (2, [.ref na, .ref nb, .int 0, .int 0, .int 0])), (wt, .inr (1, [.ref ta, .ref tb, .ref tc, .ref td, .int 0, .int 0, .int 0])), (ta, aJ cJ 4096 (fun _ => 0)), (tb, aJ cJ 4096 (fun _ => 0)), (tc, aI cI 4096 (fun _ => 0)), (td, aI cI 8192 (fun _ => 0)), (wv, aJ cJ 16384 (fun _ => 0)), (wk, aI cI 4096 (fun _ => 0)), (x7, .inr (4, [.ref x7s, .ref x7c, .int 0, .int 0, .int 0, .int 0])), (x5, .inr (8, [.ref wm, .ref wt, .ref wv, .ref wk, .int 1, .ref we, .ref wf, .int 0, .ref x7, .int (w &&& 3), .long 4611686018427387903, .int 4095, .int 0, .int 0, .int 0, .int 0, .int 0]))] := hD
      refine lv_aload_n hx hb dX9_most_33 rfl (lv_at hl 1 rfl) ?_
      refine va_get (D := (dC, dI)) (ci := 9) (v := .ref x5) (C := RX9) (T := TX9) (N := 7) hx hb hts hiX9 hown hK hP 0 rfl rfl 4 (by decide) (hts (.fieldLink RX9 37 "WatchedPrograms" "watch" "LWatchedPrograms$Watch;") (by decide +kernel)) (fun _ h9 => h9) rfl dX9_most_34 ?_
      have hFc := va_free (wc := [(x5, .inr (8, [.ref wm, .ref wt, .ref wv, .ref wk, .int 1, .ref we, .ref wf, .int 0, .ref x7, .int (w &&& 3), .long 4611686018427387903, .int 4095, .int 0, .int 0, .int 0, .int 0, .int 0])), (wm, .inr (2, [.ref na, .ref nb, .int 0, .int 0, .int 0])), (x7, .inr (4, [.ref x7s, .ref x7c, .int 0, .int 0, .int 0, .int 0])), (wv, aJ cJ 16384 (fun _ => 0)), (wk, aI cI 4096 (fun _ => 0)), (wt, .inr (1, [.ref ta, .ref tb, .ref tc, .ref td, .int 0, .int 0, .int 0])), (td, aI cI 8192 (fun _ => 0)), (ta, aJ cJ 4096 (fun _ => 0)), (tb, aJ cJ 4096 (fun _ => 0)), (tc, aI cI 4096 (fun _ => 0))]) hD hS hA [11, 2, 10, 8, 9, 3, 7, 4, 5, 6] rfl
      refine zCi (wr := [(h, .inr (9, [.ref x1, .ref x2, .ref x3, .ref x4, .ref x5, .ref x6, .ref x7])), (x1, aI cI 6 (fun _ => 0))]) hP hD hS hFc [11, 2, 10, 8, 9, 3, 7, 4, 5, 6] [0, 1] rfl rfl (by decide) (by decide) (va_runV (As := []) (rest := []) ⟨hx, hb, hml, hown, hts⟩ (c_tellsMost1 l dC dI cI cJ cS H.size x5 wm wt wv wk we wf x7 (w &&& 3) na nb x7s x7c ta tb tc td ) (cwV 0 hts gX9_most_X8_tellsMost rfl rfl rfl (by decide +kernel) ⟨Nat.le_of_ble_eq_true rfl, Nat.le_of_ble_eq_true rfl⟩) (preEV (hP.sub (ws' := [(x5, .inr (8, [.ref wm, .ref wt, .ref wv, .ref wk, .int 1, .ref we, .ref wf, .int 0, .ref x7, .int (w &&& 3), .long 4611686018427387903, .int 4095, .int 0, .int 0, .int 0, .int 0, .int 0])), (wm, .inr (2, [.ref na, .ref nb, .int 0, .int 0, .int 0])), (x7, .inr (4, [.ref x7s, .ref x7c, .int 0, .int 0, .int 0, .int 0])), (wv, aJ cJ 16384 (fun _ => 0)), (wk, aI cI 4096 (fun _ => 0)), (wt, .inr (1, [.ref ta, .ref tb, .ref tc, .ref td, .int 0, .int 0, .int 0])), (td, aI cI 8192 (fun _ => 0)), (ta, aJ cJ 4096 (fun _ => 0)), (tb, aJ cJ 4096 (fun _ => 0)), (tc, aI cI 4096 (fun _ => 0))]) [11, 2, 10, 8, 9, 3, 7, 4, 5, 6] rfl) hE (hD.sub (ws' := [(x5, .inr (8, [.ref wm, .ref wt, .ref wv, .ref wk, .int 1, .ref we, .ref wf, .int 0, .ref x7, .int (w &&& 3), .long 4611686018427387903, .int 4095, .int 0, .int 0, .int 0, .int 0, .int 0])), (wm, .inr (2, [.ref na, .ref nb, .int 0, .int 0, .int 0])), (x7, .inr (4, [.ref x7s, .ref x7c, .int 0, .int 0, .int 0, .int 0])), (wv, aJ cJ 16384 (fun _ => 0)), (wk, aI cI 4096 (fun _ => 0)), (wt, .inr (1, [.ref ta, .ref tb, .ref tc, .ref td, .int 0, .int 0, .int 0])), (td, aI cI 8192 (fun _ => 0)), (ta, aJ cJ 4096 (fun _ => 0)), (tb, aJ cJ 4096 (fun _ => 0)), (tc, aI cI 4096 (fun _ => 0))]) [11, 2, 10, 8, 9, 3, 7, 4, 5, 6] (by decide) rfl) 0 (ci := 8) rfl rfl) rfl rfl hl.1 rfl (lv_room (Nat.le_of_ble_eq_true rfl)) dX9_most_37 ⟨by decide +kernel, by decide +kernel⟩) (fun r_21 u_23 H locs hr_22 hP hD hS => ?_)
      try dsimp only at hr_22
      have hP : va_P (dC, dI) vwCl [(h, .inr (9, [.ref x1, .ref x2, .ref x3, .ref x4, .ref x5, .ref x6, .ref x7])), (x1, aI cI 6 (fun _ => 0)), (x5, .inr (8, [.ref wm, .ref wt, .ref wv, .ref wk, .int 1, .ref we, .ref wf, .int 0, .ref x7, .int (w &&& 3), .long 4611686018427387903, .int 4095, .int 0, .int 0, .int 0, .int 0, .int 1])), (wv, aJ cJ 16384 (vp_updL (vp_updL (vp_updL (vp_updL (fun _ => 0) 0 1) 4096 1) 8192 1) 12288 1)), (wk, aI cI 4096 (upd (fun _ => 0) 0 1)), (wm, .inr (2, [.ref na, .ref nb, .int 0, .int 0, .int 0])), (x7, .inr (4, [.ref x7s, .ref x7c, .int 0, .int 0, .int 0, .int 0])), (td, aI cI 8192 (upd (upd (upd (fun _ => 0) 0 0) 1 0) 1 1)), (ta, aJ cJ 4096 (vp_updL (fun _ => 0) 0 1)), (tb, aJ cJ 4096 (vp_updL (fun _ => 0) 0 0)), (wt, .inr (1, [.ref ta, .ref tb, .ref tc, .ref td, .int 1, .int 1, .int 1])), (tc, aI cI 4096 (upd (upd (fun _ => 0) 0 0) 0 1))] H := hP
      have hD : va_D A [(h, .inr (9, [.ref x1, .ref x2, .ref x3, .ref x4, .ref x5, .ref x6, .ref x7])), (x1, aI cI 6 (fun _ => 0)), (x5, .inr (8, [.ref wm, .ref wt, .ref wv, .ref wk, .int 1, .ref we, .ref wf, .int 0, .ref x7, .int (w &&& 3), .long 4611686018427387903, .int 4095, .int 0, .int 0, .int 0, .int 0, .int 1])), (wv, aJ cJ 16384 (vp_updL (vp_updL (vp_updL (vp_updL (fun _ => 0) 0 1) 4096 1) 8192 1) 12288 1)), (wk, aI cI 4096 (upd (fun _ => 0) 0 1)), (wm, .inr (2, [.ref na, .ref nb, .int 0, .int 0, .int 0])), (x7, .inr (4, [.ref x7s, .ref x7c, .int 0, .int 0, .int 0, .int 0])), (td, aI cI 8192 (upd (upd (upd (fun _ => 0) 0 0) 1 0) 1 1)), (ta, aJ cJ 4096 (vp_updL (fun _ => 0) 0 1)), (tb, aJ cJ 4096 (vp_updL (fun _ => 0) 0 0)), (wt, .inr (1, [.ref ta, .ref tb, .ref tc, .ref td, .int 1, .int 1, .int 1])), (tc, aI cI 4096 (upd (upd (fun _ => 0) 0 0) 0 1))] := hD
      obtain rfl := hr_22
      refine lv_istore (lv' := [(5, .int 0), (4, .int 4095), (0, .ref h), (1, .int w), (2, .int 1), (3, .int q)]) hx hb dX9_most_40 hl (by decide) rfl (fun ls hl => ?_)
      refine lv_iload_n hx hb dX9_most_42 rfl (lv_at hl 5 rfl) ?_
      refine lv_if_ne (tgt := 56) hx hb dX9_most_43 (by decide) (fun c_24 => ?_) (fun c_24 => ?_)
      · refine lv_aload_n hx hb dX9_most_56 rfl (lv_at hl 2 rfl) ?_
        refine va_get (D := (dC, dI)) (ci := 9) (v := .ref x5) (C := RX9) (T := TX9) (N := 7) hx hb hts hiX9 hown hK hP 0 rfl rfl 4 (by decide) (hts (.fieldLink RX9 37 "WatchedPrograms" "watch" "LWatchedPrograms$Watch;") (by decide +kernel)) (fun _ h9 => h9) rfl dX9_most_57 ?_
        refine va_get (D := (dC, dI)) (ci := 8) (v := .int 1) (C := RX8) (T := TX8) (N := 17) hx hb hts hiX8 hown hK hP 2 rfl rfl 16 (by decide) (hts (.fieldLink RX9 157 "WatchedPrograms$Watch" "mostHeaps" "I") (by decide +kernel)) (fun _ h9 => h9) rfl dX9_most_60 ?_
        have hP9 := hP.sub (ws' := []) [] rfl
        have hD9 := hD.sub (ws' := []) [] (by decide) rfl
        exact W.iret (v := 1) hx hb hr (fun tt_ ht hW => ⟨⟨_, (), rfl, (by rw [okE, if_pos (by simp only [inR, Int32.lt_iff_toInt_lt, Int32.le_iff_toInt_le, ← Int32.toInt_inj, tI_0, tI_1, tI_2, tI_3, tI_4, tI_5, tI_6, tI_7, tI_8, tI_20, tI_30, tI_300, tI_400, tI_4095, tI_4096, tI_m1, tI_m2, tI_m3, tI_m9] at k_4 c_24 ⊢ <;> omega)]; exact (if_neg c_24).symm), by rw [ht]; exact hP9, hD9⟩, hS.F ht⟩) hS.2.2 dX9_most_63
      · refine lv_iload hx hb dX9_most_46 (lv_at hl 0 rfl) ?_
        refine lv_iload hx hb dX9_most_48 (lv_at hl 1 rfl) ?_
        refine vp_callSi (va_Run.run (va_runS (As := [.int 0, .int 4095]) (rest := []) ⟨hx, hb, hml, hown, hts⟩ (c_gather4095 l dC dI cI cJ cS   ) (va_cwS 2 hts gX9_most_X9_gather rfl rfl rfl (by decide +kernel) ⟨Nat.le_of_ble_eq_true rfl, Nat.le_of_ble_eq_true rfl⟩) (preR (hP.sub (ws' := []) [] rfl) hE) rfl rfl hl.1 rfl (lv_room (Nat.le_of_ble_eq_true rfl)) dX9_most_50 ⟨by decide +kernel, by decide +kernel⟩)) (fun r_25 hr_26 => ?_)
        obtain rfl := hr_26
        refine lv_goto (tgt := 63) hx hb dX9_most_53 (by decide) ?_
        have hP9 := hP.sub (ws' := []) [] rfl
        have hD9 := hD.sub (ws' := []) [] (by decide) rfl
        exact W.iret (v := 0) hx hb hr (fun tt_ ht hW => ⟨⟨_, (), rfl, (by rw [okE, if_pos (by simp only [inR, Int32.lt_iff_toInt_lt, Int32.le_iff_toInt_le, ← Int32.toInt_inj, tI_0, tI_1, tI_2, tI_3, tI_4, tI_5, tI_6, tI_7, tI_8, tI_20, tI_30, tI_300, tI_400, tI_4095, tI_4096, tI_m1, tI_m2, tI_m3, tI_m9] at k_4 c_24 ⊢ <;> omega)]; exact (if_pos c_24).symm), by rw [ht]; exact hP9, hD9⟩, hS.F ht⟩) hS.2.2 dX9_most_63
  · have k_27 : ¬ ((inR w 0 3 ∧ inR t 0 1) ∧ inR q 0 1) := bI_0 hr_2 c_3
    refine lv_iconst (v := (-1)) hx hb dX9_most_9 (by decide) ?_
    have hP9 := hP.sub (ws' := []) [] rfl
    have hD9 := hD.sub (ws' := []) [] (by decide) rfl
    exact W.iret (v := (-1)) hx hb hr (fun tt_ ht hW => ⟨⟨_, (), rfl, (by rw [okE, if_neg (by simp only [inR, Int32.lt_iff_toInt_lt, Int32.le_iff_toInt_le, ← Int32.toInt_inj, tI_0, tI_1, tI_2, tI_3, tI_4, tI_5, tI_6, tI_7, tI_8, tI_20, tI_30, tI_300, tI_400, tI_4095, tI_4096, tI_m1, tI_m2, tI_m3, tI_m9] at k_27 ⊢ <;> omega)]), by rw [ht]; exact hP9, hD9⟩, hS.F ht⟩) hS.2.2 dX9_most_10
set_option maxHeartbeats 1000000 in
set_option maxRecDepth 100000 in
theorem c_together (l : Launch) (dC : Nat → ClassId) (dI : Nat → Nat → Nat) (cI cJ cS : ClassId) (sz : Nat) (h : Nat) (w : Int32) (t : Int32) (o : Int32) (oo : Int32) (x1 : Nat) (x2 : Nat) (x3 : Nat) (x4 : Nat) (x5 : Nat) (x6 : Nat) (x7 : Nat) (wm : Nat) (wt : Nat) (wv : Nat) (wk : Nat) (we : Nat) (wf : Nat) (wp : Nat) (na : Nat) (nb : Nat) (ta : Nat) (tb : Nat) (tc : Nat) (td : Nat) (x7s : Nat) (x7c : Nat)  : Met l yX9_together wsX9_together ({ frames := 5, cells := 0, slots := 0, locals := 109 }) (va_Pc [.ref h, .int w, .int t, .int o, .int oo] (PE dC dI cI cJ cS [(h, .inr (9, [.ref x1, .ref x2, .ref x3, .ref x4, .ref x5, .ref x6, .ref x7])), (x1, aI cI 6 (fun _ => 0)), (x5, .inr (8, [.ref wm, .ref wt, .ref wv, .ref wk, .int 1, .ref we, .ref wf, .int 0, .ref wp, .int 0, .long 0, .int 0, .int 0, .int 0, .int 0, .int 0, .int 0])), (wm, .inr (2, [.ref na, .ref nb, .int 0, .int 0, .int 0])), (wt, .inr (1, [.ref ta, .ref tb, .ref tc, .ref td, .int 0, .int 0, .int 0])), (ta, aJ cJ 4096 (fun _ => 0)), (tb, aJ cJ 4096 (fun _ => 0)), (tc, aI cI 4096 (fun _ => 0)), (td, aI cI 8192 (fun _ => 0)), (wv, aJ cJ 16384 (fun _ => 0)), (wk, aI cI 4096 (fun _ => 0)), (x7, .inr (4, [.ref x7s, .ref x7c, .int 0, .int 0, .int 0, .int 0]))] sz)) (va_Qi (fun (r : Int32) (_ : Unit) => r = okE (((inR w 0 3 ∧ inR t 0 1) ∧ inR o 0 4095) ∧ inR oo 0 4095) 1) (BE dC dI (va_A [(h, .inr (9, [.ref x1, .ref x2, .ref x3, .ref x4, .ref x5, .ref x6, .ref x7])), (x1, aI cI 6 (fun _ => 0)), (x5, .inr (8, [.ref wm, .ref wt, .ref wv, .ref wk, .int 1, .ref we, .ref wf, .int 0, .ref wp, .int 0, .long 0, .int 0, .int 0, .int 0, .int 0, .int 0, .int 0])), (wm, .inr (2, [.ref na, .ref nb, .int 0, .int 0, .int 0])), (wt, .inr (1, [.ref ta, .ref tb, .ref tc, .ref td, .int 0, .int 0, .int 0])), (ta, aJ cJ 4096 (fun _ => 0)), (tb, aJ cJ 4096 (fun _ => 0)), (tc, aI cI 4096 (fun _ => 0)), (td, aI cI 8192 (fun _ => 0)), (wv, aJ cJ 16384 (fun _ => 0)), (wk, aI cI 4096 (fun _ => 0)), (x7, .inr (4, [.ref x7s, .ref x7c, .int 0, .int 0, .int 0, .int 0]))] sz) (fun (_ : Unit) => [])) (va_A [(h, .inr (9, [.ref x1, .ref x2, .ref x3, .ref x4, .ref x5, .ref x6, .ref x7])), (x1, aI cI 6 (fun _ => 0)), (x5, .inr (8, [.ref wm, .ref wt, .ref wv, .ref wk, .int 1, .ref we, .ref wf, .int 0, .ref wp, .int 0, .long 0, .int 0, .int 0, .int 0, .int 0, .int 0, .int 0])), (wm, .inr (2, [.ref na, .ref nb, .int 0, .int 0, .int 0])), (wt, .inr (1, [.ref ta, .ref tb, .ref tc, .ref td, .int 0, .int 0, .int 0])), (ta, aJ cJ 4096 (fun _ => 0)), (tb, aJ cJ 4096 (fun _ => 0)), (tc, aI cI 4096 (fun _ => 0)), (td, aI cI 8192 (fun _ => 0)), (wv, aJ cJ 16384 (fun _ => 0)), (wk, aI cI 4096 (fun _ => 0)), (x7, .inr (4, [.ref x7s, .ref x7c, .int 0, .int 0, .int 0, .int 0]))] sz)) 0 0 (va_A [(h, .inr (9, [.ref x1, .ref x2, .ref x3, .ref x4, .ref x5, .ref x6, .ref x7])), (x1, aI cI 6 (fun _ => 0)), (x5, .inr (8, [.ref wm, .ref wt, .ref wv, .ref wk, .int 1, .ref we, .ref wf, .int 0, .ref wp, .int 0, .long 0, .int 0, .int 0, .int 0, .int 0, .int 0, .int 0])), (wm, .inr (2, [.ref na, .ref nb, .int 0, .int 0, .int 0])), (wt, .inr (1, [.ref ta, .ref tb, .ref tc, .ref td, .int 0, .int 0, .int 0])), (ta, aJ cJ 4096 (fun _ => 0)), (tb, aJ cJ 4096 (fun _ => 0)), (tc, aI cI 4096 (fun _ => 0)), (td, aI cI 8192 (fun _ => 0)), (wv, aJ cJ 16384 (fun _ => 0)), (wk, aI cI 4096 (fun _ => 0)), (x7, .inr (4, [.ref x7s, .ref x7c, .int 0, .int 0, .int 0, .int 0]))] sz) := by
  refine Met.ofW (cc := cX9_together) (maxL := 6) (ret := (some .int)) (by decide) rfl ?_
  intro pp_ ee_ ss_ mm_ args below meth cc_ s₁ B hml hv
  obtain ⟨rfl, hsz, hP, hE, hD0⟩ := hv
  have hx := B.exec
  have hb := B.bytes
  have hr := B.returns
  have hts := atoms_spec (ws := wsX9_together) B.pre
  have hown : ss_.vm.findClass RX9 = some mm_.cls := findClass_of_methodNamed B.named
  have hlocks := B.notSynchronized
  have hK := hE.1
  have hiX9 : ∀ w ∈ wsX90, w ∈ wsX9_together := by decide +kernel
  subst hsz
  have hD := hD0.self (sz := ss_.heap.size)
  generalize hAe : va_A [(h, .inr (9, [.ref x1, .ref x2, .ref x3, .ref x4, .ref x5, .ref x6, .ref x7])), (x1, aI cI 6 (fun _ => 0)), (x5, .inr (8, [.ref wm, .ref wt, .ref wv, .ref wk, .int 1, .ref we, .ref wf, .int 0, .ref wp, .int 0, .long 0, .int 0, .int 0, .int 0, .int 0, .int 0, .int 0])), (wm, .inr (2, [.ref na, .ref nb, .int 0, .int 0, .int 0])), (wt, .inr (1, [.ref ta, .ref tb, .ref tc, .ref td, .int 0, .int 0, .int 0])), (ta, aJ cJ 4096 (fun _ => 0)), (tb, aJ cJ 4096 (fun _ => 0)), (tc, aI cI 4096 (fun _ => 0)), (td, aI cI 8192 (fun _ => 0)), (wv, aJ cJ 16384 (fun _ => 0)), (wk, aI cI 4096 (fun _ => 0)), (x7, .inr (4, [.ref x7s, .ref x7c, .int 0, .int 0, .int 0, .int 0]))] ss_.heap.size = A at hD ⊢
  have hA : ∀ q : Nat, ss_.heap.size ≤ q → A q := fun q h => by rw [← hAe]; exact Or.inr h
  have hS : va_S A ss_.heap ss_.heap [] := va_S.rf
  have hP : va_P (dC, dI) vwCl [(h, .inr (9, [.ref x1, .ref x2, .ref x3, .ref x4, .ref x5, .ref x6, .ref x7])), (x1, aI cI 6 (fun _ => 0)), (x5, .inr (8, [.ref wm, .ref wt, .ref wv, .ref wk, .int 1, .ref we, .ref wf, .int 0, .ref wp, .int 0, .long 0, .int 0, .int 0, .int 0, .int 0, .int 0, .int 0])), (wm, .inr (2, [.ref na, .ref nb, .int 0, .int 0, .int 0])), (wt, .inr (1, [.ref ta, .ref tb, .ref tc, .ref td, .int 0, .int 0, .int 0])), (ta, aJ cJ 4096 (fun _ => 0)), (tb, aJ cJ 4096 (fun _ => 0)), (tc, aI cI 4096 (fun _ => 0)), (td, aI cI 8192 (fun _ => 0)), (wv, aJ cJ 16384 (fun _ => 0)), (wk, aI cI 4096 (fun _ => 0)), (x7, .inr (4, [.ref x7s, .ref x7c, .int 0, .int 0, .int 0, .int 0]))] ss_.heap := hP
  have hl := lv_entry ([.ref h, .int w, .int t, .int o, .int oo]) (n := 6) (Nat.le_of_ble_eq_true rfl)
  rw [lg_entry_eq]
  generalize (lg_sl ([.ref h, .int w, .int t, .int o, .int oo]) ++ List.replicate (6 - (lg_sl ([.ref h, .int w, .int t, .int o, .int oo])).length) Slot.unset).toArray = ls at hl ⊢
  have hl : lv_has ls 6 [(0, .ref h), (1, .int w), (2, .int t), (3, .int o), (4, .int oo)] := hl
  refine lv_iload_n hx hb dX9_together_0 rfl (lv_at hl 1 rfl) ?_
  refine lv_iload_n hx hb dX9_together_1 rfl (lv_at hl 2 rfl) ?_
  refine lv_iconst (v := 0) hx hb dX9_together_2 (by decide) ?_
  refine vp_callSi (va_Run.run (va_runS (As := [.int w, .int t, .int 0]) (rest := []) ⟨hx, hb, hml, hown, hts⟩ (c_isWatched0 l dC dI cI cJ cS  w t ) (va_cwS 3 hts gX9_together_X9_isWatched rfl rfl rfl (by decide +kernel) ⟨Nat.le_of_ble_eq_true rfl, Nat.le_of_ble_eq_true rfl⟩) (preR (hP.sub (ws' := []) [] rfl) hE) rfl rfl hl.1 rfl (lv_room (Nat.le_of_ble_eq_true rfl)) dX9_together_3 ⟨by decide +kernel, by decide +kernel⟩)) (fun r_1 hr_2 => ?_)
  refine lv_if_ne (tgt := 11) hx hb dX9_together_6 (by decide) (fun c_3 => ?_) (fun c_3 => ?_)
  · have k_4 : inR w 0 3 ∧ inR t 0 1 := bI_1 hr_2 c_3
    rcases in01 k_4.2 with rfl | rfl
    · refine lv_aload_n hx hb dX9_together_11 rfl (lv_at hl 0 rfl) ?_
      refine lv_iload_n hx hb dX9_together_12 rfl (lv_at hl 1 rfl) ?_
      refine vp_callSi (va_Run.run (va_runV (As := [.int w]) (rest := []) ⟨hx, hb, hml, hown, hts⟩ (c_cellsWithin l dC dI cI cJ cS  h w x1 x2 x3 x4 x5 x6 x7 ) (cwV 1 hts gX9_together_X9_cellsWithin rfl rfl rfl (by decide +kernel) ⟨Nat.le_of_ble_eq_true rfl, Nat.le_of_ble_eq_true rfl⟩) (preRV (hP.sub (ws' := [(h, .inr (9, [.ref x1, .ref x2, .ref x3, .ref x4, .ref x5, .ref x6, .ref x7])), (x1, aI cI 6 (fun _ => 0))]) [0, 1] rfl) hE 0 (ci := 9) rfl rfl) rfl rfl hl.1 rfl (lv_room (Nat.le_of_ble_eq_true rfl)) dX9_together_13 ⟨by decide +kernel, by decide +kernel⟩)) (fun r_5 hr_6 => ?_)
      obtain rfl := hr_6
      refine lv_istore (lv' := [(5, .int 4095), (0, .ref h), (1, .int w), (2, .int 0), (3, .int o), (4, .int oo)]) hx hb dX9_together_16 hl (by decide) rfl (fun ls hl => ?_)
      refine lv_iload_n hx hb dX9_together_18 rfl (lv_at hl 4 rfl) ?_
      refine lv_iload hx hb dX9_together_19 (lv_at hl 0 rfl) ?_
      refine vp_callSi (va_Run.run (va_runS (As := [.int o, .int 4095]) (rest := []) ⟨hx, hb, hml, hown, hts⟩ (c_isPacked l dC dI cI cJ cS  o ) (va_cwS 2 hts gX9_together_X9_isPacked rfl rfl rfl (by decide +kernel) ⟨Nat.le_of_ble_eq_true rfl, Nat.le_of_ble_eq_true rfl⟩) (preR (hP.sub (ws' := []) [] rfl) hE) rfl rfl hl.1 rfl (lv_room (Nat.le_of_ble_eq_true rfl)) dX9_together_21 ⟨by decide +kernel, by decide +kernel⟩)) (fun r_7 hr_8 => ?_)
      refine lv_if_eq (tgt := 37) hx hb dX9_together_24 (by decide) (fun c_9 => ?_) (fun c_9 => ?_)
      · have k_10 : ¬ (inR o 0 4095) := bI_0 hr_8 c_9
        refine lv_iconst (v := (-1)) hx hb dX9_together_37 (by decide) ?_
        have hP9 := hP.sub (ws' := []) [] rfl
        have hD9 := hD.sub (ws' := []) [] (by decide) rfl
        exact W.iret (v := (-1)) hx hb hr (fun tt_ ht hW => ⟨⟨_, (), rfl, (by rw [okE, if_neg (by simp only [inR, Int32.lt_iff_toInt_lt, Int32.le_iff_toInt_le, ← Int32.toInt_inj, tI_0, tI_1, tI_2, tI_3, tI_4, tI_5, tI_6, tI_7, tI_8, tI_20, tI_30, tI_300, tI_400, tI_4095, tI_4096, tI_m1, tI_m2, tI_m3, tI_m9] at k_4 k_10 ⊢ <;> omega)]), by rw [ht]; exact hP9, hD9⟩, hS.F ht⟩) hS.2.2 dX9_together_38
      · have k_11 : inR o 0 4095 := bI_1 hr_8 c_9
        refine lv_iload hx hb dX9_together_27 (lv_at hl 5 rfl) ?_
        refine lv_iload hx hb dX9_together_29 (lv_at hl 0 rfl) ?_
        refine vp_callSi (va_Run.run (va_runS (As := [.int oo, .int 4095]) (rest := []) ⟨hx, hb, hml, hown, hts⟩ (c_isPacked l dC dI cI cJ cS  oo ) (va_cwS 2 hts gX9_together_X9_isPacked rfl rfl rfl (by decide +kernel) ⟨Nat.le_of_ble_eq_true rfl, Nat.le_of_ble_eq_true rfl⟩) (preR (hP.sub (ws' := []) [] rfl) hE) rfl rfl hl.1 rfl (lv_room (Nat.le_of_ble_eq_true rfl)) dX9_together_31 ⟨by decide +kernel, by decide +kernel⟩)) (fun r_12 hr_13 => ?_)
        refine lv_if_ne (tgt := 39) hx hb dX9_together_34 (by decide) (fun c_14 => ?_) (fun c_14 => ?_)
        · have k_15 : inR oo 0 4095 := bI_1 hr_13 c_14
          refine lv_aload_n hx hb dX9_together_39 rfl (lv_at hl 1 rfl) ?_
          refine va_get (D := (dC, dI)) (ci := 9) (v := .ref x5) (C := RX9) (T := TX9) (N := 7) hx hb hts hiX9 hown hK hP 0 rfl rfl 4 (by decide) (hts (.fieldLink RX9 37 "WatchedPrograms" "watch" "LWatchedPrograms$Watch;") (by decide +kernel)) (fun _ h9 => h9) rfl dX9_together_40 ?_
          refine lv_aload_n hx hb dX9_together_43 rfl (lv_at hl 1 rfl) ?_
          refine va_get (D := (dC, dI)) (ci := 9) (v := .ref x7) (C := RX9) (T := TX9) (N := 7) hx hb hts hiX9 hown hK hP 0 rfl rfl 6 (by decide) (hts (.fieldLink RX9 51 "WatchedPrograms" "program" "LWatchedPrograms$Program;") (by decide +kernel)) (fun _ h9 => h9) rfl dX9_together_44 ?_
          refine lv_iload_n hx hb dX9_together_47 rfl (lv_at hl 2 rfl) ?_
          refine lv_iload hx hb dX9_together_48 (lv_at hl 0 rfl) ?_
          refine lv_iload_n hx hb dX9_together_50 rfl (lv_at hl 3 rfl) ?_
          have hFc := va_free (wc := [(x5, .inr (8, [.ref wm, .ref wt, .ref wv, .ref wk, .int 1, .ref we, .ref wf, .int 0, .ref wp, .int 0, .long 0, .int 0, .int 0, .int 0, .int 0, .int 0, .int 0]))]) hD hS hA [2] rfl
          refine zCv (wr := [(h, .inr (9, [.ref x1, .ref x2, .ref x3, .ref x4, .ref x5, .ref x6, .ref x7])), (x1, aI cI 6 (fun _ => 0)), (wm, .inr (2, [.ref na, .ref nb, .int 0, .int 0, .int 0])), (wt, .inr (1, [.ref ta, .ref tb, .ref tc, .ref td, .int 0, .int 0, .int 0])), (ta, aJ cJ 4096 (fun _ => 0)), (tb, aJ cJ 4096 (fun _ => 0)), (tc, aI cI 4096 (fun _ => 0)), (td, aI cI 8192 (fun _ => 0)), (wv, aJ cJ 16384 (fun _ => 0)), (wk, aI cI 4096 (fun _ => 0)), (x7, .inr (4, [.ref x7s, .ref x7c, .int 0, .int 0, .int 0, .int 0]))]) hP hD hS hFc [2] [0, 1, 3, 4, 5, 6, 7, 8, 9, 10, 11] rfl rfl (by decide) (by decide) (va_runV (As := [.ref x7, .int w, .int 4095, .int 0]) (rest := []) ⟨hx, hb, hml, hown, hts⟩ (c_aim0 l dC dI cI cJ cS ss_.heap.size x5 x7 w wm wt wv wk we wf wp ) (cwV 4 hts gX9_together_X8_aim rfl rfl rfl (by decide +kernel) ⟨Nat.le_of_ble_eq_true rfl, Nat.le_of_ble_eq_true rfl⟩) (preEV (hP.sub (ws' := [(x5, .inr (8, [.ref wm, .ref wt, .ref wv, .ref wk, .int 1, .ref we, .ref wf, .int 0, .ref wp, .int 0, .long 0, .int 0, .int 0, .int 0, .int 0, .int 0, .int 0]))]) [2] rfl) hE (hD.sub (ws' := [(x5, .inr (8, [.ref wm, .ref wt, .ref wv, .ref wk, .int 1, .ref we, .ref wf, .int 0, .ref wp, .int 0, .long 0, .int 0, .int 0, .int 0, .int 0, .int 0, .int 0]))]) [2] (by decide) rfl) 0 (ci := 8) rfl rfl) rfl rfl hl.1 rfl (lv_room (Nat.le_of_ble_eq_true rfl)) dX9_together_51 ⟨by decide +kernel, by decide +kernel⟩) (fun u_18 H locs hr_17 hP hD hS => ?_)
          try dsimp only at hr_17
          have hP : va_P (dC, dI) vwCl [(h, .inr (9, [.ref x1, .ref x2, .ref x3, .ref x4, .ref x5, .ref x6, .ref x7])), (x1, aI cI 6 (fun _ => 0)), (wm, .inr (2, [.ref na, .ref nb, .int 0, .int 0, .int 0])), (wt, .inr (1, [.ref ta, .ref tb, .ref tc, .ref td, .int 0, .int 0, .int 0])), (ta, aJ cJ 4096 (fun _ => 0)), (tb, aJ cJ 4096 (fun _ => 0)), (tc, aI cI 4096 (fun _ => 0)), (td, aI cI 8192 (fun _ => 0)), (wv, aJ cJ 16384 (fun _ => 0)), (wk, aI cI 4096 (fun _ => 0)), (x7, .inr (4, [.ref x7s, .ref x7c, .int 0, .int 0, .int 0, .int 0])), (x5, .inr (8, [.ref wm, .ref wt, .ref wv, .ref wk, .int 1, .ref we, .ref wf, .int 0, .ref x7, .int (w &&& 3), .long 9007199254740991, .int 4095, .int 0, .int 0, .int 0, .int 0, .int 0]))] H := hP
          have hD : va_D A [(h, .inr (9, [.ref x1, .ref x2, .ref x3, .ref x4, .ref x5, .ref x6, .ref x7])), (x1, aI cI 6 (fun _ => 0)), (wm, .inr (2, [.ref na, .ref nb, .int 0, .int 0, .int 0])), (wt, .inr (1, [.ref ta, .ref tb, .ref tc, .ref td, .int 0, .int 0, .int 0])), (ta, aJ cJ 4096 (fun _ => 0)), (tb, aJ cJ 4096 (fun _ => 0)), (tc, aI cI 4096 (fun _ => 0)), (td, aI cI 8192 (fun _ => 0)), (wv, aJ cJ 16384 (fun _ => 0)), (wk, aI cI 4096 (fun _ => 0)), (x7, .inr (4, [.ref x7s, .ref x7c, .int 0, .int 0, .int 0, .int 0])), (x5, .inr (8, [.ref wm, .ref wt, .ref wv, .ref wk, .int 1, .ref we, .ref wf, .int 0, .ref x7, .int (w &&& 3), .long 9007199254740991, .int 4095, .int 0, .int 0, .int 0, .int 0, .int 0]))] := hD
          refine lv_aload_n hx hb dX9_together_54 rfl (lv_at hl 1 rfl) ?_
          refine va_get (D := (dC, dI)) (ci := 9) (v := .ref x5) (C := RX9) (T := TX9) (N := 7) hx hb hts hiX9 hown hK hP 0 rfl rfl 4 (by decide) (hts (.fieldLink RX9 37 "WatchedPrograms" "watch" "LWatchedPrograms$Watch;") (by decide +kernel)) (fun _ h9 => h9) rfl dX9_together_55 ?_
          refine lv_iload_n hx hb dX9_together_58 rfl (lv_at hl 4 rfl) ?_
          refine lv_iload hx hb dX9_together_59 (lv_at hl 0 rfl) ?_
          refine vp_callSi (va_Run.run (va_runS (As := [.int o, .int 4095]) (rest := [.ref x5]) ⟨hx, hb, hml, hown, hts⟩ (c_spread l dC dI cI cJ cS  o ) (va_cwS 2 hts gX9_together_X9_spread rfl rfl rfl (by decide +kernel) ⟨Nat.le_of_ble_eq_true rfl, Nat.le_of_ble_eq_true rfl⟩) (preR (hP.sub (ws' := []) [] rfl) hE) rfl rfl hl.1 rfl (lv_room (Nat.le_of_ble_eq_true rfl)) dX9_together_61 ⟨by decide +kernel, by decide +kernel⟩)) (fun r_19 hr_20 => ?_)
          refine lv_iload hx hb dX9_together_64 (lv_at hl 5 rfl) ?_
          refine lv_iload hx hb dX9_together_66 (lv_at hl 0 rfl) ?_
          refine vp_callSi (va_Run.run (va_runS (As := [.int oo, .int 4095]) (rest := [.int r_19, .ref x5]) ⟨hx, hb, hml, hown, hts⟩ (c_spread l dC dI cI cJ cS  oo ) (va_cwS 2 hts gX9_together_X9_spread rfl rfl rfl (by decide +kernel) ⟨Nat.le_of_ble_eq_true rfl, Nat.le_of_ble_eq_true rfl⟩) (preR (hP.sub (ws' := []) [] rfl) hE) rfl rfl hl.1 rfl (lv_room (Nat.le_of_ble_eq_true rfl)) dX9_together_68 ⟨by decide +kernel, by decide +kernel⟩)) (fun r_21 hr_22 => ?_)
          have hFc := va_free (wc := [(x5, .inr (8, [.ref wm, .ref wt, .ref wv, .ref wk, .int 1, .ref we, .ref wf, .int 0, .ref x7, .int (w &&& 3), .long 9007199254740991, .int 4095, .int 0, .int 0, .int 0, .int 0, .int 0])), (wm, .inr (2, [.ref na, .ref nb, .int 0, .int 0, .int 0])), (x7, .inr (4, [.ref x7s, .ref x7c, .int 0, .int 0, .int 0, .int 0])), (wv, aJ cJ 16384 (fun _ => 0)), (wk, aI cI 4096 (fun _ => 0)), (wt, .inr (1, [.ref ta, .ref tb, .ref tc, .ref td, .int 0, .int 0, .int 0])), (td, aI cI 8192 (fun _ => 0)), (ta, aJ cJ 4096 (fun _ => 0)), (tb, aJ cJ 4096 (fun _ => 0)), (tc, aI cI 4096 (fun _ => 0))]) hD hS hA [11, 2, 10, 8, 9, 3, 7, 4, 5, 6] rfl
          refine zCi (wr := [(h, .inr (9, [.ref x1, .ref x2, .ref x3, .ref x4, .ref x5, .ref x6, .ref x7])), (x1, aI cI 6 (fun _ => 0))]) hP hD hS hFc [11, 2, 10, 8, 9, 3, 7, 4, 5, 6] [0, 1] rfl rfl (by decide) (by decide) (va_runV (As := [.int r_19, .int r_21]) (rest := []) ⟨hx, hb, hml, hown, hts⟩ (c_countTogether0 l dC dI cI cJ cS H.size x5 r_19 r_21 wm wt wv wk we wf x7 (w &&& 3) na nb x7s x7c ta tb tc td ) (cwV 2 hts gX9_together_X8_countTogether rfl rfl rfl (by decide +kernel) ⟨Nat.le_of_ble_eq_true rfl, Nat.le_of_ble_eq_true rfl⟩) (preEV (hP.sub (ws' := [(x5, .inr (8, [.ref wm, .ref wt, .ref wv, .ref wk, .int 1, .ref we, .ref wf, .int 0, .ref x7, .int (w &&& 3), .long 9007199254740991, .int 4095, .int 0, .int 0, .int 0, .int 0, .int 0])), (wm, .inr (2, [.ref na, .ref nb, .int 0, .int 0, .int 0])), (x7, .inr (4, [.ref x7s, .ref x7c, .int 0, .int 0, .int 0, .int 0])), (wv, aJ cJ 16384 (fun _ => 0)), (wk, aI cI 4096 (fun _ => 0)), (wt, .inr (1, [.ref ta, .ref tb, .ref tc, .ref td, .int 0, .int 0, .int 0])), (td, aI cI 8192 (fun _ => 0)), (ta, aJ cJ 4096 (fun _ => 0)), (tb, aJ cJ 4096 (fun _ => 0)), (tc, aI cI 4096 (fun _ => 0))]) [11, 2, 10, 8, 9, 3, 7, 4, 5, 6] rfl) hE (hD.sub (ws' := [(x5, .inr (8, [.ref wm, .ref wt, .ref wv, .ref wk, .int 1, .ref we, .ref wf, .int 0, .ref x7, .int (w &&& 3), .long 9007199254740991, .int 4095, .int 0, .int 0, .int 0, .int 0, .int 0])), (wm, .inr (2, [.ref na, .ref nb, .int 0, .int 0, .int 0])), (x7, .inr (4, [.ref x7s, .ref x7c, .int 0, .int 0, .int 0, .int 0])), (wv, aJ cJ 16384 (fun _ => 0)), (wk, aI cI 4096 (fun _ => 0)), (wt, .inr (1, [.ref ta, .ref tb, .ref tc, .ref td, .int 0, .int 0, .int 0])), (td, aI cI 8192 (fun _ => 0)), (ta, aJ cJ 4096 (fun _ => 0)), (tb, aJ cJ 4096 (fun _ => 0)), (tc, aI cI 4096 (fun _ => 0))]) [11, 2, 10, 8, 9, 3, 7, 4, 5, 6] (by decide) rfl) 0 (ci := 8) rfl rfl) rfl rfl hl.1 rfl (lv_room (Nat.le_of_ble_eq_true rfl)) dX9_together_71 ⟨by decide +kernel, by decide +kernel⟩) (fun r_23 u_25 H locs hr_24 hP hD hS => ?_)
          try dsimp only at hr_24
          have hP : va_P (dC, dI) vwCl [(h, .inr (9, [.ref x1, .ref x2, .ref x3, .ref x4, .ref x5, .ref x6, .ref x7])), (x1, aI cI 6 (fun _ => 0)), (x5, .inr (8, [.ref wm, .ref wt, .ref wv, .ref wk, .int 1, .ref we, .ref wf, .int 0, .ref x7, .int (w &&& 3), .long 9007199254740991, .int 4095, .int 0, .int 0, .int 0, .int 0, .int 0])), (wv, aJ cJ 16384 (vp_updL (vp_updL (vp_updL (vp_updL (fun _ => 0) 0 1) 4096 1) 8192 1) 12288 1)), (wk, aI cI 4096 (upd (fun _ => 0) 0 1)), (wm, .inr (2, [.ref na, .ref nb, .int 0, .int 0, .int 0])), (x7, .inr (4, [.ref x7s, .ref x7c, .int 0, .int 0, .int 0, .int 0])), (td, aI cI 8192 (upd (upd (upd (fun _ => 0) 0 0) 1 0) 1 1)), (ta, aJ cJ 4096 (vp_updL (fun _ => 0) 0 1)), (tb, aJ cJ 4096 (vp_updL (fun _ => 0) 0 1)), (wt, .inr (1, [.ref ta, .ref tb, .ref tc, .ref td, .int 1, .int 1, .int 1])), (tc, aI cI 4096 (upd (upd (fun _ => 0) 0 0) 0 1))] H := hP
          have hD : va_D A [(h, .inr (9, [.ref x1, .ref x2, .ref x3, .ref x4, .ref x5, .ref x6, .ref x7])), (x1, aI cI 6 (fun _ => 0)), (x5, .inr (8, [.ref wm, .ref wt, .ref wv, .ref wk, .int 1, .ref we, .ref wf, .int 0, .ref x7, .int (w &&& 3), .long 9007199254740991, .int 4095, .int 0, .int 0, .int 0, .int 0, .int 0])), (wv, aJ cJ 16384 (vp_updL (vp_updL (vp_updL (vp_updL (fun _ => 0) 0 1) 4096 1) 8192 1) 12288 1)), (wk, aI cI 4096 (upd (fun _ => 0) 0 1)), (wm, .inr (2, [.ref na, .ref nb, .int 0, .int 0, .int 0])), (x7, .inr (4, [.ref x7s, .ref x7c, .int 0, .int 0, .int 0, .int 0])), (td, aI cI 8192 (upd (upd (upd (fun _ => 0) 0 0) 1 0) 1 1)), (ta, aJ cJ 4096 (vp_updL (fun _ => 0) 0 1)), (tb, aJ cJ 4096 (vp_updL (fun _ => 0) 0 1)), (wt, .inr (1, [.ref ta, .ref tb, .ref tc, .ref td, .int 1, .int 1, .int 1])), (tc, aI cI 4096 (upd (upd (fun _ => 0) 0 0) 0 1))] := hD
          obtain rfl := hr_24
          have hP9 := hP.sub (ws' := []) [] rfl
          have hD9 := hD.sub (ws' := []) [] (by decide) rfl
          exact W.iret (v := 1) hx hb hr (fun tt_ ht hW => ⟨⟨_, (), rfl, (by rw [okE, if_pos (by simp only [inR, Int32.lt_iff_toInt_lt, Int32.le_iff_toInt_le, ← Int32.toInt_inj, tI_0, tI_1, tI_2, tI_3, tI_4, tI_5, tI_6, tI_7, tI_8, tI_20, tI_30, tI_300, tI_400, tI_4095, tI_4096, tI_m1, tI_m2, tI_m3, tI_m9] at k_4 k_11 k_15 ⊢ <;> omega)]), by rw [ht]; exact hP9, hD9⟩, hS.F ht⟩) hS.2.2 dX9_together_74
        · have k_26 : ¬ (inR oo 0 4095) := bI_0 hr_13 c_14
          refine lv_iconst (v := (-1)) hx hb dX9_together_37 (by decide) ?_
          have hP9 := hP.sub (ws' := []) [] rfl
          have hD9 := hD.sub (ws' := []) [] (by decide) rfl
          exact W.iret (v := (-1)) hx hb hr (fun tt_ ht hW => ⟨⟨_, (), rfl, (by rw [okE, if_neg (by simp only [inR, Int32.lt_iff_toInt_lt, Int32.le_iff_toInt_le, ← Int32.toInt_inj, tI_0, tI_1, tI_2, tI_3, tI_4, tI_5, tI_6, tI_7, tI_8, tI_20, tI_30, tI_300, tI_400, tI_4095, tI_4096, tI_m1, tI_m2, tI_m3, tI_m9] at k_4 k_11 k_26 ⊢ <;> omega)]), by rw [ht]; exact hP9, hD9⟩, hS.F ht⟩) hS.2.2 dX9_together_38
    · refine lv_aload_n hx hb dX9_together_11 rfl (lv_at hl 0 rfl) ?_
      refine lv_iload_n hx hb dX9_together_12 rfl (lv_at hl 1 rfl) ?_
      refine vp_callSi (va_Run.run (va_runV (As := [.int w]) (rest := []) ⟨hx, hb, hml, hown, hts⟩ (c_cellsWithin l dC dI cI cJ cS  h w x1 x2 x3 x4 x5 x6 x7 ) (cwV 1 hts gX9_together_X9_cellsWithin rfl rfl rfl (by decide +kernel) ⟨Nat.le_of_ble_eq_true rfl, Nat.le_of_ble_eq_true rfl⟩) (preRV (hP.sub (ws' := [(h, .inr (9, [.ref x1, .ref x2, .ref x3, .ref x4, .ref x5, .ref x6, .ref x7])), (x1, aI cI 6 (fun _ => 0))]) [0, 1] rfl) hE 0 (ci := 9) rfl rfl) rfl rfl hl.1 rfl (lv_room (Nat.le_of_ble_eq_true rfl)) dX9_together_13 ⟨by decide +kernel, by decide +kernel⟩)) (fun r_27 hr_28 => ?_)
      obtain rfl := hr_28
      refine lv_istore (lv' := [(5, .int 4095), (0, .ref h), (1, .int w), (2, .int 1), (3, .int o), (4, .int oo)]) hx hb dX9_together_16 hl (by decide) rfl (fun ls hl => ?_)
      refine lv_iload_n hx hb dX9_together_18 rfl (lv_at hl 4 rfl) ?_
      refine lv_iload hx hb dX9_together_19 (lv_at hl 0 rfl) ?_
      refine vp_callSi (va_Run.run (va_runS (As := [.int o, .int 4095]) (rest := []) ⟨hx, hb, hml, hown, hts⟩ (c_isPacked l dC dI cI cJ cS  o ) (va_cwS 2 hts gX9_together_X9_isPacked rfl rfl rfl (by decide +kernel) ⟨Nat.le_of_ble_eq_true rfl, Nat.le_of_ble_eq_true rfl⟩) (preR (hP.sub (ws' := []) [] rfl) hE) rfl rfl hl.1 rfl (lv_room (Nat.le_of_ble_eq_true rfl)) dX9_together_21 ⟨by decide +kernel, by decide +kernel⟩)) (fun r_29 hr_30 => ?_)
      refine lv_if_eq (tgt := 37) hx hb dX9_together_24 (by decide) (fun c_31 => ?_) (fun c_31 => ?_)
      · have k_32 : ¬ (inR o 0 4095) := bI_0 hr_30 c_31
        refine lv_iconst (v := (-1)) hx hb dX9_together_37 (by decide) ?_
        have hP9 := hP.sub (ws' := []) [] rfl
        have hD9 := hD.sub (ws' := []) [] (by decide) rfl
        exact W.iret (v := (-1)) hx hb hr (fun tt_ ht hW => ⟨⟨_, (), rfl, (by rw [okE, if_neg (by simp only [inR, Int32.lt_iff_toInt_lt, Int32.le_iff_toInt_le, ← Int32.toInt_inj, tI_0, tI_1, tI_2, tI_3, tI_4, tI_5, tI_6, tI_7, tI_8, tI_20, tI_30, tI_300, tI_400, tI_4095, tI_4096, tI_m1, tI_m2, tI_m3, tI_m9] at k_4 k_32 ⊢ <;> omega)]), by rw [ht]; exact hP9, hD9⟩, hS.F ht⟩) hS.2.2 dX9_together_38
      · have k_33 : inR o 0 4095 := bI_1 hr_30 c_31
        refine lv_iload hx hb dX9_together_27 (lv_at hl 5 rfl) ?_
        refine lv_iload hx hb dX9_together_29 (lv_at hl 0 rfl) ?_
        refine vp_callSi (va_Run.run (va_runS (As := [.int oo, .int 4095]) (rest := []) ⟨hx, hb, hml, hown, hts⟩ (c_isPacked l dC dI cI cJ cS  oo ) (va_cwS 2 hts gX9_together_X9_isPacked rfl rfl rfl (by decide +kernel) ⟨Nat.le_of_ble_eq_true rfl, Nat.le_of_ble_eq_true rfl⟩) (preR (hP.sub (ws' := []) [] rfl) hE) rfl rfl hl.1 rfl (lv_room (Nat.le_of_ble_eq_true rfl)) dX9_together_31 ⟨by decide +kernel, by decide +kernel⟩)) (fun r_34 hr_35 => ?_)
        refine lv_if_ne (tgt := 39) hx hb dX9_together_34 (by decide) (fun c_36 => ?_) (fun c_36 => ?_)
        · have k_37 : inR oo 0 4095 := bI_1 hr_35 c_36
          refine lv_aload_n hx hb dX9_together_39 rfl (lv_at hl 1 rfl) ?_
          refine va_get (D := (dC, dI)) (ci := 9) (v := .ref x5) (C := RX9) (T := TX9) (N := 7) hx hb hts hiX9 hown hK hP 0 rfl rfl 4 (by decide) (hts (.fieldLink RX9 37 "WatchedPrograms" "watch" "LWatchedPrograms$Watch;") (by decide +kernel)) (fun _ h9 => h9) rfl dX9_together_40 ?_
          refine lv_aload_n hx hb dX9_together_43 rfl (lv_at hl 1 rfl) ?_
          refine va_get (D := (dC, dI)) (ci := 9) (v := .ref x7) (C := RX9) (T := TX9) (N := 7) hx hb hts hiX9 hown hK hP 0 rfl rfl 6 (by decide) (hts (.fieldLink RX9 51 "WatchedPrograms" "program" "LWatchedPrograms$Program;") (by decide +kernel)) (fun _ h9 => h9) rfl dX9_together_44 ?_
          refine lv_iload_n hx hb dX9_together_47 rfl (lv_at hl 2 rfl) ?_
          refine lv_iload hx hb dX9_together_48 (lv_at hl 0 rfl) ?_
          refine lv_iload_n hx hb dX9_together_50 rfl (lv_at hl 3 rfl) ?_
          have hFc := va_free (wc := [(x5, .inr (8, [.ref wm, .ref wt, .ref wv, .ref wk, .int 1, .ref we, .ref wf, .int 0, .ref wp, .int 0, .long 0, .int 0, .int 0, .int 0, .int 0, .int 0, .int 0]))]) hD hS hA [2] rfl
          refine zCv (wr := [(h, .inr (9, [.ref x1, .ref x2, .ref x3, .ref x4, .ref x5, .ref x6, .ref x7])), (x1, aI cI 6 (fun _ => 0)), (wm, .inr (2, [.ref na, .ref nb, .int 0, .int 0, .int 0])), (wt, .inr (1, [.ref ta, .ref tb, .ref tc, .ref td, .int 0, .int 0, .int 0])), (ta, aJ cJ 4096 (fun _ => 0)), (tb, aJ cJ 4096 (fun _ => 0)), (tc, aI cI 4096 (fun _ => 0)), (td, aI cI 8192 (fun _ => 0)), (wv, aJ cJ 16384 (fun _ => 0)), (wk, aI cI 4096 (fun _ => 0)), (x7, .inr (4, [.ref x7s, .ref x7c, .int 0, .int 0, .int 0, .int 0]))]) hP hD hS hFc [2] [0, 1, 3, 4, 5, 6, 7, 8, 9, 10, 11] rfl rfl (by decide) (by decide) (va_runV (As := [.ref x7, .int w, .int 4095, .int 1]) (rest := []) ⟨hx, hb, hml, hown, hts⟩ (c_aim1 l dC dI cI cJ cS ss_.heap.size x5 x7 w wm wt wv wk we wf wp ) (cwV 4 hts gX9_together_X8_aim rfl rfl rfl (by decide +kernel) ⟨Nat.le_of_ble_eq_true rfl, Nat.le_of_ble_eq_true rfl⟩) (preEV (hP.sub (ws' := [(x5, .inr (8, [.ref wm, .ref wt, .ref wv, .ref wk, .int 1, .ref we, .ref wf, .int 0, .ref wp, .int 0, .long 0, .int 0, .int 0, .int 0, .int 0, .int 0, .int 0]))]) [2] rfl) hE (hD.sub (ws' := [(x5, .inr (8, [.ref wm, .ref wt, .ref wv, .ref wk, .int 1, .ref we, .ref wf, .int 0, .ref wp, .int 0, .long 0, .int 0, .int 0, .int 0, .int 0, .int 0, .int 0]))]) [2] (by decide) rfl) 0 (ci := 8) rfl rfl) rfl rfl hl.1 rfl (lv_room (Nat.le_of_ble_eq_true rfl)) dX9_together_51 ⟨by decide +kernel, by decide +kernel⟩) (fun u_40 H locs hr_39 hP hD hS => ?_)
          try dsimp only at hr_39
          have hP : va_P (dC, dI) vwCl [(h, .inr (9, [.ref x1, .ref x2, .ref x3, .ref x4, .ref x5, .ref x6, .ref x7])), (x1, aI cI 6 (fun _ => 0)), (wm, .inr (2, [.ref na, .ref nb, .int 0, .int 0, .int 0])), (wt, .inr (1, [.ref ta, .ref tb, .ref tc, .ref td, .int 0, .int 0, .int 0])), (ta, aJ cJ 4096 (fun _ => 0)), (tb, aJ cJ 4096 (fun _ => 0)), (tc, aI cI 4096 (fun _ => 0)), (td, aI cI 8192 (fun _ => 0)), (wv, aJ cJ 16384 (fun _ => 0)), (wk, aI cI 4096 (fun _ => 0)), (x7, .inr (4, [.ref x7s, .ref x7c, .int 0, .int 0, .int 0, .int 0])), (x5, .inr (8, [.ref wm, .ref wt, .ref wv, .ref wk, .int 1, .ref we, .ref wf, .int 0, .ref x7, .int (w &&& 3), .long 4611686018427387903, .int 4095, .int 0, .int 0, .int 0, .int 0, .int 0]))] H := hP
          have hD : va_D A [(h, .inr (9, [.ref x1, .ref x2, .ref x3, .ref x4, .ref x5, .ref x6, .ref x7])), (x1, aI cI 6 (fun _ => 0)), (wm, .inr (2, [.ref na, .ref nb, .int 0, .int 0, .int 0])), (wt, .inr (1, [.ref ta, .ref tb, .ref tc, .ref td, .int 0, .int 0, .int 0])), (ta, aJ cJ 4096 (fun _ => 0)), (tb, aJ cJ 4096 (fun _ => 0)), (tc, aI cI 4096 (fun _ => 0)), (td, aI cI 8192 (fun _ => 0)), (wv, aJ cJ 16384 (fun _ => 0)), (wk, aI cI 4096 (fun _ => 0)), (x7, .inr (4, [.ref x7s, .ref x7c, .int 0, .int 0, .int 0, .int 0])), (x5, .inr (8, [.ref wm, .ref wt, .ref wv, .ref wk, .int 1, .ref we, .ref wf, .int 0, .ref x7, .int (w &&& 3), .long 4611686018427387903, .int 4095, .int 0, .int 0, .int 0, .int 0, .int 0]))] := hD
          refine lv_aload_n hx hb dX9_together_54 rfl (lv_at hl 1 rfl) ?_
          refine va_get (D := (dC, dI)) (ci := 9) (v := .ref x5) (C := RX9) (T := TX9) (N := 7) hx hb hts hiX9 hown hK hP 0 rfl rfl 4 (by decide) (hts (.fieldLink RX9 37 "WatchedPrograms" "watch" "LWatchedPrograms$Watch;") (by decide +kernel)) (fun _ h9 => h9) rfl dX9_together_55 ?_
          refine lv_iload_n hx hb dX9_together_58 rfl (lv_at hl 4 rfl) ?_
          refine lv_iload hx hb dX9_together_59 (lv_at hl 0 rfl) ?_
          refine vp_callSi (va_Run.run (va_runS (As := [.int o, .int 4095]) (rest := [.ref x5]) ⟨hx, hb, hml, hown, hts⟩ (c_spread l dC dI cI cJ cS  o ) (va_cwS 2 hts gX9_together_X9_spread rfl rfl rfl (by decide +kernel) ⟨Nat.le_of_ble_eq_true rfl, Nat.le_of_ble_eq_true rfl⟩) (preR (hP.sub (ws' := []) [] rfl) hE) rfl rfl hl.1 rfl (lv_room (Nat.le_of_ble_eq_true rfl)) dX9_together_61 ⟨by decide +kernel, by decide +kernel⟩)) (fun r_41 hr_42 => ?_)
          refine lv_iload hx hb dX9_together_64 (lv_at hl 5 rfl) ?_
          refine lv_iload hx hb dX9_together_66 (lv_at hl 0 rfl) ?_
          refine vp_callSi (va_Run.run (va_runS (As := [.int oo, .int 4095]) (rest := [.int r_41, .ref x5]) ⟨hx, hb, hml, hown, hts⟩ (c_spread l dC dI cI cJ cS  oo ) (va_cwS 2 hts gX9_together_X9_spread rfl rfl rfl (by decide +kernel) ⟨Nat.le_of_ble_eq_true rfl, Nat.le_of_ble_eq_true rfl⟩) (preR (hP.sub (ws' := []) [] rfl) hE) rfl rfl hl.1 rfl (lv_room (Nat.le_of_ble_eq_true rfl)) dX9_together_68 ⟨by decide +kernel, by decide +kernel⟩)) (fun r_43 hr_44 => ?_)
          have hFc := va_free (wc := [(x5, .inr (8, [.ref wm, .ref wt, .ref wv, .ref wk, .int 1, .ref we, .ref wf, .int 0, .ref x7, .int (w &&& 3), .long 4611686018427387903, .int 4095, .int 0, .int 0, .int 0, .int 0, .int 0])), (wm, .inr (2, [.ref na, .ref nb, .int 0, .int 0, .int 0])), (x7, .inr (4, [.ref x7s, .ref x7c, .int 0, .int 0, .int 0, .int 0])), (wv, aJ cJ 16384 (fun _ => 0)), (wk, aI cI 4096 (fun _ => 0)), (wt, .inr (1, [.ref ta, .ref tb, .ref tc, .ref td, .int 0, .int 0, .int 0])), (td, aI cI 8192 (fun _ => 0)), (ta, aJ cJ 4096 (fun _ => 0)), (tb, aJ cJ 4096 (fun _ => 0)), (tc, aI cI 4096 (fun _ => 0))]) hD hS hA [11, 2, 10, 8, 9, 3, 7, 4, 5, 6] rfl
          refine zCi (wr := [(h, .inr (9, [.ref x1, .ref x2, .ref x3, .ref x4, .ref x5, .ref x6, .ref x7])), (x1, aI cI 6 (fun _ => 0))]) hP hD hS hFc [11, 2, 10, 8, 9, 3, 7, 4, 5, 6] [0, 1] rfl rfl (by decide) (by decide) (va_runV (As := [.int r_41, .int r_43]) (rest := []) ⟨hx, hb, hml, hown, hts⟩ (c_countTogether1 l dC dI cI cJ cS H.size x5 r_41 r_43 wm wt wv wk we wf x7 (w &&& 3) na nb x7s x7c ta tb tc td ) (cwV 2 hts gX9_together_X8_countTogether rfl rfl rfl (by decide +kernel) ⟨Nat.le_of_ble_eq_true rfl, Nat.le_of_ble_eq_true rfl⟩) (preEV (hP.sub (ws' := [(x5, .inr (8, [.ref wm, .ref wt, .ref wv, .ref wk, .int 1, .ref we, .ref wf, .int 0, .ref x7, .int (w &&& 3), .long 4611686018427387903, .int 4095, .int 0, .int 0, .int 0, .int 0, .int 0])), (wm, .inr (2, [.ref na, .ref nb, .int 0, .int 0, .int 0])), (x7, .inr (4, [.ref x7s, .ref x7c, .int 0, .int 0, .int 0, .int 0])), (wv, aJ cJ 16384 (fun _ => 0)), (wk, aI cI 4096 (fun _ => 0)), (wt, .inr (1, [.ref ta, .ref tb, .ref tc, .ref td, .int 0, .int 0, .int 0])), (td, aI cI 8192 (fun _ => 0)), (ta, aJ cJ 4096 (fun _ => 0)), (tb, aJ cJ 4096 (fun _ => 0)), (tc, aI cI 4096 (fun _ => 0))]) [11, 2, 10, 8, 9, 3, 7, 4, 5, 6] rfl) hE (hD.sub (ws' := [(x5, .inr (8, [.ref wm, .ref wt, .ref wv, .ref wk, .int 1, .ref we, .ref wf, .int 0, .ref x7, .int (w &&& 3), .long 4611686018427387903, .int 4095, .int 0, .int 0, .int 0, .int 0, .int 0])), (wm, .inr (2, [.ref na, .ref nb, .int 0, .int 0, .int 0])), (x7, .inr (4, [.ref x7s, .ref x7c, .int 0, .int 0, .int 0, .int 0])), (wv, aJ cJ 16384 (fun _ => 0)), (wk, aI cI 4096 (fun _ => 0)), (wt, .inr (1, [.ref ta, .ref tb, .ref tc, .ref td, .int 0, .int 0, .int 0])), (td, aI cI 8192 (fun _ => 0)), (ta, aJ cJ 4096 (fun _ => 0)), (tb, aJ cJ 4096 (fun _ => 0)), (tc, aI cI 4096 (fun _ => 0))]) [11, 2, 10, 8, 9, 3, 7, 4, 5, 6] (by decide) rfl) 0 (ci := 8) rfl rfl) rfl rfl hl.1 rfl (lv_room (Nat.le_of_ble_eq_true rfl)) dX9_together_71 ⟨by decide +kernel, by decide +kernel⟩) (fun r_45 u_47 H locs hr_46 hP hD hS => ?_)
          try dsimp only at hr_46
          have hP : va_P (dC, dI) vwCl [(h, .inr (9, [.ref x1, .ref x2, .ref x3, .ref x4, .ref x5, .ref x6, .ref x7])), (x1, aI cI 6 (fun _ => 0)), (x5, .inr (8, [.ref wm, .ref wt, .ref wv, .ref wk, .int 1, .ref we, .ref wf, .int 0, .ref x7, .int (w &&& 3), .long 4611686018427387903, .int 4095, .int 0, .int 0, .int 0, .int 0, .int 0])), (wv, aJ cJ 16384 (vp_updL (vp_updL (vp_updL (vp_updL (fun _ => 0) 0 1) 4096 1) 8192 1) 12288 1)), (wk, aI cI 4096 (upd (fun _ => 0) 0 1)), (wm, .inr (2, [.ref na, .ref nb, .int 0, .int 0, .int 0])), (x7, .inr (4, [.ref x7s, .ref x7c, .int 0, .int 0, .int 0, .int 0])), (td, aI cI 8192 (upd (upd (upd (fun _ => 0) 0 0) 1 0) 1 1)), (ta, aJ cJ 4096 (vp_updL (fun _ => 0) 0 1)), (tb, aJ cJ 4096 (vp_updL (fun _ => 0) 0 1)), (wt, .inr (1, [.ref ta, .ref tb, .ref tc, .ref td, .int 1, .int 1, .int 1])), (tc, aI cI 4096 (upd (upd (fun _ => 0) 0 0) 0 1))] H := hP
          have hD : va_D A [(h, .inr (9, [.ref x1, .ref x2, .ref x3, .ref x4, .ref x5, .ref x6, .ref x7])), (x1, aI cI 6 (fun _ => 0)), (x5, .inr (8, [.ref wm, .ref wt, .ref wv, .ref wk, .int 1, .ref we, .ref wf, .int 0, .ref x7, .int (w &&& 3), .long 4611686018427387903, .int 4095, .int 0, .int 0, .int 0, .int 0, .int 0])), (wv, aJ cJ 16384 (vp_updL (vp_updL (vp_updL (vp_updL (fun _ => 0) 0 1) 4096 1) 8192 1) 12288 1)), (wk, aI cI 4096 (upd (fun _ => 0) 0 1)), (wm, .inr (2, [.ref na, .ref nb, .int 0, .int 0, .int 0])), (x7, .inr (4, [.ref x7s, .ref x7c, .int 0, .int 0, .int 0, .int 0])), (td, aI cI 8192 (upd (upd (upd (fun _ => 0) 0 0) 1 0) 1 1)), (ta, aJ cJ 4096 (vp_updL (fun _ => 0) 0 1)), (tb, aJ cJ 4096 (vp_updL (fun _ => 0) 0 1)), (wt, .inr (1, [.ref ta, .ref tb, .ref tc, .ref td, .int 1, .int 1, .int 1])), (tc, aI cI 4096 (upd (upd (fun _ => 0) 0 0) 0 1))] := hD
          obtain rfl := hr_46
          have hP9 := hP.sub (ws' := []) [] rfl
          have hD9 := hD.sub (ws' := []) [] (by decide) rfl
          exact W.iret (v := 1) hx hb hr (fun tt_ ht hW => ⟨⟨_, (), rfl, (by rw [okE, if_pos (by simp only [inR, Int32.lt_iff_toInt_lt, Int32.le_iff_toInt_le, ← Int32.toInt_inj, tI_0, tI_1, tI_2, tI_3, tI_4, tI_5, tI_6, tI_7, tI_8, tI_20, tI_30, tI_300, tI_400, tI_4095, tI_4096, tI_m1, tI_m2, tI_m3, tI_m9] at k_4 k_33 k_37 ⊢ <;> omega)]), by rw [ht]; exact hP9, hD9⟩, hS.F ht⟩) hS.2.2 dX9_together_74
        · have k_48 : ¬ (inR oo 0 4095) := bI_0 hr_35 c_36
          refine lv_iconst (v := (-1)) hx hb dX9_together_37 (by decide) ?_
          have hP9 := hP.sub (ws' := []) [] rfl
          have hD9 := hD.sub (ws' := []) [] (by decide) rfl
          exact W.iret (v := (-1)) hx hb hr (fun tt_ ht hW => ⟨⟨_, (), rfl, (by rw [okE, if_neg (by simp only [inR, Int32.lt_iff_toInt_lt, Int32.le_iff_toInt_le, ← Int32.toInt_inj, tI_0, tI_1, tI_2, tI_3, tI_4, tI_5, tI_6, tI_7, tI_8, tI_20, tI_30, tI_300, tI_400, tI_4095, tI_4096, tI_m1, tI_m2, tI_m3, tI_m9] at k_4 k_33 k_48 ⊢ <;> omega)]), by rw [ht]; exact hP9, hD9⟩, hS.F ht⟩) hS.2.2 dX9_together_38
  · have k_49 : ¬ (inR w 0 3 ∧ inR t 0 1) := bI_0 hr_2 c_3
    refine lv_iconst (v := (-1)) hx hb dX9_together_9 (by decide) ?_
    have hP9 := hP.sub (ws' := []) [] rfl
    have hD9 := hD.sub (ws' := []) [] (by decide) rfl
    exact W.iret (v := (-1)) hx hb hr (fun tt_ ht hW => ⟨⟨_, (), rfl, (by rw [okE, if_neg (by simp only [inR, Int32.lt_iff_toInt_lt, Int32.le_iff_toInt_le, ← Int32.toInt_inj, tI_0, tI_1, tI_2, tI_3, tI_4, tI_5, tI_6, tI_7, tI_8, tI_20, tI_30, tI_300, tI_400, tI_4095, tI_4096, tI_m1, tI_m2, tI_m3, tI_m9] at k_49 ⊢ <;> omega)]), by rw [ht]; exact hP9, hD9⟩, hS.F ht⟩) hS.2.2 dX9_together_10
set_option maxHeartbeats 1000000 in
set_option maxRecDepth 100000 in
theorem c_both (l : Launch) (dC : Nat → ClassId) (dI : Nat → Nat → Nat) (cI cJ cS : ClassId) (sz : Nat) (h : Nat) (t : Int32) (o : Int32) (x1 : Nat) (x2 : Nat) (x3 : Nat) (x4 : Nat) (x5 : Nat) (x6 : Nat) (x7 : Nat) (wm : Nat) (wt : Nat) (wv : Nat) (wk : Nat) (we : Nat) (wf : Nat) (wp : Nat) (na : Nat) (nb : Nat) (ta : Nat) (tb : Nat) (tc : Nat) (td : Nat) (x7s : Nat) (x7c : Nat)  : Met l yX9_both wsX9_both ({ frames := 6, cells := 0, slots := 0, locals := 143 }) (va_Pc [.ref h, .int t, .int o] (PE dC dI cI cJ cS [(h, .inr (9, [.ref x1, .ref x2, .ref x3, .ref x4, .ref x5, .ref x6, .ref x7])), (x1, aI cI 6 (fun _ => 0)), (x5, .inr (8, [.ref wm, .ref wt, .ref wv, .ref wk, .int 1, .ref we, .ref wf, .int 0, .ref wp, .int 0, .long 0, .int 0, .int 0, .int 0, .int 0, .int 0, .int 0])), (wm, .inr (2, [.ref na, .ref nb, .int 0, .int 0, .int 0])), (wt, .inr (1, [.ref ta, .ref tb, .ref tc, .ref td, .int 0, .int 0, .int 0])), (ta, aJ cJ 4096 (fun _ => 0)), (tb, aJ cJ 4096 (fun _ => 0)), (tc, aI cI 4096 (fun _ => 0)), (td, aI cI 8192 (fun _ => 0)), (wv, aJ cJ 16384 (fun _ => 0)), (wk, aI cI 4096 (fun _ => 0)), (x7, .inr (4, [.ref x7s, .ref x7c, .int 0, .int 0, .int 0, .int 0]))] sz)) (va_Qi (fun (r : Int32) (_ : Unit) => r = okE (inR t 0 1 ∧ inR o 0 4095) 1) (BE dC dI (va_A [(h, .inr (9, [.ref x1, .ref x2, .ref x3, .ref x4, .ref x5, .ref x6, .ref x7])), (x1, aI cI 6 (fun _ => 0)), (x5, .inr (8, [.ref wm, .ref wt, .ref wv, .ref wk, .int 1, .ref we, .ref wf, .int 0, .ref wp, .int 0, .long 0, .int 0, .int 0, .int 0, .int 0, .int 0, .int 0])), (wm, .inr (2, [.ref na, .ref nb, .int 0, .int 0, .int 0])), (wt, .inr (1, [.ref ta, .ref tb, .ref tc, .ref td, .int 0, .int 0, .int 0])), (ta, aJ cJ 4096 (fun _ => 0)), (tb, aJ cJ 4096 (fun _ => 0)), (tc, aI cI 4096 (fun _ => 0)), (td, aI cI 8192 (fun _ => 0)), (wv, aJ cJ 16384 (fun _ => 0)), (wk, aI cI 4096 (fun _ => 0)), (x7, .inr (4, [.ref x7s, .ref x7c, .int 0, .int 0, .int 0, .int 0]))] sz) (fun (_ : Unit) => [])) (va_A [(h, .inr (9, [.ref x1, .ref x2, .ref x3, .ref x4, .ref x5, .ref x6, .ref x7])), (x1, aI cI 6 (fun _ => 0)), (x5, .inr (8, [.ref wm, .ref wt, .ref wv, .ref wk, .int 1, .ref we, .ref wf, .int 0, .ref wp, .int 0, .long 0, .int 0, .int 0, .int 0, .int 0, .int 0, .int 0])), (wm, .inr (2, [.ref na, .ref nb, .int 0, .int 0, .int 0])), (wt, .inr (1, [.ref ta, .ref tb, .ref tc, .ref td, .int 0, .int 0, .int 0])), (ta, aJ cJ 4096 (fun _ => 0)), (tb, aJ cJ 4096 (fun _ => 0)), (tc, aI cI 4096 (fun _ => 0)), (td, aI cI 8192 (fun _ => 0)), (wv, aJ cJ 16384 (fun _ => 0)), (wk, aI cI 4096 (fun _ => 0)), (x7, .inr (4, [.ref x7s, .ref x7c, .int 0, .int 0, .int 0, .int 0]))] sz)) 0 0 (va_A [(h, .inr (9, [.ref x1, .ref x2, .ref x3, .ref x4, .ref x5, .ref x6, .ref x7])), (x1, aI cI 6 (fun _ => 0)), (x5, .inr (8, [.ref wm, .ref wt, .ref wv, .ref wk, .int 1, .ref we, .ref wf, .int 0, .ref wp, .int 0, .long 0, .int 0, .int 0, .int 0, .int 0, .int 0, .int 0])), (wm, .inr (2, [.ref na, .ref nb, .int 0, .int 0, .int 0])), (wt, .inr (1, [.ref ta, .ref tb, .ref tc, .ref td, .int 0, .int 0, .int 0])), (ta, aJ cJ 4096 (fun _ => 0)), (tb, aJ cJ 4096 (fun _ => 0)), (tc, aI cI 4096 (fun _ => 0)), (td, aI cI 8192 (fun _ => 0)), (wv, aJ cJ 16384 (fun _ => 0)), (wk, aI cI 4096 (fun _ => 0)), (x7, .inr (4, [.ref x7s, .ref x7c, .int 0, .int 0, .int 0, .int 0]))] sz) := by
  refine Met.ofW (cc := cX9_both) (maxL := 4) (ret := (some .int)) (by decide) rfl ?_
  intro pp_ ee_ ss_ mm_ args below meth cc_ s₁ B hml hv
  obtain ⟨rfl, hsz, hP, hE, hD0⟩ := hv
  have hx := B.exec
  have hb := B.bytes
  have hr := B.returns
  have hts := atoms_spec (ws := wsX9_both) B.pre
  have hown : ss_.vm.findClass RX9 = some mm_.cls := findClass_of_methodNamed B.named
  have hlocks := B.notSynchronized
  have hK := hE.1
  have hiX9 : ∀ w ∈ wsX90, w ∈ wsX9_both := by decide +kernel
  subst hsz
  have hD := hD0.self (sz := ss_.heap.size)
  generalize hAe : va_A [(h, .inr (9, [.ref x1, .ref x2, .ref x3, .ref x4, .ref x5, .ref x6, .ref x7])), (x1, aI cI 6 (fun _ => 0)), (x5, .inr (8, [.ref wm, .ref wt, .ref wv, .ref wk, .int 1, .ref we, .ref wf, .int 0, .ref wp, .int 0, .long 0, .int 0, .int 0, .int 0, .int 0, .int 0, .int 0])), (wm, .inr (2, [.ref na, .ref nb, .int 0, .int 0, .int 0])), (wt, .inr (1, [.ref ta, .ref tb, .ref tc, .ref td, .int 0, .int 0, .int 0])), (ta, aJ cJ 4096 (fun _ => 0)), (tb, aJ cJ 4096 (fun _ => 0)), (tc, aI cI 4096 (fun _ => 0)), (td, aI cI 8192 (fun _ => 0)), (wv, aJ cJ 16384 (fun _ => 0)), (wk, aI cI 4096 (fun _ => 0)), (x7, .inr (4, [.ref x7s, .ref x7c, .int 0, .int 0, .int 0, .int 0]))] ss_.heap.size = A at hD ⊢
  have hA : ∀ q : Nat, ss_.heap.size ≤ q → A q := fun q h => by rw [← hAe]; exact Or.inr h
  have hS : va_S A ss_.heap ss_.heap [] := va_S.rf
  have hP : va_P (dC, dI) vwCl [(h, .inr (9, [.ref x1, .ref x2, .ref x3, .ref x4, .ref x5, .ref x6, .ref x7])), (x1, aI cI 6 (fun _ => 0)), (x5, .inr (8, [.ref wm, .ref wt, .ref wv, .ref wk, .int 1, .ref we, .ref wf, .int 0, .ref wp, .int 0, .long 0, .int 0, .int 0, .int 0, .int 0, .int 0, .int 0])), (wm, .inr (2, [.ref na, .ref nb, .int 0, .int 0, .int 0])), (wt, .inr (1, [.ref ta, .ref tb, .ref tc, .ref td, .int 0, .int 0, .int 0])), (ta, aJ cJ 4096 (fun _ => 0)), (tb, aJ cJ 4096 (fun _ => 0)), (tc, aI cI 4096 (fun _ => 0)), (td, aI cI 8192 (fun _ => 0)), (wv, aJ cJ 16384 (fun _ => 0)), (wk, aI cI 4096 (fun _ => 0)), (x7, .inr (4, [.ref x7s, .ref x7c, .int 0, .int 0, .int 0, .int 0]))] ss_.heap := hP
  have hl := lv_entry ([.ref h, .int t, .int o]) (n := 4) (Nat.le_of_ble_eq_true rfl)
  rw [lg_entry_eq]
  generalize (lg_sl ([.ref h, .int t, .int o]) ++ List.replicate (4 - (lg_sl ([.ref h, .int t, .int o])).length) Slot.unset).toArray = ls at hl ⊢
  have hl : lv_has ls 4 [(0, .ref h), (1, .int t), (2, .int o)] := hl
  refine lv_iload_n hx hb dX9_both_0 rfl (lv_at hl 1 rfl) ?_
  refine vp_callSi (va_Run.run (va_runS (As := [.int t]) (rest := []) ⟨hx, hb, hml, hown, hts⟩ (c_isFlag l dC dI cI cJ cS  t ) (va_cwS 1 hts gX9_both_X9_isFlag rfl rfl rfl (by decide +kernel) ⟨Nat.le_of_ble_eq_true rfl, Nat.le_of_ble_eq_true rfl⟩) (preR (hP.sub (ws' := []) [] rfl) hE) rfl rfl hl.1 rfl (lv_room (Nat.le_of_ble_eq_true rfl)) dX9_both_1 ⟨by decide +kernel, by decide +kernel⟩)) (fun r_1 hr_2 => ?_)
  refine lv_if_ne (tgt := 9) hx hb dX9_both_4 (by decide) (fun c_3 => ?_) (fun c_3 => ?_)
  · have k_4 : inR t 0 1 := bI_1 hr_2 c_3
    rcases in01 k_4 with rfl | rfl
    · refine lv_aload_n hx hb dX9_both_9 rfl (lv_at hl 0 rfl) ?_
      refine lv_iconst (v := 0) hx hb dX9_both_10 (by decide) ?_
      refine vp_callSi (va_Run.run (va_runV (As := [.int 0]) (rest := []) ⟨hx, hb, hml, hown, hts⟩ (c_cellsWithin l dC dI cI cJ cS  h 0 x1 x2 x3 x4 x5 x6 x7 ) (cwV 1 hts gX9_both_X9_cellsWithin rfl rfl rfl (by decide +kernel) ⟨Nat.le_of_ble_eq_true rfl, Nat.le_of_ble_eq_true rfl⟩) (preRV (hP.sub (ws' := [(h, .inr (9, [.ref x1, .ref x2, .ref x3, .ref x4, .ref x5, .ref x6, .ref x7])), (x1, aI cI 6 (fun _ => 0))]) [0, 1] rfl) hE 0 (ci := 9) rfl rfl) rfl rfl hl.1 rfl (lv_room (Nat.le_of_ble_eq_true rfl)) dX9_both_11 ⟨by decide +kernel, by decide +kernel⟩)) (fun r_5 hr_6 => ?_)
      obtain rfl := hr_6
      refine lv_istore_n (lv' := [(3, .int 4095), (0, .ref h), (1, .int 0), (2, .int o)]) hx hb dX9_both_14 rfl hl (by decide) rfl (fun ls hl => ?_)
      refine lv_iload_n hx hb dX9_both_15 rfl (lv_at hl 3 rfl) ?_
      refine lv_iload_n hx hb dX9_both_16 rfl (lv_at hl 0 rfl) ?_
      refine vp_callSi (va_Run.run (va_runS (As := [.int o, .int 4095]) (rest := []) ⟨hx, hb, hml, hown, hts⟩ (c_isPacked l dC dI cI cJ cS  o ) (va_cwS 2 hts gX9_both_X9_isPacked rfl rfl rfl (by decide +kernel) ⟨Nat.le_of_ble_eq_true rfl, Nat.le_of_ble_eq_true rfl⟩) (preR (hP.sub (ws' := []) [] rfl) hE) rfl rfl hl.1 rfl (lv_room (Nat.le_of_ble_eq_true rfl)) dX9_both_17 ⟨by decide +kernel, by decide +kernel⟩)) (fun r_7 hr_8 => ?_)
      refine lv_if_ne (tgt := 25) hx hb dX9_both_20 (by decide) (fun c_9 => ?_) (fun c_9 => ?_)
      · have k_10 : inR o 0 4095 := bI_1 hr_8 c_9
        refine lv_aload_n hx hb dX9_both_25 rfl (lv_at hl 1 rfl) ?_
        refine va_get (D := (dC, dI)) (ci := 9) (v := .ref x5) (C := RX9) (T := TX9) (N := 7) hx hb hts hiX9 hown hK hP 0 rfl rfl 4 (by decide) (hts (.fieldLink RX9 37 "WatchedPrograms" "watch" "LWatchedPrograms$Watch;") (by decide +kernel)) (fun _ h9 => h9) rfl dX9_both_26 ?_
        refine lv_aload_n hx hb dX9_both_29 rfl (lv_at hl 1 rfl) ?_
        refine va_get (D := (dC, dI)) (ci := 9) (v := .ref x7) (C := RX9) (T := TX9) (N := 7) hx hb hts hiX9 hown hK hP 0 rfl rfl 6 (by decide) (hts (.fieldLink RX9 51 "WatchedPrograms" "program" "LWatchedPrograms$Program;") (by decide +kernel)) (fun _ h9 => h9) rfl dX9_both_30 ?_
        refine lv_iconst (v := 0) hx hb dX9_both_33 (by decide) ?_
        refine lv_iload_n hx hb dX9_both_34 rfl (lv_at hl 0 rfl) ?_
        refine lv_iload_n hx hb dX9_both_35 rfl (lv_at hl 2 rfl) ?_
        have hFc := va_free (wc := [(x5, .inr (8, [.ref wm, .ref wt, .ref wv, .ref wk, .int 1, .ref we, .ref wf, .int 0, .ref wp, .int 0, .long 0, .int 0, .int 0, .int 0, .int 0, .int 0, .int 0]))]) hD hS hA [2] rfl
        refine zCv (wr := [(h, .inr (9, [.ref x1, .ref x2, .ref x3, .ref x4, .ref x5, .ref x6, .ref x7])), (x1, aI cI 6 (fun _ => 0)), (wm, .inr (2, [.ref na, .ref nb, .int 0, .int 0, .int 0])), (wt, .inr (1, [.ref ta, .ref tb, .ref tc, .ref td, .int 0, .int 0, .int 0])), (ta, aJ cJ 4096 (fun _ => 0)), (tb, aJ cJ 4096 (fun _ => 0)), (tc, aI cI 4096 (fun _ => 0)), (td, aI cI 8192 (fun _ => 0)), (wv, aJ cJ 16384 (fun _ => 0)), (wk, aI cI 4096 (fun _ => 0)), (x7, .inr (4, [.ref x7s, .ref x7c, .int 0, .int 0, .int 0, .int 0]))]) hP hD hS hFc [2] [0, 1, 3, 4, 5, 6, 7, 8, 9, 10, 11] rfl rfl (by decide) (by decide) (va_runV (As := [.ref x7, .int 0, .int 4095, .int 0]) (rest := []) ⟨hx, hb, hml, hown, hts⟩ (c_aim0 l dC dI cI cJ cS ss_.heap.size x5 x7 0 wm wt wv wk we wf wp ) (cwV 4 hts gX9_both_X8_aim rfl rfl rfl (by decide +kernel) ⟨Nat.le_of_ble_eq_true rfl, Nat.le_of_ble_eq_true rfl⟩) (preEV (hP.sub (ws' := [(x5, .inr (8, [.ref wm, .ref wt, .ref wv, .ref wk, .int 1, .ref we, .ref wf, .int 0, .ref wp, .int 0, .long 0, .int 0, .int 0, .int 0, .int 0, .int 0, .int 0]))]) [2] rfl) hE (hD.sub (ws' := [(x5, .inr (8, [.ref wm, .ref wt, .ref wv, .ref wk, .int 1, .ref we, .ref wf, .int 0, .ref wp, .int 0, .long 0, .int 0, .int 0, .int 0, .int 0, .int 0, .int 0]))]) [2] (by decide) rfl) 0 (ci := 8) rfl rfl) rfl rfl hl.1 rfl (lv_room (Nat.le_of_ble_eq_true rfl)) dX9_both_36 ⟨by decide +kernel, by decide +kernel⟩) (fun u_13 H locs hr_12 hP hD hS => ?_)
        try dsimp only at hr_12
        have hP : va_P (dC, dI) vwCl [(h, .inr (9, [.ref x1, .ref x2, .ref x3, .ref x4, .ref x5, .ref x6, .ref x7])), (x1, aI cI 6 (fun _ => 0)), (wm, .inr (2, [.ref na, .ref nb, .int 0, .int 0, .int 0])), (wt, .inr (1, [.ref ta, .ref tb, .ref tc, .ref td, .int 0, .int 0, .int 0])), (ta, aJ cJ 4096 (fun _ => 0)), (tb, aJ cJ 4096 (fun _ => 0)), (tc, aI cI 4096 (fun _ => 0)), (td, aI cI 8192 (fun _ => 0)), (wv, aJ cJ 16384 (fun _ => 0)), (wk, aI cI 4096 (fun _ => 0)), (x7, .inr (4, [.ref x7s, .ref x7c, .int 0, .int 0, .int 0, .int 0])), (x5, .inr (8, [.ref wm, .ref wt, .ref wv, .ref wk, .int 1, .ref we, .ref wf, .int 0, .ref x7, .int (0 &&& 3), .long 9007199254740991, .int 4095, .int 0, .int 0, .int 0, .int 0, .int 0]))] H := hP
        have hD : va_D A [(h, .inr (9, [.ref x1, .ref x2, .ref x3, .ref x4, .ref x5, .ref x6, .ref x7])), (x1, aI cI 6 (fun _ => 0)), (wm, .inr (2, [.ref na, .ref nb, .int 0, .int 0, .int 0])), (wt, .inr (1, [.ref ta, .ref tb, .ref tc, .ref td, .int 0, .int 0, .int 0])), (ta, aJ cJ 4096 (fun _ => 0)), (tb, aJ cJ 4096 (fun _ => 0)), (tc, aI cI 4096 (fun _ => 0)), (td, aI cI 8192 (fun _ => 0)), (wv, aJ cJ 16384 (fun _ => 0)), (wk, aI cI 4096 (fun _ => 0)), (x7, .inr (4, [.ref x7s, .ref x7c, .int 0, .int 0, .int 0, .int 0])), (x5, .inr (8, [.ref wm, .ref wt, .ref wv, .ref wk, .int 1, .ref we, .ref wf, .int 0, .ref x7, .int (0 &&& 3), .long 9007199254740991, .int 4095, .int 0, .int 0, .int 0, .int 0, .int 0]))] := hD
        refine lv_aload_n hx hb dX9_both_39 rfl (lv_at hl 1 rfl) ?_
        refine va_get (D := (dC, dI)) (ci := 9) (v := .ref x5) (C := RX9) (T := TX9) (N := 7) hx hb hts hiX9 hown hK hP 0 rfl rfl 4 (by decide) (hts (.fieldLink RX9 37 "WatchedPrograms" "watch" "LWatchedPrograms$Watch;") (by decide +kernel)) (fun _ h9 => h9) rfl dX9_both_40 ?_
        refine lv_iload_n hx hb dX9_both_43 rfl (lv_at hl 3 rfl) ?_
        refine lv_iload_n hx hb dX9_both_44 rfl (lv_at hl 0 rfl) ?_
        refine vp_callSi (va_Run.run (va_runS (As := [.int o, .int 4095]) (rest := [.ref x5]) ⟨hx, hb, hml, hown, hts⟩ (c_spread l dC dI cI cJ cS  o ) (va_cwS 2 hts gX9_both_X9_spread rfl rfl rfl (by decide +kernel) ⟨Nat.le_of_ble_eq_true rfl, Nat.le_of_ble_eq_true rfl⟩) (preR (hP.sub (ws' := []) [] rfl) hE) rfl rfl hl.1 rfl (lv_room (Nat.le_of_ble_eq_true rfl)) dX9_both_45 ⟨by decide +kernel, by decide +kernel⟩)) (fun r_14 hr_15 => ?_)
        refine lv_aload_n hx hb dX9_both_48 rfl (lv_at hl 1 rfl) ?_
        refine lv_iconst (v := 1) hx hb dX9_both_49 (by decide) ?_
        refine vp_callSi (va_Run.run (va_runV (As := [.int 1]) (rest := [.int r_14, .ref x5]) ⟨hx, hb, hml, hown, hts⟩ (c_cellsWithin l dC dI cI cJ cS  h 1 x1 x2 x3 x4 x5 x6 x7 ) (cwV 1 hts gX9_both_X9_cellsWithin rfl rfl rfl (by decide +kernel) ⟨Nat.le_of_ble_eq_true rfl, Nat.le_of_ble_eq_true rfl⟩) (preRV (hP.sub (ws' := [(h, .inr (9, [.ref x1, .ref x2, .ref x3, .ref x4, .ref x5, .ref x6, .ref x7])), (x1, aI cI 6 (fun _ => 0))]) [0, 1] rfl) hE 0 (ci := 9) rfl rfl) rfl rfl hl.1 rfl (lv_room (Nat.le_of_ble_eq_true rfl)) dX9_both_50 ⟨by decide +kernel, by decide +kernel⟩)) (fun r_16 hr_17 => ?_)
        obtain rfl := hr_17
        refine lv_aload_n hx hb dX9_both_53 rfl (lv_at hl 1 rfl) ?_
        refine lv_iconst (v := 2) hx hb dX9_both_54 (by decide) ?_
        refine vp_callSi (va_Run.run (va_runV (As := [.int 2]) (rest := [.int 4095, .int r_14, .ref x5]) ⟨hx, hb, hml, hown, hts⟩ (c_cellsWithin l dC dI cI cJ cS  h 2 x1 x2 x3 x4 x5 x6 x7 ) (cwV 1 hts gX9_both_X9_cellsWithin rfl rfl rfl (by decide +kernel) ⟨Nat.le_of_ble_eq_true rfl, Nat.le_of_ble_eq_true rfl⟩) (preRV (hP.sub (ws' := [(h, .inr (9, [.ref x1, .ref x2, .ref x3, .ref x4, .ref x5, .ref x6, .ref x7])), (x1, aI cI 6 (fun _ => 0))]) [0, 1] rfl) hE 0 (ci := 9) rfl rfl) rfl rfl hl.1 rfl (lv_room (Nat.le_of_ble_eq_true rfl)) dX9_both_55 ⟨by decide +kernel, by decide +kernel⟩)) (fun r_18 hr_19 => ?_)
        obtain rfl := hr_19
        have hFc := va_free (wc := [(x5, .inr (8, [.ref wm, .ref wt, .ref wv, .ref wk, .int 1, .ref we, .ref wf, .int 0, .ref x7, .int (0 &&& 3), .long 9007199254740991, .int 4095, .int 0, .int 0, .int 0, .int 0, .int 0])), (wm, .inr (2, [.ref na, .ref nb, .int 0, .int 0, .int 0])), (x7, .inr (4, [.ref x7s, .ref x7c, .int 0, .int 0, .int 0, .int 0])), (wv, aJ cJ 16384 (fun _ => 0)), (wk, aI cI 4096 (fun _ => 0)), (wt, .inr (1, [.ref ta, .ref tb, .ref tc, .ref td, .int 0, .int 0, .int 0])), (td, aI cI 8192 (fun _ => 0)), (ta, aJ cJ 4096 (fun _ => 0)), (tb, aJ cJ 4096 (fun _ => 0)), (tc, aI cI 4096 (fun _ => 0))]) hD hS hA [11, 2, 10, 8, 9, 3, 7, 4, 5, 6] rfl
        refine zCi (wr := [(h, .inr (9, [.ref x1, .ref x2, .ref x3, .ref x4, .ref x5, .ref x6, .ref x7])), (x1, aI cI 6 (fun _ => 0))]) hP hD hS hFc [11, 2, 10, 8, 9, 3, 7, 4, 5, 6] [0, 1] rfl rfl (by decide) (by decide) (va_runV (As := [.int r_14, .int 4095, .int 4095]) (rest := []) ⟨hx, hb, hml, hown, hts⟩ (c_countBoth0 l dC dI cI cJ cS H.size x5 r_14 wm wt wv wk we wf x7 (0 &&& 3) na nb x7s x7c ta tb tc td ) (cwV 3 hts gX9_both_X8_countBoth rfl rfl rfl (by decide +kernel) ⟨Nat.le_of_ble_eq_true rfl, Nat.le_of_ble_eq_true rfl⟩) (preEV (hP.sub (ws' := [(x5, .inr (8, [.ref wm, .ref wt, .ref wv, .ref wk, .int 1, .ref we, .ref wf, .int 0, .ref x7, .int (0 &&& 3), .long 9007199254740991, .int 4095, .int 0, .int 0, .int 0, .int 0, .int 0])), (wm, .inr (2, [.ref na, .ref nb, .int 0, .int 0, .int 0])), (x7, .inr (4, [.ref x7s, .ref x7c, .int 0, .int 0, .int 0, .int 0])), (wv, aJ cJ 16384 (fun _ => 0)), (wk, aI cI 4096 (fun _ => 0)), (wt, .inr (1, [.ref ta, .ref tb, .ref tc, .ref td, .int 0, .int 0, .int 0])), (td, aI cI 8192 (fun _ => 0)), (ta, aJ cJ 4096 (fun _ => 0)), (tb, aJ cJ 4096 (fun _ => 0)), (tc, aI cI 4096 (fun _ => 0))]) [11, 2, 10, 8, 9, 3, 7, 4, 5, 6] rfl) hE (hD.sub (ws' := [(x5, .inr (8, [.ref wm, .ref wt, .ref wv, .ref wk, .int 1, .ref we, .ref wf, .int 0, .ref x7, .int (0 &&& 3), .long 9007199254740991, .int 4095, .int 0, .int 0, .int 0, .int 0, .int 0])), (wm, .inr (2, [.ref na, .ref nb, .int 0, .int 0, .int 0])), (x7, .inr (4, [.ref x7s, .ref x7c, .int 0, .int 0, .int 0, .int 0])), (wv, aJ cJ 16384 (fun _ => 0)), (wk, aI cI 4096 (fun _ => 0)), (wt, .inr (1, [.ref ta, .ref tb, .ref tc, .ref td, .int 0, .int 0, .int 0])), (td, aI cI 8192 (fun _ => 0)), (ta, aJ cJ 4096 (fun _ => 0)), (tb, aJ cJ 4096 (fun _ => 0)), (tc, aI cI 4096 (fun _ => 0))]) [11, 2, 10, 8, 9, 3, 7, 4, 5, 6] (by decide) rfl) 0 (ci := 8) rfl rfl) rfl rfl hl.1 rfl (lv_room (Nat.le_of_ble_eq_true rfl)) dX9_both_58 ⟨by decide +kernel, by decide +kernel⟩) (fun r_20 u_22 H locs hr_21 hP hD hS => ?_)
        try dsimp only at hr_21
        have hP : va_P (dC, dI) vwCl [(h, .inr (9, [.ref x1, .ref x2, .ref x3, .ref x4, .ref x5, .ref x6, .ref x7])), (x1, aI cI 6 (fun _ => 0)), (x5, .inr (8, [.ref wm, .ref wt, .ref wv, .ref wk, .int 1, .ref we, .ref wf, .int 0, .ref x7, .int (0 &&& 3), .long 9007199254740991, .int 4095, .int 0, .int 0, .int 0, .int 0, .int 0])), (wv, aJ cJ 16384 (vp_updL (vp_updL (vp_updL (vp_updL (fun _ => 0) 0 1) 4096 1) 8192 1) 12288 1)), (wk, aI cI 4096 (upd (fun _ => 0) 0 1)), (wm, .inr (2, [.ref na, .ref nb, .int 0, .int 0, .int 0])), (x7, .inr (4, [.ref x7s, .ref x7c, .int 0, .int 0, .int 0, .int 0])), (td, aI cI 8192 (upd (upd (upd (fun _ => 0) 0 0) 1 0) 1 1)), (ta, aJ cJ 4096 (vp_updL (fun _ => 0) 0 1)), (tb, aJ cJ 4096 (vp_updL (fun _ => 0) 0 1)), (wt, .inr (1, [.ref ta, .ref tb, .ref tc, .ref td, .int 1, .int 1, .int 1])), (tc, aI cI 4096 (upd (upd (fun _ => 0) 0 0) 0 1))] H := hP
        have hD : va_D A [(h, .inr (9, [.ref x1, .ref x2, .ref x3, .ref x4, .ref x5, .ref x6, .ref x7])), (x1, aI cI 6 (fun _ => 0)), (x5, .inr (8, [.ref wm, .ref wt, .ref wv, .ref wk, .int 1, .ref we, .ref wf, .int 0, .ref x7, .int (0 &&& 3), .long 9007199254740991, .int 4095, .int 0, .int 0, .int 0, .int 0, .int 0])), (wv, aJ cJ 16384 (vp_updL (vp_updL (vp_updL (vp_updL (fun _ => 0) 0 1) 4096 1) 8192 1) 12288 1)), (wk, aI cI 4096 (upd (fun _ => 0) 0 1)), (wm, .inr (2, [.ref na, .ref nb, .int 0, .int 0, .int 0])), (x7, .inr (4, [.ref x7s, .ref x7c, .int 0, .int 0, .int 0, .int 0])), (td, aI cI 8192 (upd (upd (upd (fun _ => 0) 0 0) 1 0) 1 1)), (ta, aJ cJ 4096 (vp_updL (fun _ => 0) 0 1)), (tb, aJ cJ 4096 (vp_updL (fun _ => 0) 0 1)), (wt, .inr (1, [.ref ta, .ref tb, .ref tc, .ref td, .int 1, .int 1, .int 1])), (tc, aI cI 4096 (upd (upd (fun _ => 0) 0 0) 0 1))] := hD
        obtain rfl := hr_21
        have hP9 := hP.sub (ws' := []) [] rfl
        have hD9 := hD.sub (ws' := []) [] (by decide) rfl
        exact W.iret (v := 1) hx hb hr (fun tt_ ht hW => ⟨⟨_, (), rfl, (by rw [okE, if_pos (by simp only [inR, Int32.lt_iff_toInt_lt, Int32.le_iff_toInt_le, ← Int32.toInt_inj, tI_0, tI_1, tI_2, tI_3, tI_4, tI_5, tI_6, tI_7, tI_8, tI_20, tI_30, tI_300, tI_400, tI_4095, tI_4096, tI_m1, tI_m2, tI_m3, tI_m9] at k_4 k_10 ⊢ <;> omega)]), by rw [ht]; exact hP9, hD9⟩, hS.F ht⟩) hS.2.2 dX9_both_61
      · have k_23 : ¬ (inR o 0 4095) := bI_0 hr_8 c_9
        refine lv_iconst (v := (-1)) hx hb dX9_both_23 (by decide) ?_
        have hP9 := hP.sub (ws' := []) [] rfl
        have hD9 := hD.sub (ws' := []) [] (by decide) rfl
        exact W.iret (v := (-1)) hx hb hr (fun tt_ ht hW => ⟨⟨_, (), rfl, (by rw [okE, if_neg (by simp only [inR, Int32.lt_iff_toInt_lt, Int32.le_iff_toInt_le, ← Int32.toInt_inj, tI_0, tI_1, tI_2, tI_3, tI_4, tI_5, tI_6, tI_7, tI_8, tI_20, tI_30, tI_300, tI_400, tI_4095, tI_4096, tI_m1, tI_m2, tI_m3, tI_m9] at k_4 k_23 ⊢ <;> omega)]), by rw [ht]; exact hP9, hD9⟩, hS.F ht⟩) hS.2.2 dX9_both_24
    · refine lv_aload_n hx hb dX9_both_9 rfl (lv_at hl 0 rfl) ?_
      refine lv_iconst (v := 0) hx hb dX9_both_10 (by decide) ?_
      refine vp_callSi (va_Run.run (va_runV (As := [.int 0]) (rest := []) ⟨hx, hb, hml, hown, hts⟩ (c_cellsWithin l dC dI cI cJ cS  h 0 x1 x2 x3 x4 x5 x6 x7 ) (cwV 1 hts gX9_both_X9_cellsWithin rfl rfl rfl (by decide +kernel) ⟨Nat.le_of_ble_eq_true rfl, Nat.le_of_ble_eq_true rfl⟩) (preRV (hP.sub (ws' := [(h, .inr (9, [.ref x1, .ref x2, .ref x3, .ref x4, .ref x5, .ref x6, .ref x7])), (x1, aI cI 6 (fun _ => 0))]) [0, 1] rfl) hE 0 (ci := 9) rfl rfl) rfl rfl hl.1 rfl (lv_room (Nat.le_of_ble_eq_true rfl)) dX9_both_11 ⟨by decide +kernel, by decide +kernel⟩)) (fun r_24 hr_25 => ?_)
      obtain rfl := hr_25
      refine lv_istore_n (lv' := [(3, .int 4095), (0, .ref h), (1, .int 1), (2, .int o)]) hx hb dX9_both_14 rfl hl (by decide) rfl (fun ls hl => ?_)
      refine lv_iload_n hx hb dX9_both_15 rfl (lv_at hl 3 rfl) ?_
      refine lv_iload_n hx hb dX9_both_16 rfl (lv_at hl 0 rfl) ?_
      refine vp_callSi (va_Run.run (va_runS (As := [.int o, .int 4095]) (rest := []) ⟨hx, hb, hml, hown, hts⟩ (c_isPacked l dC dI cI cJ cS  o ) (va_cwS 2 hts gX9_both_X9_isPacked rfl rfl rfl (by decide +kernel) ⟨Nat.le_of_ble_eq_true rfl, Nat.le_of_ble_eq_true rfl⟩) (preR (hP.sub (ws' := []) [] rfl) hE) rfl rfl hl.1 rfl (lv_room (Nat.le_of_ble_eq_true rfl)) dX9_both_17 ⟨by decide +kernel, by decide +kernel⟩)) (fun r_26 hr_27 => ?_)
      refine lv_if_ne (tgt := 25) hx hb dX9_both_20 (by decide) (fun c_28 => ?_) (fun c_28 => ?_)
      · have k_29 : inR o 0 4095 := bI_1 hr_27 c_28
        refine lv_aload_n hx hb dX9_both_25 rfl (lv_at hl 1 rfl) ?_
        refine va_get (D := (dC, dI)) (ci := 9) (v := .ref x5) (C := RX9) (T := TX9) (N := 7) hx hb hts hiX9 hown hK hP 0 rfl rfl 4 (by decide) (hts (.fieldLink RX9 37 "WatchedPrograms" "watch" "LWatchedPrograms$Watch;") (by decide +kernel)) (fun _ h9 => h9) rfl dX9_both_26 ?_
        refine lv_aload_n hx hb dX9_both_29 rfl (lv_at hl 1 rfl) ?_
        refine va_get (D := (dC, dI)) (ci := 9) (v := .ref x7) (C := RX9) (T := TX9) (N := 7) hx hb hts hiX9 hown hK hP 0 rfl rfl 6 (by decide) (hts (.fieldLink RX9 51 "WatchedPrograms" "program" "LWatchedPrograms$Program;") (by decide +kernel)) (fun _ h9 => h9) rfl dX9_both_30 ?_
        refine lv_iconst (v := 0) hx hb dX9_both_33 (by decide) ?_
        refine lv_iload_n hx hb dX9_both_34 rfl (lv_at hl 0 rfl) ?_
        refine lv_iload_n hx hb dX9_both_35 rfl (lv_at hl 2 rfl) ?_
        have hFc := va_free (wc := [(x5, .inr (8, [.ref wm, .ref wt, .ref wv, .ref wk, .int 1, .ref we, .ref wf, .int 0, .ref wp, .int 0, .long 0, .int 0, .int 0, .int 0, .int 0, .int 0, .int 0]))]) hD hS hA [2] rfl
        refine zCv (wr := [(h, .inr (9, [.ref x1, .ref x2, .ref x3, .ref x4, .ref x5, .ref x6, .ref x7])), (x1, aI cI 6 (fun _ => 0)), (wm, .inr (2, [.ref na, .ref nb, .int 0, .int 0, .int 0])), (wt, .inr (1, [.ref ta, .ref tb, .ref tc, .ref td, .int 0, .int 0, .int 0])), (ta, aJ cJ 4096 (fun _ => 0)), (tb, aJ cJ 4096 (fun _ => 0)), (tc, aI cI 4096 (fun _ => 0)), (td, aI cI 8192 (fun _ => 0)), (wv, aJ cJ 16384 (fun _ => 0)), (wk, aI cI 4096 (fun _ => 0)), (x7, .inr (4, [.ref x7s, .ref x7c, .int 0, .int 0, .int 0, .int 0]))]) hP hD hS hFc [2] [0, 1, 3, 4, 5, 6, 7, 8, 9, 10, 11] rfl rfl (by decide) (by decide) (va_runV (As := [.ref x7, .int 0, .int 4095, .int 1]) (rest := []) ⟨hx, hb, hml, hown, hts⟩ (c_aim1 l dC dI cI cJ cS ss_.heap.size x5 x7 0 wm wt wv wk we wf wp ) (cwV 4 hts gX9_both_X8_aim rfl rfl rfl (by decide +kernel) ⟨Nat.le_of_ble_eq_true rfl, Nat.le_of_ble_eq_true rfl⟩) (preEV (hP.sub (ws' := [(x5, .inr (8, [.ref wm, .ref wt, .ref wv, .ref wk, .int 1, .ref we, .ref wf, .int 0, .ref wp, .int 0, .long 0, .int 0, .int 0, .int 0, .int 0, .int 0, .int 0]))]) [2] rfl) hE (hD.sub (ws' := [(x5, .inr (8, [.ref wm, .ref wt, .ref wv, .ref wk, .int 1, .ref we, .ref wf, .int 0, .ref wp, .int 0, .long 0, .int 0, .int 0, .int 0, .int 0, .int 0, .int 0]))]) [2] (by decide) rfl) 0 (ci := 8) rfl rfl) rfl rfl hl.1 rfl (lv_room (Nat.le_of_ble_eq_true rfl)) dX9_both_36 ⟨by decide +kernel, by decide +kernel⟩) (fun u_32 H locs hr_31 hP hD hS => ?_)
        try dsimp only at hr_31
        have hP : va_P (dC, dI) vwCl [(h, .inr (9, [.ref x1, .ref x2, .ref x3, .ref x4, .ref x5, .ref x6, .ref x7])), (x1, aI cI 6 (fun _ => 0)), (wm, .inr (2, [.ref na, .ref nb, .int 0, .int 0, .int 0])), (wt, .inr (1, [.ref ta, .ref tb, .ref tc, .ref td, .int 0, .int 0, .int 0])), (ta, aJ cJ 4096 (fun _ => 0)), (tb, aJ cJ 4096 (fun _ => 0)), (tc, aI cI 4096 (fun _ => 0)), (td, aI cI 8192 (fun _ => 0)), (wv, aJ cJ 16384 (fun _ => 0)), (wk, aI cI 4096 (fun _ => 0)), (x7, .inr (4, [.ref x7s, .ref x7c, .int 0, .int 0, .int 0, .int 0])), (x5, .inr (8, [.ref wm, .ref wt, .ref wv, .ref wk, .int 1, .ref we, .ref wf, .int 0, .ref x7, .int (0 &&& 3), .long 4611686018427387903, .int 4095, .int 0, .int 0, .int 0, .int 0, .int 0]))] H := hP
        have hD : va_D A [(h, .inr (9, [.ref x1, .ref x2, .ref x3, .ref x4, .ref x5, .ref x6, .ref x7])), (x1, aI cI 6 (fun _ => 0)), (wm, .inr (2, [.ref na, .ref nb, .int 0, .int 0, .int 0])), (wt, .inr (1, [.ref ta, .ref tb, .ref tc, .ref td, .int 0, .int 0, .int 0])), (ta, aJ cJ 4096 (fun _ => 0)), (tb, aJ cJ 4096 (fun _ => 0)), (tc, aI cI 4096 (fun _ => 0)), (td, aI cI 8192 (fun _ => 0)), (wv, aJ cJ 16384 (fun _ => 0)), (wk, aI cI 4096 (fun _ => 0)), (x7, .inr (4, [.ref x7s, .ref x7c, .int 0, .int 0, .int 0, .int 0])), (x5, .inr (8, [.ref wm, .ref wt, .ref wv, .ref wk, .int 1, .ref we, .ref wf, .int 0, .ref x7, .int (0 &&& 3), .long 4611686018427387903, .int 4095, .int 0, .int 0, .int 0, .int 0, .int 0]))] := hD
        refine lv_aload_n hx hb dX9_both_39 rfl (lv_at hl 1 rfl) ?_
        refine va_get (D := (dC, dI)) (ci := 9) (v := .ref x5) (C := RX9) (T := TX9) (N := 7) hx hb hts hiX9 hown hK hP 0 rfl rfl 4 (by decide) (hts (.fieldLink RX9 37 "WatchedPrograms" "watch" "LWatchedPrograms$Watch;") (by decide +kernel)) (fun _ h9 => h9) rfl dX9_both_40 ?_
        refine lv_iload_n hx hb dX9_both_43 rfl (lv_at hl 3 rfl) ?_
        refine lv_iload_n hx hb dX9_both_44 rfl (lv_at hl 0 rfl) ?_
        refine vp_callSi (va_Run.run (va_runS (As := [.int o, .int 4095]) (rest := [.ref x5]) ⟨hx, hb, hml, hown, hts⟩ (c_spread l dC dI cI cJ cS  o ) (va_cwS 2 hts gX9_both_X9_spread rfl rfl rfl (by decide +kernel) ⟨Nat.le_of_ble_eq_true rfl, Nat.le_of_ble_eq_true rfl⟩) (preR (hP.sub (ws' := []) [] rfl) hE) rfl rfl hl.1 rfl (lv_room (Nat.le_of_ble_eq_true rfl)) dX9_both_45 ⟨by decide +kernel, by decide +kernel⟩)) (fun r_33 hr_34 => ?_)
        refine lv_aload_n hx hb dX9_both_48 rfl (lv_at hl 1 rfl) ?_
        refine lv_iconst (v := 1) hx hb dX9_both_49 (by decide) ?_
        refine vp_callSi (va_Run.run (va_runV (As := [.int 1]) (rest := [.int r_33, .ref x5]) ⟨hx, hb, hml, hown, hts⟩ (c_cellsWithin l dC dI cI cJ cS  h 1 x1 x2 x3 x4 x5 x6 x7 ) (cwV 1 hts gX9_both_X9_cellsWithin rfl rfl rfl (by decide +kernel) ⟨Nat.le_of_ble_eq_true rfl, Nat.le_of_ble_eq_true rfl⟩) (preRV (hP.sub (ws' := [(h, .inr (9, [.ref x1, .ref x2, .ref x3, .ref x4, .ref x5, .ref x6, .ref x7])), (x1, aI cI 6 (fun _ => 0))]) [0, 1] rfl) hE 0 (ci := 9) rfl rfl) rfl rfl hl.1 rfl (lv_room (Nat.le_of_ble_eq_true rfl)) dX9_both_50 ⟨by decide +kernel, by decide +kernel⟩)) (fun r_35 hr_36 => ?_)
        obtain rfl := hr_36
        refine lv_aload_n hx hb dX9_both_53 rfl (lv_at hl 1 rfl) ?_
        refine lv_iconst (v := 2) hx hb dX9_both_54 (by decide) ?_
        refine vp_callSi (va_Run.run (va_runV (As := [.int 2]) (rest := [.int 4095, .int r_33, .ref x5]) ⟨hx, hb, hml, hown, hts⟩ (c_cellsWithin l dC dI cI cJ cS  h 2 x1 x2 x3 x4 x5 x6 x7 ) (cwV 1 hts gX9_both_X9_cellsWithin rfl rfl rfl (by decide +kernel) ⟨Nat.le_of_ble_eq_true rfl, Nat.le_of_ble_eq_true rfl⟩) (preRV (hP.sub (ws' := [(h, .inr (9, [.ref x1, .ref x2, .ref x3, .ref x4, .ref x5, .ref x6, .ref x7])), (x1, aI cI 6 (fun _ => 0))]) [0, 1] rfl) hE 0 (ci := 9) rfl rfl) rfl rfl hl.1 rfl (lv_room (Nat.le_of_ble_eq_true rfl)) dX9_both_55 ⟨by decide +kernel, by decide +kernel⟩)) (fun r_37 hr_38 => ?_)
        obtain rfl := hr_38
        have hFc := va_free (wc := [(x5, .inr (8, [.ref wm, .ref wt, .ref wv, .ref wk, .int 1, .ref we, .ref wf, .int 0, .ref x7, .int (0 &&& 3), .long 4611686018427387903, .int 4095, .int 0, .int 0, .int 0, .int 0, .int 0])), (wm, .inr (2, [.ref na, .ref nb, .int 0, .int 0, .int 0])), (x7, .inr (4, [.ref x7s, .ref x7c, .int 0, .int 0, .int 0, .int 0])), (wv, aJ cJ 16384 (fun _ => 0)), (wk, aI cI 4096 (fun _ => 0)), (wt, .inr (1, [.ref ta, .ref tb, .ref tc, .ref td, .int 0, .int 0, .int 0])), (td, aI cI 8192 (fun _ => 0)), (ta, aJ cJ 4096 (fun _ => 0)), (tb, aJ cJ 4096 (fun _ => 0)), (tc, aI cI 4096 (fun _ => 0))]) hD hS hA [11, 2, 10, 8, 9, 3, 7, 4, 5, 6] rfl
        refine zCi (wr := [(h, .inr (9, [.ref x1, .ref x2, .ref x3, .ref x4, .ref x5, .ref x6, .ref x7])), (x1, aI cI 6 (fun _ => 0))]) hP hD hS hFc [11, 2, 10, 8, 9, 3, 7, 4, 5, 6] [0, 1] rfl rfl (by decide) (by decide) (va_runV (As := [.int r_33, .int 4095, .int 4095]) (rest := []) ⟨hx, hb, hml, hown, hts⟩ (c_countBoth1 l dC dI cI cJ cS H.size x5 r_33 wm wt wv wk we wf x7 (0 &&& 3) na nb x7s x7c ta tb tc td ) (cwV 3 hts gX9_both_X8_countBoth rfl rfl rfl (by decide +kernel) ⟨Nat.le_of_ble_eq_true rfl, Nat.le_of_ble_eq_true rfl⟩) (preEV (hP.sub (ws' := [(x5, .inr (8, [.ref wm, .ref wt, .ref wv, .ref wk, .int 1, .ref we, .ref wf, .int 0, .ref x7, .int (0 &&& 3), .long 4611686018427387903, .int 4095, .int 0, .int 0, .int 0, .int 0, .int 0])), (wm, .inr (2, [.ref na, .ref nb, .int 0, .int 0, .int 0])), (x7, .inr (4, [.ref x7s, .ref x7c, .int 0, .int 0, .int 0, .int 0])), (wv, aJ cJ 16384 (fun _ => 0)), (wk, aI cI 4096 (fun _ => 0)), (wt, .inr (1, [.ref ta, .ref tb, .ref tc, .ref td, .int 0, .int 0, .int 0])), (td, aI cI 8192 (fun _ => 0)), (ta, aJ cJ 4096 (fun _ => 0)), (tb, aJ cJ 4096 (fun _ => 0)), (tc, aI cI 4096 (fun _ => 0))]) [11, 2, 10, 8, 9, 3, 7, 4, 5, 6] rfl) hE (hD.sub (ws' := [(x5, .inr (8, [.ref wm, .ref wt, .ref wv, .ref wk, .int 1, .ref we, .ref wf, .int 0, .ref x7, .int (0 &&& 3), .long 4611686018427387903, .int 4095, .int 0, .int 0, .int 0, .int 0, .int 0])), (wm, .inr (2, [.ref na, .ref nb, .int 0, .int 0, .int 0])), (x7, .inr (4, [.ref x7s, .ref x7c, .int 0, .int 0, .int 0, .int 0])), (wv, aJ cJ 16384 (fun _ => 0)), (wk, aI cI 4096 (fun _ => 0)), (wt, .inr (1, [.ref ta, .ref tb, .ref tc, .ref td, .int 0, .int 0, .int 0])), (td, aI cI 8192 (fun _ => 0)), (ta, aJ cJ 4096 (fun _ => 0)), (tb, aJ cJ 4096 (fun _ => 0)), (tc, aI cI 4096 (fun _ => 0))]) [11, 2, 10, 8, 9, 3, 7, 4, 5, 6] (by decide) rfl) 0 (ci := 8) rfl rfl) rfl rfl hl.1 rfl (lv_room (Nat.le_of_ble_eq_true rfl)) dX9_both_58 ⟨by decide +kernel, by decide +kernel⟩) (fun r_39 u_41 H locs hr_40 hP hD hS => ?_)
        try dsimp only at hr_40
        have hP : va_P (dC, dI) vwCl [(h, .inr (9, [.ref x1, .ref x2, .ref x3, .ref x4, .ref x5, .ref x6, .ref x7])), (x1, aI cI 6 (fun _ => 0)), (x5, .inr (8, [.ref wm, .ref wt, .ref wv, .ref wk, .int 1, .ref we, .ref wf, .int 0, .ref x7, .int (0 &&& 3), .long 4611686018427387903, .int 4095, .int 0, .int 0, .int 0, .int 0, .int 0])), (wv, aJ cJ 16384 (vp_updL (vp_updL (vp_updL (vp_updL (fun _ => 0) 0 1) 4096 1) 8192 1) 12288 1)), (wk, aI cI 4096 (upd (fun _ => 0) 0 1)), (wm, .inr (2, [.ref na, .ref nb, .int 0, .int 0, .int 0])), (x7, .inr (4, [.ref x7s, .ref x7c, .int 0, .int 0, .int 0, .int 0])), (td, aI cI 8192 (upd (upd (upd (fun _ => 0) 0 0) 1 0) 1 1)), (ta, aJ cJ 4096 (vp_updL (fun _ => 0) 0 1)), (tb, aJ cJ 4096 (vp_updL (fun _ => 0) 0 1)), (wt, .inr (1, [.ref ta, .ref tb, .ref tc, .ref td, .int 1, .int 1, .int 1])), (tc, aI cI 4096 (upd (upd (fun _ => 0) 0 0) 0 1))] H := hP
        have hD : va_D A [(h, .inr (9, [.ref x1, .ref x2, .ref x3, .ref x4, .ref x5, .ref x6, .ref x7])), (x1, aI cI 6 (fun _ => 0)), (x5, .inr (8, [.ref wm, .ref wt, .ref wv, .ref wk, .int 1, .ref we, .ref wf, .int 0, .ref x7, .int (0 &&& 3), .long 4611686018427387903, .int 4095, .int 0, .int 0, .int 0, .int 0, .int 0])), (wv, aJ cJ 16384 (vp_updL (vp_updL (vp_updL (vp_updL (fun _ => 0) 0 1) 4096 1) 8192 1) 12288 1)), (wk, aI cI 4096 (upd (fun _ => 0) 0 1)), (wm, .inr (2, [.ref na, .ref nb, .int 0, .int 0, .int 0])), (x7, .inr (4, [.ref x7s, .ref x7c, .int 0, .int 0, .int 0, .int 0])), (td, aI cI 8192 (upd (upd (upd (fun _ => 0) 0 0) 1 0) 1 1)), (ta, aJ cJ 4096 (vp_updL (fun _ => 0) 0 1)), (tb, aJ cJ 4096 (vp_updL (fun _ => 0) 0 1)), (wt, .inr (1, [.ref ta, .ref tb, .ref tc, .ref td, .int 1, .int 1, .int 1])), (tc, aI cI 4096 (upd (upd (fun _ => 0) 0 0) 0 1))] := hD
        obtain rfl := hr_40
        have hP9 := hP.sub (ws' := []) [] rfl
        have hD9 := hD.sub (ws' := []) [] (by decide) rfl
        exact W.iret (v := 1) hx hb hr (fun tt_ ht hW => ⟨⟨_, (), rfl, (by rw [okE, if_pos (by simp only [inR, Int32.lt_iff_toInt_lt, Int32.le_iff_toInt_le, ← Int32.toInt_inj, tI_0, tI_1, tI_2, tI_3, tI_4, tI_5, tI_6, tI_7, tI_8, tI_20, tI_30, tI_300, tI_400, tI_4095, tI_4096, tI_m1, tI_m2, tI_m3, tI_m9] at k_4 k_29 ⊢ <;> omega)]), by rw [ht]; exact hP9, hD9⟩, hS.F ht⟩) hS.2.2 dX9_both_61
      · have k_42 : ¬ (inR o 0 4095) := bI_0 hr_27 c_28
        refine lv_iconst (v := (-1)) hx hb dX9_both_23 (by decide) ?_
        have hP9 := hP.sub (ws' := []) [] rfl
        have hD9 := hD.sub (ws' := []) [] (by decide) rfl
        exact W.iret (v := (-1)) hx hb hr (fun tt_ ht hW => ⟨⟨_, (), rfl, (by rw [okE, if_neg (by simp only [inR, Int32.lt_iff_toInt_lt, Int32.le_iff_toInt_le, ← Int32.toInt_inj, tI_0, tI_1, tI_2, tI_3, tI_4, tI_5, tI_6, tI_7, tI_8, tI_20, tI_30, tI_300, tI_400, tI_4095, tI_4096, tI_m1, tI_m2, tI_m3, tI_m9] at k_4 k_42 ⊢ <;> omega)]), by rw [ht]; exact hP9, hD9⟩, hS.F ht⟩) hS.2.2 dX9_both_24
  · have k_43 : ¬ (inR t 0 1) := bI_0 hr_2 c_3
    refine lv_iconst (v := (-1)) hx hb dX9_both_7 (by decide) ?_
    have hP9 := hP.sub (ws' := []) [] rfl
    have hD9 := hD.sub (ws' := []) [] (by decide) rfl
    exact W.iret (v := (-1)) hx hb hr (fun tt_ ht hW => ⟨⟨_, (), rfl, (by rw [okE, if_neg (by simp only [inR, Int32.lt_iff_toInt_lt, Int32.le_iff_toInt_le, ← Int32.toInt_inj, tI_0, tI_1, tI_2, tI_3, tI_4, tI_5, tI_6, tI_7, tI_8, tI_20, tI_30, tI_300, tI_400, tI_4095, tI_4096, tI_m1, tI_m2, tI_m3, tI_m9] at k_43 ⊢ <;> omega)]), by rw [ht]; exact hP9, hD9⟩, hS.F ht⟩) hS.2.2 dX9_both_8
set_option maxHeartbeats 1000000 in
set_option maxRecDepth 100000 in
theorem c_measure (l : Launch) (dC : Nat → ClassId) (dI : Nat → Nat → Nat) (cI cJ cS : ClassId) (x6 : Nat) (p : Nat) (lv : Nat) (fa : Nat) (fb : Nat) (fc : Nat) (ps : Nat) (pc : Nat)  : Met l yX0_measure wsX0_measure ({ frames := 0, cells := 0, slots := 0, locals := 0 }) (va_Pc [.ref x6, .ref p, .ref lv] (PR dC dI cI cJ cS [(x6, .inr (0, [.ref fa, .ref fb, .ref fc])), (p, .inr (4, [.ref ps, .ref pc, .int 0, .int 0, .int 0, .int 0]))])) (va_Sv (fun _ => True)) 0 0 (fun _ => False) := by
  refine Met.ofW (cc := cX0_measure) (maxL := 5) (ret := none) (by decide) rfl ?_
  intro pp_ ee_ ss_ mm_ args below meth cc_ s₁ B hml hv
  obtain ⟨rfl, hP, hE⟩ := hv
  have hx := B.exec
  have hb := B.bytes
  have hr := B.returns
  have hts := atoms_spec (ws := wsX0_measure) B.pre
  have hown : ss_.vm.findClass RX0 = some mm_.cls := findClass_of_methodNamed B.named
  have hlocks := B.notSynchronized
  have hK := hE.1
  have hiX4 : ∀ w ∈ wsX40, w ∈ wsX0_measure := by decide +kernel
  have hP : va_P (dC, dI) vwCl [(x6, .inr (0, [.ref fa, .ref fb, .ref fc])), (p, .inr (4, [.ref ps, .ref pc, .int 0, .int 0, .int 0, .int 0]))] ss_.heap := hP
  have hl := lv_entry ([.ref x6, .ref p, .ref lv]) (n := 5) (Nat.le_of_ble_eq_true rfl)
  rw [lg_entry_eq]
  generalize (lg_sl ([.ref x6, .ref p, .ref lv]) ++ List.replicate (5 - (lg_sl ([.ref x6, .ref p, .ref lv])).length) Slot.unset).toArray = ls at hl ⊢
  have hl : lv_has ls 5 [(0, .ref x6), (1, .ref p), (2, .ref lv)] := hl
  refine lv_iconst (v := 0) hx hb dX0_measure_0 (by decide) ?_
  refine lv_istore_n (lv' := [(3, .int 0), (0, .ref x6), (1, .ref p), (2, .ref lv)]) hx hb dX0_measure_1 rfl hl (by decide) rfl (fun ls hl => ?_)
  refine lv_iload_n hx hb dX0_measure_2 rfl (lv_at hl 0 rfl) ?_
  refine lv_aload_n hx hb dX0_measure_3 rfl (lv_at hl 2 rfl) ?_
  refine va_get (D := (dC, dI)) (ci := 4) (v := .int 0) (C := RX4) (T := TX4) (N := 6) hx hb hts hiX4 hown hK hP 1 rfl rfl 2 (by decide) (hts (.fieldLink RX0 21 "WatchedPrograms$Program" "size" "I") (by decide +kernel)) (fun _ h9 => h9) rfl dX0_measure_4 ?_
  refine lv_icmp_ge (tgt := 87) hx hb dX0_measure_7 (by decide) (fun _ => ?_) (fun c_1 => absurd (by decide) c_1)
  exact W.vret hx hb hr (fun tt_ ht hW => ⟨rfl, trivial, ht⟩) (fun _ h => by cases h) dX0_measure_87
set_option maxHeartbeats 1000000 in
set_option maxRecDepth 100000 in
theorem c_countLeaks (l : Launch) (dC : Nat → ClassId) (dI : Nat → Nat → Nat) (cI cJ cS : ClassId) (x6 : Nat) (p : Nat) (lv : Nat) (fa : Nat) (fb : Nat) (fc : Nat) (ps : Nat) (pc : Nat)  : Met l yX0_countLeaks wsX0_countLeaks ({ frames := 0, cells := 0, slots := 0, locals := 0 }) (va_Pc [.ref x6, .ref p, .ref lv] (PR dC dI cI cJ cS [(x6, .inr (0, [.ref fa, .ref fb, .ref fc])), (p, .inr (4, [.ref ps, .ref pc, .int 0, .int 0, .int 0, .int 0]))])) (vp_Si (fun r : Int32 => r = 0)) 0 0 (fun _ => False) := by
  refine Met.ofW (cc := cX0_countLeaks) (maxL := 5) (ret := (some .int)) (by decide) rfl ?_
  intro pp_ ee_ ss_ mm_ args below meth cc_ s₁ B hml hv
  obtain ⟨rfl, hP, hE⟩ := hv
  have hx := B.exec
  have hb := B.bytes
  have hr := B.returns
  have hts := atoms_spec (ws := wsX0_countLeaks) B.pre
  have hown : ss_.vm.findClass RX0 = some mm_.cls := findClass_of_methodNamed B.named
  have hlocks := B.notSynchronized
  have hK := hE.1
  have hiX4 : ∀ w ∈ wsX40, w ∈ wsX0_countLeaks := by decide +kernel
  have hP : va_P (dC, dI) vwCl [(x6, .inr (0, [.ref fa, .ref fb, .ref fc])), (p, .inr (4, [.ref ps, .ref pc, .int 0, .int 0, .int 0, .int 0]))] ss_.heap := hP
  have hl := lv_entry ([.ref x6, .ref p, .ref lv]) (n := 5) (Nat.le_of_ble_eq_true rfl)
  rw [lg_entry_eq]
  generalize (lg_sl ([.ref x6, .ref p, .ref lv]) ++ List.replicate (5 - (lg_sl ([.ref x6, .ref p, .ref lv])).length) Slot.unset).toArray = ls at hl ⊢
  have hl : lv_has ls 5 [(0, .ref x6), (1, .ref p), (2, .ref lv)] := hl
  refine lv_iconst (v := 0) hx hb dX0_countLeaks_0 (by decide) ?_
  refine lv_istore_n (lv' := [(3, .int 0), (0, .ref x6), (1, .ref p), (2, .ref lv)]) hx hb dX0_countLeaks_1 rfl hl (by decide) rfl (fun ls hl => ?_)
  refine lv_iconst (v := 0) hx hb dX0_countLeaks_2 (by decide) ?_
  refine lv_istore (lv' := [(4, .int 0), (3, .int 0), (0, .ref x6), (1, .ref p), (2, .ref lv)]) hx hb dX0_countLeaks_3 hl (by decide) rfl (fun ls hl => ?_)
  refine lv_iload hx hb dX0_countLeaks_5 (lv_at hl 0 rfl) ?_
  refine lv_aload_n hx hb dX0_countLeaks_7 rfl (lv_at hl 3 rfl) ?_
  refine va_get (D := (dC, dI)) (ci := 4) (v := .int 0) (C := RX4) (T := TX4) (N := 6) hx hb hts hiX4 hown hK hP 1 rfl rfl 2 (by decide) (hts (.fieldLink RX0 21 "WatchedPrograms$Program" "size" "I") (by decide +kernel)) (fun _ h9 => h9) rfl dX0_countLeaks_8 ?_
  refine lv_icmp_ge (tgt := 34) hx hb dX0_countLeaks_11 (by decide) (fun _ => ?_) (fun c_1 => absurd (by decide) c_1)
  refine lv_iload_n hx hb dX0_countLeaks_34 rfl (lv_at hl 1 rfl) ?_
  exact W.iret (v := 0) hx hb hr (fun tt_ ht hW => ⟨_, rfl, rfl, ht⟩) (fun _ h => by cases h) dX0_countLeaks_35
set_option maxHeartbeats 1000000 in
set_option maxRecDepth 100000 in
theorem c_firstLeak (l : Launch) (dC : Nat → ClassId) (dI : Nat → Nat → Nat) (cI cJ cS : ClassId) (x6 : Nat) (p : Nat) (lv : Nat) (fa : Nat) (fb : Nat) (fc : Nat) (ps : Nat) (pc : Nat)  : Met l yX0_firstLeak wsX0_firstLeak ({ frames := 0, cells := 0, slots := 0, locals := 0 }) (va_Pc [.ref x6, .ref p, .ref lv] (PR dC dI cI cJ cS [(x6, .inr (0, [.ref fa, .ref fb, .ref fc])), (p, .inr (4, [.ref ps, .ref pc, .int 0, .int 0, .int 0, .int 0]))])) (vp_Si (fun r : Int32 => r = (-9))) 0 0 (fun _ => False) := by
  refine Met.ofW (cc := cX0_firstLeak) (maxL := 4) (ret := (some .int)) (by decide) rfl ?_
  intro pp_ ee_ ss_ mm_ args below meth cc_ s₁ B hml hv
  obtain ⟨rfl, hP, hE⟩ := hv
  have hx := B.exec
  have hb := B.bytes
  have hr := B.returns
  have hts := atoms_spec (ws := wsX0_firstLeak) B.pre
  have hown : ss_.vm.findClass RX0 = some mm_.cls := findClass_of_methodNamed B.named
  have hlocks := B.notSynchronized
  have hK := hE.1
  have hiX4 : ∀ w ∈ wsX40, w ∈ wsX0_firstLeak := by decide +kernel
  have hP : va_P (dC, dI) vwCl [(x6, .inr (0, [.ref fa, .ref fb, .ref fc])), (p, .inr (4, [.ref ps, .ref pc, .int 0, .int 0, .int 0, .int 0]))] ss_.heap := hP
  have hl := lv_entry ([.ref x6, .ref p, .ref lv]) (n := 4) (Nat.le_of_ble_eq_true rfl)
  rw [lg_entry_eq]
  generalize (lg_sl ([.ref x6, .ref p, .ref lv]) ++ List.replicate (4 - (lg_sl ([.ref x6, .ref p, .ref lv])).length) Slot.unset).toArray = ls at hl ⊢
  have hl : lv_has ls 4 [(0, .ref x6), (1, .ref p), (2, .ref lv)] := hl
  refine lv_iconst (v := 0) hx hb dX0_firstLeak_0 (by decide) ?_
  refine lv_istore_n (lv' := [(3, .int 0), (0, .ref x6), (1, .ref p), (2, .ref lv)]) hx hb dX0_firstLeak_1 rfl hl (by decide) rfl (fun ls hl => ?_)
  refine lv_iload_n hx hb dX0_firstLeak_2 rfl (lv_at hl 0 rfl) ?_
  refine lv_aload_n hx hb dX0_firstLeak_3 rfl (lv_at hl 2 rfl) ?_
  refine va_get (D := (dC, dI)) (ci := 4) (v := .int 0) (C := RX4) (T := TX4) (N := 6) hx hb hts hiX4 hown hK hP 1 rfl rfl 2 (by decide) (hts (.fieldLink RX0 21 "WatchedPrograms$Program" "size" "I") (by decide +kernel)) (fun _ h9 => h9) rfl dX0_firstLeak_4 ?_
  refine lv_icmp_ge (tgt := 28) hx hb dX0_firstLeak_7 (by decide) (fun _ => ?_) (fun c_1 => absurd (by decide) c_1)
  refine lv_bipush (v := (-9)) hx hb dX0_firstLeak_28 (by decide) ?_
  exact W.iret (v := (-9)) hx hb hr (fun tt_ ht hW => ⟨_, rfl, rfl, ht⟩) (fun _ h => by cases h) dX0_firstLeak_30
set_option maxHeartbeats 1000000 in
set_option maxRecDepth 100000 in
theorem c_raiseLeaking (l : Launch) (dC : Nat → ClassId) (dI : Nat → Nat → Nat) (cI cJ cS : ClassId) (x6 : Nat) (p : Nat) (fa : Nat) (fb : Nat) (fc : Nat) (ps : Nat) (pc : Nat)  : Met l yX0_raiseLeaking wsX0_raiseLeaking ({ frames := 0, cells := 0, slots := 0, locals := 0 }) (va_Pc [.ref x6, .ref p] (PR dC dI cI cJ cS [(x6, .inr (0, [.ref fa, .ref fb, .ref fc])), (p, .inr (4, [.ref ps, .ref pc, .int 0, .int 0, .int 0, .int 0]))])) (vp_Si (fun r : Int32 => r = 0)) 0 0 (fun _ => False) := by
  refine Met.ofW (cc := cX0_raiseLeaking) (maxL := 5) (ret := (some .boolean)) (by decide) rfl ?_
  intro pp_ ee_ ss_ mm_ args below meth cc_ s₁ B hml hv
  obtain ⟨rfl, hP, hE⟩ := hv
  have hx := B.exec
  have hb := B.bytes
  have hr := B.returns
  have hts := atoms_spec (ws := wsX0_raiseLeaking) B.pre
  have hown : ss_.vm.findClass RX0 = some mm_.cls := findClass_of_methodNamed B.named
  have hlocks := B.notSynchronized
  have hK := hE.1
  have hiX4 : ∀ w ∈ wsX40, w ∈ wsX0_raiseLeaking := by decide +kernel
  have hP : va_P (dC, dI) vwCl [(x6, .inr (0, [.ref fa, .ref fb, .ref fc])), (p, .inr (4, [.ref ps, .ref pc, .int 0, .int 0, .int 0, .int 0]))] ss_.heap := hP
  have hl := lv_entry ([.ref x6, .ref p]) (n := 5) (Nat.le_of_ble_eq_true rfl)
  rw [lg_entry_eq]
  generalize (lg_sl ([.ref x6, .ref p]) ++ List.replicate (5 - (lg_sl ([.ref x6, .ref p])).length) Slot.unset).toArray = ls at hl ⊢
  have hl : lv_has ls 5 [(0, .ref x6), (1, .ref p)] := hl
  refine lv_iconst (v := 0) hx hb dX0_raiseLeaking_0 (by decide) ?_
  refine lv_istore_n (lv' := [(2, .int 0), (0, .ref x6), (1, .ref p)]) hx hb dX0_raiseLeaking_1 rfl hl (by decide) rfl (fun ls hl => ?_)
  refine lv_iconst (v := 0) hx hb dX0_raiseLeaking_2 (by decide) ?_
  refine lv_istore_n (lv' := [(3, .int 0), (2, .int 0), (0, .ref x6), (1, .ref p)]) hx hb dX0_raiseLeaking_3 rfl hl (by decide) rfl (fun ls hl => ?_)
  refine lv_iload_n hx hb dX0_raiseLeaking_4 rfl (lv_at hl 0 rfl) ?_
  refine lv_aload_n hx hb dX0_raiseLeaking_5 rfl (lv_at hl 3 rfl) ?_
  refine va_get (D := (dC, dI)) (ci := 4) (v := .int 0) (C := RX4) (T := TX4) (N := 6) hx hb hts hiX4 hown hK hP 1 rfl rfl 2 (by decide) (hts (.fieldLink RX0 21 "WatchedPrograms$Program" "size" "I") (by decide +kernel)) (fun _ h9 => h9) rfl dX0_raiseLeaking_6 ?_
  refine lv_icmp_ge (tgt := 75) hx hb dX0_raiseLeaking_9 (by decide) (fun _ => ?_) (fun c_1 => absurd (by decide) c_1)
  refine lv_iload_n hx hb dX0_raiseLeaking_75 rfl (lv_at hl 1 rfl) ?_
  exact W.zret (v := 0) hx hb hr (by decide) (fun tt_ ht hW => ⟨_, rfl, rfl, ht⟩) (fun _ h => by cases h) dX0_raiseLeaking_76
set_option maxHeartbeats 1000000 in
set_option maxRecDepth 100000 in
theorem c_raise (l : Launch) (dC : Nat → ClassId) (dI : Nat → Nat → Nat) (cI cJ cS : ClassId) (sz : Nat) (x6 : Nat) (p : Nat) (x1 : Nat) (c : Int32) (fa : Nat) (fb : Nat) (fc : Nat) (ps : Nat) (pc : Nat) (hc : inR c 0 5) : Met l yX0_raise wsX0_raise ({ frames := 1, cells := 0, slots := 0, locals := 24 }) (va_Pc [.ref x6, .ref p, .ref x1, .int c] (PE dC dI cI cJ cS [(x6, .inr (0, [.ref fa, .ref fb, .ref fc])), (fc, aI cI 6 (fun _ => 0)), (p, .inr (4, [.ref ps, .ref pc, .int 0, .int 0, .int 0, .int 0])), (x1, aI cI 6 (fun _ => 0))] sz)) (va_Qi (fun (r : Int32) (_ : Unit) => r = 0) (BE dC dI (va_A [(x6, .inr (0, [.ref fa, .ref fb, .ref fc])), (fc, aI cI 6 (fun _ => 0)), (p, .inr (4, [.ref ps, .ref pc, .int 0, .int 0, .int 0, .int 0])), (x1, aI cI 6 (fun _ => 0))] sz) (fun (_ : Unit) => [(x6, .inr (0, [.ref fa, .ref fb, .ref fc])), (fc, aI cI 6 (upd (upd (upd (upd (upd (upd (fun _ => 0) 0 0) 1 0) 2 0) 3 0) 4 0) 5 0)), (p, .inr (4, [.ref ps, .ref pc, .int 0, .int 0, .int 0, .int 0])), (x1, aI cI 6 (fun _ => 0))])) (va_A [(x6, .inr (0, [.ref fa, .ref fb, .ref fc])), (fc, aI cI 6 (fun _ => 0)), (p, .inr (4, [.ref ps, .ref pc, .int 0, .int 0, .int 0, .int 0])), (x1, aI cI 6 (fun _ => 0))] sz)) 0 0 (va_A [(x6, .inr (0, [.ref fa, .ref fb, .ref fc])), (fc, aI cI 6 (fun _ => 0)), (p, .inr (4, [.ref ps, .ref pc, .int 0, .int 0, .int 0, .int 0])), (x1, aI cI 6 (fun _ => 0))] sz) := by
  refine Met.ofW (cc := cX0_raise) (maxL := 6) (ret := (some .int)) (by decide) rfl ?_
  intro pp_ ee_ ss_ mm_ args below meth cc_ s₁ B hml hv
  obtain ⟨rfl, hsz, hP, hE, hD0⟩ := hv
  have hx := B.exec
  have hb := B.bytes
  have hr := B.returns
  have hts := atoms_spec (ws := wsX0_raise) B.pre
  have hown : ss_.vm.findClass RX0 = some mm_.cls := findClass_of_methodNamed B.named
  have hlocks := B.notSynchronized
  have hK := hE.1
  have hiX0 : ∀ w ∈ wsX00, w ∈ wsX0_raise := by decide +kernel
  subst hsz
  have hD := hD0.self (sz := ss_.heap.size)
  generalize hAe : va_A [(x6, .inr (0, [.ref fa, .ref fb, .ref fc])), (fc, aI cI 6 (fun _ => 0)), (p, .inr (4, [.ref ps, .ref pc, .int 0, .int 0, .int 0, .int 0])), (x1, aI cI 6 (fun _ => 0))] ss_.heap.size = A at hD ⊢
  have hA : ∀ q : Nat, ss_.heap.size ≤ q → A q := fun q h => by rw [← hAe]; exact Or.inr h
  have hS : va_S A ss_.heap ss_.heap [] := va_S.rf
  have hP : va_P (dC, dI) vwCl [(x6, .inr (0, [.ref fa, .ref fb, .ref fc])), (fc, aI cI 6 (fun _ => 0)), (p, .inr (4, [.ref ps, .ref pc, .int 0, .int 0, .int 0, .int 0])), (x1, aI cI 6 (fun _ => 0))] ss_.heap := hP
  have hl := lv_entry ([.ref x6, .ref p, .ref x1, .int c]) (n := 6) (Nat.le_of_ble_eq_true rfl)
  rw [lg_entry_eq]
  generalize (lg_sl ([.ref x6, .ref p, .ref x1, .int c]) ++ List.replicate (6 - (lg_sl ([.ref x6, .ref p, .ref x1, .int c])).length) Slot.unset).toArray = ls at hl ⊢
  have hl : lv_has ls 6 [(0, .ref x6), (1, .ref p), (2, .ref x1), (3, .int c)] := hl
  refine lv_iconst (v := 0) hx hb dX0_raise_0 (by decide) ?_
  refine lv_istore (lv' := [(4, .int 0), (0, .ref x6), (1, .ref p), (2, .ref x1), (3, .int c)]) hx hb dX0_raise_1 hl (by decide) rfl (fun ls hl => ?_)
  refine lv_iload hx hb dX0_raise_3 (lv_at hl 0 rfl) ?_
  refine lv_bipush (v := 6) hx hb dX0_raise_5 (by decide) ?_
  refine lv_icmp_ge (tgt := 27) hx hb dX0_raise_7 (by decide) (fun c_1 => absurd c_1 (by decide)) (fun _ => ?_)
  refine lv_aload_n hx hb dX0_raise_10 rfl (lv_at hl 1 rfl) ?_
  refine va_get (D := (dC, dI)) (ci := 0) (v := .ref fc) (C := RX0) (T := TX0) (N := 3) hx hb hts hiX0 hown hK hP 0 rfl rfl 2 (by decide) (hts (.fieldLink RX0 18 "WatchedPrograms$Flow" "lifted" "[I") (by decide +kernel)) (fun _ h9 => h9) rfl dX0_raise_11 ?_
  refine lv_iload hx hb dX0_raise_14 (lv_at hl 0 rfl) ?_
  refine lv_aload_n hx hb dX0_raise_16 rfl (lv_at hl 3 rfl) ?_
  refine lv_iload hx hb dX0_raise_17 (lv_at hl 0 rfl) ?_
  refine va_iald hx hb hK hP 3 0 rfl rfl (by unfold vp_in; decide) dX0_raise_19 ?_
  refine zi (y := 0) (by rfl) ?_
  refine va_iast hx hb hK hP hD hS 1 0 rfl rfl (by unfold vp_in; decide) dX0_raise_20 (fun H locs hP hD hS => ?_)
  have hP : va_P (dC, dI) vwCl [(x6, .inr (0, [.ref fa, .ref fb, .ref fc])), (fc, aI cI 6 (upd (fun _ => 0) 0 0)), (p, .inr (4, [.ref ps, .ref pc, .int 0, .int 0, .int 0, .int 0])), (x1, aI cI 6 (fun _ => 0))] H := hP
  have hD : va_D A [(x6, .inr (0, [.ref fa, .ref fb, .ref fc])), (fc, aI cI 6 (upd (fun _ => 0) 0 0)), (p, .inr (4, [.ref ps, .ref pc, .int 0, .int 0, .int 0, .int 0])), (x1, aI cI 6 (fun _ => 0))] := hD
  refine lv_iinc (v := 1) (lv' := [(4, .int 1), (0, .ref x6), (1, .ref p), (2, .ref x1), (3, .int c)]) hx hb dX0_raise_21 hl (k := 0) rfl (by decide) (by decide) rfl (fun ls hl => ?_)
  refine lv_goto (tgt := 3) hx hb dX0_raise_24 (by decide) ?_
  refine lv_iload hx hb dX0_raise_3 (lv_at hl 0 rfl) ?_
  refine lv_bipush (v := 6) hx hb dX0_raise_5 (by decide) ?_
  refine lv_icmp_ge (tgt := 27) hx hb dX0_raise_7 (by decide) (fun c_2 => absurd c_2 (by decide)) (fun _ => ?_)
  refine lv_aload_n hx hb dX0_raise_10 rfl (lv_at hl 1 rfl) ?_
  refine va_get (D := (dC, dI)) (ci := 0) (v := .ref fc) (C := RX0) (T := TX0) (N := 3) hx hb hts hiX0 hown hK hP 0 rfl rfl 2 (by decide) (hts (.fieldLink RX0 18 "WatchedPrograms$Flow" "lifted" "[I") (by decide +kernel)) (fun _ h9 => h9) rfl dX0_raise_11 ?_
  refine lv_iload hx hb dX0_raise_14 (lv_at hl 0 rfl) ?_
  refine lv_aload_n hx hb dX0_raise_16 rfl (lv_at hl 3 rfl) ?_
  refine lv_iload hx hb dX0_raise_17 (lv_at hl 0 rfl) ?_
  refine va_iald hx hb hK hP 3 0 rfl rfl (by unfold vp_in; decide) dX0_raise_19 ?_
  refine zi (y := 0) (by rfl) ?_
  refine va_iast hx hb hK hP hD hS 1 0 rfl rfl (by unfold vp_in; decide) dX0_raise_20 (fun H locs hP hD hS => ?_)
  have hP : va_P (dC, dI) vwCl [(x6, .inr (0, [.ref fa, .ref fb, .ref fc])), (fc, aI cI 6 (upd (upd (fun _ => 0) 0 0) 1 0)), (p, .inr (4, [.ref ps, .ref pc, .int 0, .int 0, .int 0, .int 0])), (x1, aI cI 6 (fun _ => 0))] H := hP
  have hD : va_D A [(x6, .inr (0, [.ref fa, .ref fb, .ref fc])), (fc, aI cI 6 (upd (upd (fun _ => 0) 0 0) 1 0)), (p, .inr (4, [.ref ps, .ref pc, .int 0, .int 0, .int 0, .int 0])), (x1, aI cI 6 (fun _ => 0))] := hD
  refine lv_iinc (v := 2) (lv' := [(4, .int 2), (0, .ref x6), (1, .ref p), (2, .ref x1), (3, .int c)]) hx hb dX0_raise_21 hl (k := 0) rfl (by decide) (by decide) rfl (fun ls hl => ?_)
  refine lv_goto (tgt := 3) hx hb dX0_raise_24 (by decide) ?_
  refine lv_iload hx hb dX0_raise_3 (lv_at hl 0 rfl) ?_
  refine lv_bipush (v := 6) hx hb dX0_raise_5 (by decide) ?_
  refine lv_icmp_ge (tgt := 27) hx hb dX0_raise_7 (by decide) (fun c_3 => absurd c_3 (by decide)) (fun _ => ?_)
  refine lv_aload_n hx hb dX0_raise_10 rfl (lv_at hl 1 rfl) ?_
  refine va_get (D := (dC, dI)) (ci := 0) (v := .ref fc) (C := RX0) (T := TX0) (N := 3) hx hb hts hiX0 hown hK hP 0 rfl rfl 2 (by decide) (hts (.fieldLink RX0 18 "WatchedPrograms$Flow" "lifted" "[I") (by decide +kernel)) (fun _ h9 => h9) rfl dX0_raise_11 ?_
  refine lv_iload hx hb dX0_raise_14 (lv_at hl 0 rfl) ?_
  refine lv_aload_n hx hb dX0_raise_16 rfl (lv_at hl 3 rfl) ?_
  refine lv_iload hx hb dX0_raise_17 (lv_at hl 0 rfl) ?_
  refine va_iald hx hb hK hP 3 0 rfl rfl (by unfold vp_in; decide) dX0_raise_19 ?_
  refine zi (y := 0) (by rfl) ?_
  refine va_iast hx hb hK hP hD hS 1 0 rfl rfl (by unfold vp_in; decide) dX0_raise_20 (fun H locs hP hD hS => ?_)
  have hP : va_P (dC, dI) vwCl [(x6, .inr (0, [.ref fa, .ref fb, .ref fc])), (fc, aI cI 6 (upd (upd (upd (fun _ => 0) 0 0) 1 0) 2 0)), (p, .inr (4, [.ref ps, .ref pc, .int 0, .int 0, .int 0, .int 0])), (x1, aI cI 6 (fun _ => 0))] H := hP
  have hD : va_D A [(x6, .inr (0, [.ref fa, .ref fb, .ref fc])), (fc, aI cI 6 (upd (upd (upd (fun _ => 0) 0 0) 1 0) 2 0)), (p, .inr (4, [.ref ps, .ref pc, .int 0, .int 0, .int 0, .int 0])), (x1, aI cI 6 (fun _ => 0))] := hD
  refine lv_iinc (v := 3) (lv' := [(4, .int 3), (0, .ref x6), (1, .ref p), (2, .ref x1), (3, .int c)]) hx hb dX0_raise_21 hl (k := 0) rfl (by decide) (by decide) rfl (fun ls hl => ?_)
  refine lv_goto (tgt := 3) hx hb dX0_raise_24 (by decide) ?_
  refine lv_iload hx hb dX0_raise_3 (lv_at hl 0 rfl) ?_
  refine lv_bipush (v := 6) hx hb dX0_raise_5 (by decide) ?_
  refine lv_icmp_ge (tgt := 27) hx hb dX0_raise_7 (by decide) (fun c_4 => absurd c_4 (by decide)) (fun _ => ?_)
  refine lv_aload_n hx hb dX0_raise_10 rfl (lv_at hl 1 rfl) ?_
  refine va_get (D := (dC, dI)) (ci := 0) (v := .ref fc) (C := RX0) (T := TX0) (N := 3) hx hb hts hiX0 hown hK hP 0 rfl rfl 2 (by decide) (hts (.fieldLink RX0 18 "WatchedPrograms$Flow" "lifted" "[I") (by decide +kernel)) (fun _ h9 => h9) rfl dX0_raise_11 ?_
  refine lv_iload hx hb dX0_raise_14 (lv_at hl 0 rfl) ?_
  refine lv_aload_n hx hb dX0_raise_16 rfl (lv_at hl 3 rfl) ?_
  refine lv_iload hx hb dX0_raise_17 (lv_at hl 0 rfl) ?_
  refine va_iald hx hb hK hP 3 0 rfl rfl (by unfold vp_in; decide) dX0_raise_19 ?_
  refine zi (y := 0) (by rfl) ?_
  refine va_iast hx hb hK hP hD hS 1 0 rfl rfl (by unfold vp_in; decide) dX0_raise_20 (fun H locs hP hD hS => ?_)
  have hP : va_P (dC, dI) vwCl [(x6, .inr (0, [.ref fa, .ref fb, .ref fc])), (fc, aI cI 6 (upd (upd (upd (upd (fun _ => 0) 0 0) 1 0) 2 0) 3 0)), (p, .inr (4, [.ref ps, .ref pc, .int 0, .int 0, .int 0, .int 0])), (x1, aI cI 6 (fun _ => 0))] H := hP
  have hD : va_D A [(x6, .inr (0, [.ref fa, .ref fb, .ref fc])), (fc, aI cI 6 (upd (upd (upd (upd (fun _ => 0) 0 0) 1 0) 2 0) 3 0)), (p, .inr (4, [.ref ps, .ref pc, .int 0, .int 0, .int 0, .int 0])), (x1, aI cI 6 (fun _ => 0))] := hD
  refine lv_iinc (v := 4) (lv' := [(4, .int 4), (0, .ref x6), (1, .ref p), (2, .ref x1), (3, .int c)]) hx hb dX0_raise_21 hl (k := 0) rfl (by decide) (by decide) rfl (fun ls hl => ?_)
  refine lv_goto (tgt := 3) hx hb dX0_raise_24 (by decide) ?_
  refine lv_iload hx hb dX0_raise_3 (lv_at hl 0 rfl) ?_
  refine lv_bipush (v := 6) hx hb dX0_raise_5 (by decide) ?_
  refine lv_icmp_ge (tgt := 27) hx hb dX0_raise_7 (by decide) (fun c_5 => absurd c_5 (by decide)) (fun _ => ?_)
  refine lv_aload_n hx hb dX0_raise_10 rfl (lv_at hl 1 rfl) ?_
  refine va_get (D := (dC, dI)) (ci := 0) (v := .ref fc) (C := RX0) (T := TX0) (N := 3) hx hb hts hiX0 hown hK hP 0 rfl rfl 2 (by decide) (hts (.fieldLink RX0 18 "WatchedPrograms$Flow" "lifted" "[I") (by decide +kernel)) (fun _ h9 => h9) rfl dX0_raise_11 ?_
  refine lv_iload hx hb dX0_raise_14 (lv_at hl 0 rfl) ?_
  refine lv_aload_n hx hb dX0_raise_16 rfl (lv_at hl 3 rfl) ?_
  refine lv_iload hx hb dX0_raise_17 (lv_at hl 0 rfl) ?_
  refine va_iald hx hb hK hP 3 0 rfl rfl (by unfold vp_in; decide) dX0_raise_19 ?_
  refine zi (y := 0) (by rfl) ?_
  refine va_iast hx hb hK hP hD hS 1 0 rfl rfl (by unfold vp_in; decide) dX0_raise_20 (fun H locs hP hD hS => ?_)
  have hP : va_P (dC, dI) vwCl [(x6, .inr (0, [.ref fa, .ref fb, .ref fc])), (fc, aI cI 6 (upd (upd (upd (upd (upd (fun _ => 0) 0 0) 1 0) 2 0) 3 0) 4 0)), (p, .inr (4, [.ref ps, .ref pc, .int 0, .int 0, .int 0, .int 0])), (x1, aI cI 6 (fun _ => 0))] H := hP
  have hD : va_D A [(x6, .inr (0, [.ref fa, .ref fb, .ref fc])), (fc, aI cI 6 (upd (upd (upd (upd (upd (fun _ => 0) 0 0) 1 0) 2 0) 3 0) 4 0)), (p, .inr (4, [.ref ps, .ref pc, .int 0, .int 0, .int 0, .int 0])), (x1, aI cI 6 (fun _ => 0))] := hD
  refine lv_iinc (v := 5) (lv' := [(4, .int 5), (0, .ref x6), (1, .ref p), (2, .ref x1), (3, .int c)]) hx hb dX0_raise_21 hl (k := 0) rfl (by decide) (by decide) rfl (fun ls hl => ?_)
  refine lv_goto (tgt := 3) hx hb dX0_raise_24 (by decide) ?_
  refine lv_iload hx hb dX0_raise_3 (lv_at hl 0 rfl) ?_
  refine lv_bipush (v := 6) hx hb dX0_raise_5 (by decide) ?_
  refine lv_icmp_ge (tgt := 27) hx hb dX0_raise_7 (by decide) (fun c_6 => absurd c_6 (by decide)) (fun _ => ?_)
  refine lv_aload_n hx hb dX0_raise_10 rfl (lv_at hl 1 rfl) ?_
  refine va_get (D := (dC, dI)) (ci := 0) (v := .ref fc) (C := RX0) (T := TX0) (N := 3) hx hb hts hiX0 hown hK hP 0 rfl rfl 2 (by decide) (hts (.fieldLink RX0 18 "WatchedPrograms$Flow" "lifted" "[I") (by decide +kernel)) (fun _ h9 => h9) rfl dX0_raise_11 ?_
  refine lv_iload hx hb dX0_raise_14 (lv_at hl 0 rfl) ?_
  refine lv_aload_n hx hb dX0_raise_16 rfl (lv_at hl 3 rfl) ?_
  refine lv_iload hx hb dX0_raise_17 (lv_at hl 0 rfl) ?_
  refine va_iald hx hb hK hP 3 0 rfl rfl (by unfold vp_in; decide) dX0_raise_19 ?_
  refine zi (y := 0) (by rfl) ?_
  refine va_iast hx hb hK hP hD hS 1 0 rfl rfl (by unfold vp_in; decide) dX0_raise_20 (fun H locs hP hD hS => ?_)
  have hP : va_P (dC, dI) vwCl [(x6, .inr (0, [.ref fa, .ref fb, .ref fc])), (fc, aI cI 6 (upd (upd (upd (upd (upd (upd (fun _ => 0) 0 0) 1 0) 2 0) 3 0) 4 0) 5 0)), (p, .inr (4, [.ref ps, .ref pc, .int 0, .int 0, .int 0, .int 0])), (x1, aI cI 6 (fun _ => 0))] H := hP
  have hD : va_D A [(x6, .inr (0, [.ref fa, .ref fb, .ref fc])), (fc, aI cI 6 (upd (upd (upd (upd (upd (upd (fun _ => 0) 0 0) 1 0) 2 0) 3 0) 4 0) 5 0)), (p, .inr (4, [.ref ps, .ref pc, .int 0, .int 0, .int 0, .int 0])), (x1, aI cI 6 (fun _ => 0))] := hD
  refine lv_iinc (v := 6) (lv' := [(4, .int 6), (0, .ref x6), (1, .ref p), (2, .ref x1), (3, .int c)]) hx hb dX0_raise_21 hl (k := 0) rfl (by decide) (by decide) rfl (fun ls hl => ?_)
  refine lv_goto (tgt := 3) hx hb dX0_raise_24 (by decide) ?_
  refine lv_iload hx hb dX0_raise_3 (lv_at hl 0 rfl) ?_
  refine lv_bipush (v := 6) hx hb dX0_raise_5 (by decide) ?_
  refine lv_icmp_ge (tgt := 27) hx hb dX0_raise_7 (by decide) (fun _ => ?_) (fun c_7 => absurd (by decide) c_7)
  refine lv_iconst (v := 1) hx hb dX0_raise_27 (by decide) ?_
  refine lv_istore (lv' := [(4, .int 1), (0, .ref x6), (1, .ref p), (2, .ref x1), (3, .int c)]) hx hb dX0_raise_28 hl (by decide) rfl (fun ls hl => ?_)
  refine lv_iconst (v := 0) hx hb dX0_raise_30 (by decide) ?_
  refine lv_istore (lv' := [(5, .int 0), (4, .int 1), (0, .ref x6), (1, .ref p), (2, .ref x1), (3, .int c)]) hx hb dX0_raise_31 hl (by decide) rfl (fun ls hl => ?_)
  refine lv_iload hx hb dX0_raise_33 (lv_at hl 0 rfl) ?_
  refine lv_bipush (v := 13) hx hb dX0_raise_35 (by decide) ?_
  refine lv_icmp_ge (tgt := 67) hx hb dX0_raise_37 (by decide) (fun c_8 => absurd c_8 (by decide)) (fun _ => ?_)
  refine lv_iload hx hb dX0_raise_40 (lv_at hl 1 rfl) ?_
  refine lv_if_eq (tgt := 67) hx hb dX0_raise_42 (by decide) (fun c_9 => absurd c_9 (by decide)) (fun _ => ?_)
  refine lv_aload_n hx hb dX0_raise_45 rfl (lv_at hl 2 rfl) ?_
  refine lv_aload_n hx hb dX0_raise_46 rfl (lv_at hl 3 rfl) ?_
  refine lv_aload_n hx hb dX0_raise_47 rfl (lv_at hl 2 rfl) ?_
  refine va_get (D := (dC, dI)) (ci := 0) (v := .ref fc) (C := RX0) (T := TX0) (N := 3) hx hb hts hiX0 hown hK hP 0 rfl rfl 2 (by decide) (hts (.fieldLink RX0 18 "WatchedPrograms$Flow" "lifted" "[I") (by decide +kernel)) (fun _ h9 => h9) rfl dX0_raise_48 ?_
  refine va_csv (va_Run.run (va_runV (As := [.ref p, .ref fc]) (rest := []) ⟨hx, hb, hml, hown, hts⟩ (c_measure l dC dI cI cJ cS  x6 p fc fa fb fc ps pc ) (cwV 2 hts gX0_raise_X0_measure rfl rfl rfl (by decide +kernel) ⟨Nat.le_of_ble_eq_true rfl, Nat.le_of_ble_eq_true rfl⟩) (preRV (hP.sub (ws' := [(x6, .inr (0, [.ref fa, .ref fb, .ref fc])), (p, .inr (4, [.ref ps, .ref pc, .int 0, .int 0, .int 0, .int 0]))]) [0, 2] rfl) hE 0 (ci := 0) rfl rfl) rfl rfl hl.1 rfl (lv_room (Nat.le_of_ble_eq_true rfl)) dX0_raise_51 ⟨by decide +kernel, by decide +kernel⟩)) (fun hr_11 => ?_)
  refine lv_aload_n hx hb dX0_raise_54 rfl (lv_at hl 2 rfl) ?_
  refine lv_aload_n hx hb dX0_raise_55 rfl (lv_at hl 3 rfl) ?_
  refine vp_callSi (va_Run.run (va_runV (As := [.ref p]) (rest := []) ⟨hx, hb, hml, hown, hts⟩ (c_raiseLeaking l dC dI cI cJ cS  x6 p fa fb fc ps pc ) (cwV 1 hts gX0_raise_X0_raiseLeaking rfl rfl rfl (by decide +kernel) ⟨Nat.le_of_ble_eq_true rfl, Nat.le_of_ble_eq_true rfl⟩) (preRV (hP.sub (ws' := [(x6, .inr (0, [.ref fa, .ref fb, .ref fc])), (p, .inr (4, [.ref ps, .ref pc, .int 0, .int 0, .int 0, .int 0]))]) [0, 2] rfl) hE 0 (ci := 0) rfl rfl) rfl rfl hl.1 rfl (lv_room (Nat.le_of_ble_eq_true rfl)) dX0_raise_56 ⟨by decide +kernel, by decide +kernel⟩)) (fun r_12 hr_13 => ?_)
  obtain rfl := hr_13
  refine lv_istore (lv' := [(4, .int 0), (5, .int 0), (0, .ref x6), (1, .ref p), (2, .ref x1), (3, .int c)]) hx hb dX0_raise_59 hl (by decide) rfl (fun ls hl => ?_)
  refine lv_iinc (v := 1) (lv' := [(5, .int 1), (4, .int 0), (0, .ref x6), (1, .ref p), (2, .ref x1), (3, .int c)]) hx hb dX0_raise_61 hl (k := 1) rfl (by decide) (by decide) rfl (fun ls hl => ?_)
  refine lv_goto (tgt := 33) hx hb dX0_raise_64 (by decide) ?_
  refine lv_iload hx hb dX0_raise_33 (lv_at hl 0 rfl) ?_
  refine lv_bipush (v := 13) hx hb dX0_raise_35 (by decide) ?_
  refine lv_icmp_ge (tgt := 67) hx hb dX0_raise_37 (by decide) (fun c_14 => absurd c_14 (by decide)) (fun _ => ?_)
  refine lv_iload hx hb dX0_raise_40 (lv_at hl 1 rfl) ?_
  refine lv_if_eq (tgt := 67) hx hb dX0_raise_42 (by decide) (fun _ => ?_) (fun c_15 => absurd (by decide) c_15)
  refine lv_aload_n hx hb dX0_raise_67 rfl (lv_at hl 2 rfl) ?_
  refine va_get (D := (dC, dI)) (ci := 0) (v := .ref fc) (C := RX0) (T := TX0) (N := 3) hx hb hts hiX0 hown hK hP 0 rfl rfl 2 (by decide) (hts (.fieldLink RX0 18 "WatchedPrograms$Flow" "lifted" "[I") (by decide +kernel)) (fun _ h9 => h9) rfl dX0_raise_68 ?_
  refine lv_iload_n hx hb dX0_raise_71 rfl (lv_at hl 5 rfl) ?_
  refine va_iald hx hb hK hP 1 0 rfl rfl (vp_in_r 6 hc (by decide)) dX0_raise_72 ?_
  refine zi (y := 0) (raise_rd hc) ?_
  have hP9 := hP.sub (ws' := [(x6, .inr (0, [.ref fa, .ref fb, .ref fc])), (fc, aI cI 6 (upd (upd (upd (upd (upd (upd (fun _ => 0) 0 0) 1 0) 2 0) 3 0) 4 0) 5 0)), (p, .inr (4, [.ref ps, .ref pc, .int 0, .int 0, .int 0, .int 0])), (x1, aI cI 6 (fun _ => 0))]) [0, 1, 2, 3] rfl
  have hD9 := hD.sub (ws' := [(x6, .inr (0, [.ref fa, .ref fb, .ref fc])), (fc, aI cI 6 (upd (upd (upd (upd (upd (upd (fun _ => 0) 0 0) 1 0) 2 0) 3 0) 4 0) 5 0)), (p, .inr (4, [.ref ps, .ref pc, .int 0, .int 0, .int 0, .int 0])), (x1, aI cI 6 (fun _ => 0))]) [0, 1, 2, 3] (by decide) rfl
  exact W.iret (v := 0) hx hb hr (fun tt_ ht hW => ⟨⟨_, (), rfl, rfl, by rw [ht]; exact hP9, hD9⟩, hS.F ht⟩) hS.2.2 dX0_raise_73
set_option maxHeartbeats 1000000 in
set_option maxRecDepth 100000 in
theorem c_flows (l : Launch) (dC : Nat → ClassId) (dI : Nat → Nat → Nat) (cI cJ cS : ClassId) (h : Nat) (q : Int32) (x1 : Nat) (x2 : Nat) (x3 : Nat) (x4 : Nat) (x5 : Nat) (x6 : Nat) (x7 : Nat) (fa : Nat) (fb : Nat) (fc : Nat) (x7s : Nat) (x7c : Nat)  : Met l yX9_flows wsX9_flows ({ frames := 1, cells := 0, slots := 0, locals := 24 }) (va_Pc [.ref h, .int q] (PR dC dI cI cJ cS [(h, .inr (9, [.ref x1, .ref x2, .ref x3, .ref x4, .ref x5, .ref x6, .ref x7])), (x6, .inr (0, [.ref fa, .ref fb, .ref fc])), (x7, .inr (4, [.ref x7s, .ref x7c, .int 0, .int 0, .int 0, .int 0]))])) (vp_Si (fun r : Int32 => r = okE (inR q 0 1) (if q = 0 then 0 else (-9)))) 0 0 (fun _ => False) := by
  refine Met.ofW (cc := cX9_flows) (maxL := 2) (ret := (some .int)) (by decide) rfl ?_
  intro pp_ ee_ ss_ mm_ args below meth cc_ s₁ B hml hv
  obtain ⟨rfl, hP, hE⟩ := hv
  have hx := B.exec
  have hb := B.bytes
  have hr := B.returns
  have hts := atoms_spec (ws := wsX9_flows) B.pre
  have hown : ss_.vm.findClass RX9 = some mm_.cls := findClass_of_methodNamed B.named
  have hlocks := B.notSynchronized
  have hK := hE.1
  have hiX9 : ∀ w ∈ wsX90, w ∈ wsX9_flows := by decide +kernel
  have hP : va_P (dC, dI) vwCl [(h, .inr (9, [.ref x1, .ref x2, .ref x3, .ref x4, .ref x5, .ref x6, .ref x7])), (x6, .inr (0, [.ref fa, .ref fb, .ref fc])), (x7, .inr (4, [.ref x7s, .ref x7c, .int 0, .int 0, .int 0, .int 0]))] ss_.heap := hP
  have hl := lv_entry ([.ref h, .int q]) (n := 2) (Nat.le_of_ble_eq_true rfl)
  rw [lg_entry_eq]
  generalize (lg_sl ([.ref h, .int q]) ++ List.replicate (2 - (lg_sl ([.ref h, .int q])).length) Slot.unset).toArray = ls at hl ⊢
  have hl : lv_has ls 2 [(0, .ref h), (1, .int q)] := hl
  refine lv_iload_n hx hb dX9_flows_0 rfl (lv_at hl 1 rfl) ?_
  refine vp_callSi (va_Run.run (va_runS (As := [.int q]) (rest := []) ⟨hx, hb, hml, hown, hts⟩ (c_isFlag l dC dI cI cJ cS  q ) (va_cwS 1 hts gX9_flows_X9_isFlag rfl rfl rfl (by decide +kernel) ⟨Nat.le_of_ble_eq_true rfl, Nat.le_of_ble_eq_true rfl⟩) (preR (hP.sub (ws' := []) [] rfl) hE) rfl rfl hl.1 rfl (lv_room (Nat.le_of_ble_eq_true rfl)) dX9_flows_1 ⟨by decide +kernel, by decide +kernel⟩)) (fun r_1 hr_2 => ?_)
  refine lv_if_ne (tgt := 9) hx hb dX9_flows_4 (by decide) (fun c_3 => ?_) (fun c_3 => ?_)
  · have k_4 : inR q 0 1 := bI_1 hr_2 c_3
    refine lv_aload_n hx hb dX9_flows_9 rfl (lv_at hl 0 rfl) ?_
    refine va_get (D := (dC, dI)) (ci := 9) (v := .ref x6) (C := RX9) (T := TX9) (N := 7) hx hb hts hiX9 hown hK hP 0 rfl rfl 5 (by decide) (hts (.fieldLink RX9 44 "WatchedPrograms" "flow" "LWatchedPrograms$Flow;") (by decide +kernel)) (fun _ h9 => h9) rfl dX9_flows_10 ?_
    refine lv_aload_n hx hb dX9_flows_13 rfl (lv_at hl 0 rfl) ?_
    refine va_get (D := (dC, dI)) (ci := 9) (v := .ref x7) (C := RX9) (T := TX9) (N := 7) hx hb hts hiX9 hown hK hP 0 rfl rfl 6 (by decide) (hts (.fieldLink RX9 51 "WatchedPrograms" "program" "LWatchedPrograms$Program;") (by decide +kernel)) (fun _ h9 => h9) rfl dX9_flows_14 ?_
    refine lv_aload_n hx hb dX9_flows_17 rfl (lv_at hl 0 rfl) ?_
    refine va_get (D := (dC, dI)) (ci := 9) (v := .ref x1) (C := RX9) (T := TX9) (N := 7) hx hb hts hiX9 hown hK hP 0 rfl rfl 0 (by decide) (hts (.fieldLink RX9 9 "WatchedPrograms" "levels" "[I") (by decide +kernel)) (fun _ h9 => h9) rfl dX9_flows_18 ?_
    refine va_csv (va_Run.run (va_runV (As := [.ref x7, .ref x1]) (rest := []) ⟨hx, hb, hml, hown, hts⟩ (c_measure l dC dI cI cJ cS  x6 x7 x1 fa fb fc x7s x7c ) (cwV 2 hts gX9_flows_X0_measure rfl rfl rfl (by decide +kernel) ⟨Nat.le_of_ble_eq_true rfl, Nat.le_of_ble_eq_true rfl⟩) (preRV (hP.sub (ws' := [(x6, .inr (0, [.ref fa, .ref fb, .ref fc])), (x7, .inr (4, [.ref x7s, .ref x7c, .int 0, .int 0, .int 0, .int 0]))]) [1, 2] rfl) hE 0 (ci := 0) rfl rfl) rfl rfl hl.1 rfl (lv_room (Nat.le_of_ble_eq_true rfl)) dX9_flows_21 ⟨by decide +kernel, by decide +kernel⟩)) (fun hr_6 => ?_)
    refine lv_iload_n hx hb dX9_flows_24 rfl (lv_at hl 1 rfl) ?_
    refine lv_if_ne (tgt := 46) hx hb dX9_flows_25 (by decide) (fun c_7 => ?_) (fun c_7 => ?_)
    · refine lv_aload_n hx hb dX9_flows_46 rfl (lv_at hl 0 rfl) ?_
      refine va_get (D := (dC, dI)) (ci := 9) (v := .ref x6) (C := RX9) (T := TX9) (N := 7) hx hb hts hiX9 hown hK hP 0 rfl rfl 5 (by decide) (hts (.fieldLink RX9 44 "WatchedPrograms" "flow" "LWatchedPrograms$Flow;") (by decide +kernel)) (fun _ h9 => h9) rfl dX9_flows_47 ?_
      refine lv_aload_n hx hb dX9_flows_50 rfl (lv_at hl 0 rfl) ?_
      refine va_get (D := (dC, dI)) (ci := 9) (v := .ref x7) (C := RX9) (T := TX9) (N := 7) hx hb hts hiX9 hown hK hP 0 rfl rfl 6 (by decide) (hts (.fieldLink RX9 51 "WatchedPrograms" "program" "LWatchedPrograms$Program;") (by decide +kernel)) (fun _ h9 => h9) rfl dX9_flows_51 ?_
      refine lv_aload_n hx hb dX9_flows_54 rfl (lv_at hl 0 rfl) ?_
      refine va_get (D := (dC, dI)) (ci := 9) (v := .ref x1) (C := RX9) (T := TX9) (N := 7) hx hb hts hiX9 hown hK hP 0 rfl rfl 0 (by decide) (hts (.fieldLink RX9 9 "WatchedPrograms" "levels" "[I") (by decide +kernel)) (fun _ h9 => h9) rfl dX9_flows_55 ?_
      refine vp_callSi (va_Run.run (va_runV (As := [.ref x7, .ref x1]) (rest := []) ⟨hx, hb, hml, hown, hts⟩ (c_firstLeak l dC dI cI cJ cS  x6 x7 x1 fa fb fc x7s x7c ) (cwV 2 hts gX9_flows_X0_firstLeak rfl rfl rfl (by decide +kernel) ⟨Nat.le_of_ble_eq_true rfl, Nat.le_of_ble_eq_true rfl⟩) (preRV (hP.sub (ws' := [(x6, .inr (0, [.ref fa, .ref fb, .ref fc])), (x7, .inr (4, [.ref x7s, .ref x7c, .int 0, .int 0, .int 0, .int 0]))]) [1, 2] rfl) hE 0 (ci := 0) rfl rfl) rfl rfl hl.1 rfl (lv_room (Nat.le_of_ble_eq_true rfl)) dX9_flows_58 ⟨by decide +kernel, by decide +kernel⟩)) (fun r_8 hr_9 => ?_)
      obtain rfl := hr_9
      exact W.iret (v := (-9)) hx hb hr (fun tt_ ht hW => ⟨_, rfl, (by rw [okE, if_pos (by simp only [inR, Int32.lt_iff_toInt_lt, Int32.le_iff_toInt_le, ← Int32.toInt_inj, tI_0, tI_1, tI_2, tI_3, tI_4, tI_5, tI_6, tI_7, tI_8, tI_20, tI_30, tI_300, tI_400, tI_4095, tI_4096, tI_m1, tI_m2, tI_m3, tI_m9] at k_4 c_7 ⊢ <;> omega)]; exact (if_neg c_7).symm), ht⟩) (fun _ h => by cases h) dX9_flows_61
    · refine lv_aload_n hx hb dX9_flows_28 rfl (lv_at hl 0 rfl) ?_
      refine va_get (D := (dC, dI)) (ci := 9) (v := .ref x6) (C := RX9) (T := TX9) (N := 7) hx hb hts hiX9 hown hK hP 0 rfl rfl 5 (by decide) (hts (.fieldLink RX9 44 "WatchedPrograms" "flow" "LWatchedPrograms$Flow;") (by decide +kernel)) (fun _ h9 => h9) rfl dX9_flows_29 ?_
      refine lv_aload_n hx hb dX9_flows_32 rfl (lv_at hl 0 rfl) ?_
      refine va_get (D := (dC, dI)) (ci := 9) (v := .ref x7) (C := RX9) (T := TX9) (N := 7) hx hb hts hiX9 hown hK hP 0 rfl rfl 6 (by decide) (hts (.fieldLink RX9 51 "WatchedPrograms" "program" "LWatchedPrograms$Program;") (by decide +kernel)) (fun _ h9 => h9) rfl dX9_flows_33 ?_
      refine lv_aload_n hx hb dX9_flows_36 rfl (lv_at hl 0 rfl) ?_
      refine va_get (D := (dC, dI)) (ci := 9) (v := .ref x1) (C := RX9) (T := TX9) (N := 7) hx hb hts hiX9 hown hK hP 0 rfl rfl 0 (by decide) (hts (.fieldLink RX9 9 "WatchedPrograms" "levels" "[I") (by decide +kernel)) (fun _ h9 => h9) rfl dX9_flows_37 ?_
      refine vp_callSi (va_Run.run (va_runV (As := [.ref x7, .ref x1]) (rest := []) ⟨hx, hb, hml, hown, hts⟩ (c_countLeaks l dC dI cI cJ cS  x6 x7 x1 fa fb fc x7s x7c ) (cwV 2 hts gX9_flows_X0_countLeaks rfl rfl rfl (by decide +kernel) ⟨Nat.le_of_ble_eq_true rfl, Nat.le_of_ble_eq_true rfl⟩) (preRV (hP.sub (ws' := [(x6, .inr (0, [.ref fa, .ref fb, .ref fc])), (x7, .inr (4, [.ref x7s, .ref x7c, .int 0, .int 0, .int 0, .int 0]))]) [1, 2] rfl) hE 0 (ci := 0) rfl rfl) rfl rfl hl.1 rfl (lv_room (Nat.le_of_ble_eq_true rfl)) dX9_flows_40 ⟨by decide +kernel, by decide +kernel⟩)) (fun r_10 hr_11 => ?_)
      obtain rfl := hr_11
      refine lv_goto (tgt := 61) hx hb dX9_flows_43 (by decide) ?_
      exact W.iret (v := 0) hx hb hr (fun tt_ ht hW => ⟨_, rfl, (by rw [okE, if_pos (by simp only [inR, Int32.lt_iff_toInt_lt, Int32.le_iff_toInt_le, ← Int32.toInt_inj, tI_0, tI_1, tI_2, tI_3, tI_4, tI_5, tI_6, tI_7, tI_8, tI_20, tI_30, tI_300, tI_400, tI_4095, tI_4096, tI_m1, tI_m2, tI_m3, tI_m9] at k_4 c_7 ⊢ <;> omega)]; exact (if_pos c_7).symm), ht⟩) (fun _ h => by cases h) dX9_flows_61
  · have k_12 : ¬ (inR q 0 1) := bI_0 hr_2 c_3
    refine lv_iconst (v := (-1)) hx hb dX9_flows_7 (by decide) ?_
    exact W.iret (v := (-1)) hx hb hr (fun tt_ ht hW => ⟨_, rfl, (by rw [okE, if_neg (by simp only [inR, Int32.lt_iff_toInt_lt, Int32.le_iff_toInt_le, ← Int32.toInt_inj, tI_0, tI_1, tI_2, tI_3, tI_4, tI_5, tI_6, tI_7, tI_8, tI_20, tI_30, tI_300, tI_400, tI_4095, tI_4096, tI_m1, tI_m2, tI_m3, tI_m9] at k_12 ⊢ <;> omega)]), ht⟩) (fun _ h => by cases h) dX9_flows_8
set_option maxHeartbeats 1000000 in
set_option maxRecDepth 100000 in
theorem c_statement (l : Launch) (dC : Nat → ClassId) (dI : Nat → Nat → Nat) (cI cJ cS : ClassId) (h : Nat) (i : Int32) (q : Int32) (x1 : Nat) (x2 : Nat) (x3 : Nat) (x4 : Nat) (x5 : Nat) (x6 : Nat) (x7 : Nat) (x7s : Nat) (x7c : Nat)  : Met l yX9_statement wsX9_statement ({ frames := 0, cells := 0, slots := 0, locals := 0 }) (va_Pc [.ref h, .int i, .int q] (PR dC dI cI cJ cS [(h, .inr (9, [.ref x1, .ref x2, .ref x3, .ref x4, .ref x5, .ref x6, .ref x7])), (x7, .inr (4, [.ref x7s, .ref x7c, .int 0, .int 0, .int 0, .int 0]))])) (vp_Si (fun r : Int32 => r = -1)) 0 0 (fun _ => False) := by
  refine Met.ofW (cc := cX9_statement) (maxL := 3) (ret := (some .int)) (by decide) rfl ?_
  intro pp_ ee_ ss_ mm_ args below meth cc_ s₁ B hml hv
  obtain ⟨rfl, hP, hE⟩ := hv
  have hx := B.exec
  have hb := B.bytes
  have hr := B.returns
  have hts := atoms_spec (ws := wsX9_statement) B.pre
  have hown : ss_.vm.findClass RX9 = some mm_.cls := findClass_of_methodNamed B.named
  have hlocks := B.notSynchronized
  have hK := hE.1
  have hiX4 : ∀ w ∈ wsX40, w ∈ wsX9_statement := by decide +kernel
  have hiX9 : ∀ w ∈ wsX90, w ∈ wsX9_statement := by decide +kernel
  have hP : va_P (dC, dI) vwCl [(h, .inr (9, [.ref x1, .ref x2, .ref x3, .ref x4, .ref x5, .ref x6, .ref x7])), (x7, .inr (4, [.ref x7s, .ref x7c, .int 0, .int 0, .int 0, .int 0]))] ss_.heap := hP
  have hl := lv_entry ([.ref h, .int i, .int q]) (n := 3) (Nat.le_of_ble_eq_true rfl)
  rw [lg_entry_eq]
  generalize (lg_sl ([.ref h, .int i, .int q]) ++ List.replicate (3 - (lg_sl ([.ref h, .int i, .int q])).length) Slot.unset).toArray = ls at hl ⊢
  have hl : lv_has ls 3 [(0, .ref h), (1, .int i), (2, .int q)] := hl
  refine lv_iload_n hx hb dX9_statement_0 rfl (lv_at hl 1 rfl) ?_
  refine lv_if_lt (tgt := 24) hx hb dX9_statement_1 (by decide) (fun c_1 => ?_) (fun c_1 => ?_)
  · refine lv_iconst (v := (-1)) hx hb dX9_statement_24 (by decide) ?_
    exact W.iret (v := (-1)) hx hb hr (fun tt_ ht hW => ⟨_, rfl, rfl, ht⟩) (fun _ h => by cases h) dX9_statement_25
  · refine lv_iload_n hx hb dX9_statement_4 rfl (lv_at hl 1 rfl) ?_
    refine lv_aload_n hx hb dX9_statement_5 rfl (lv_at hl 0 rfl) ?_
    refine va_get (D := (dC, dI)) (ci := 9) (v := .ref x7) (C := RX9) (T := TX9) (N := 7) hx hb hts hiX9 hown hK hP 0 rfl rfl 6 (by decide) (hts (.fieldLink RX9 51 "WatchedPrograms" "program" "LWatchedPrograms$Program;") (by decide +kernel)) (fun _ h9 => h9) rfl dX9_statement_6 ?_
    refine va_get (D := (dC, dI)) (ci := 4) (v := .int 0) (C := RX4) (T := TX4) (N := 6) hx hb hts hiX4 hown hK hP 1 rfl rfl 2 (by decide) (hts (.fieldLink RX9 81 "WatchedPrograms$Program" "size" "I") (by decide +kernel)) (fun _ h9 => h9) rfl dX9_statement_9 ?_
    refine lv_icmp_ge (tgt := 24) hx hb dX9_statement_12 (by decide) (fun _ => ?_) (fun c_2 => absurd (by simp only [Int32.lt_iff_toInt_lt, Int32.le_iff_toInt_le, ← Int32.toInt_inj, tI_0, tI_1, tI_2, tI_3, tI_4, tI_5, tI_6, tI_7, tI_8, tI_20, tI_30, tI_300, tI_400, tI_4095, tI_4096, tI_m1, tI_m2, tI_m3, tI_m9] at c_1 ⊢ <;> omega) c_2)
    refine lv_iconst (v := (-1)) hx hb dX9_statement_24 (by decide) ?_
    exact W.iret (v := (-1)) hx hb hr (fun tt_ ht hW => ⟨_, rfl, rfl, ht⟩) (fun _ h => by cases h) dX9_statement_25
set_option maxHeartbeats 1000000 in
set_option maxRecDepth 100000 in
theorem c_raised (l : Launch) (dC : Nat → ClassId) (dI : Nat → Nat → Nat) (cI cJ cS : ClassId) (sz : Nat) (h : Nat) (c : Int32) (x1 : Nat) (x2 : Nat) (x3 : Nat) (x4 : Nat) (x5 : Nat) (x6 : Nat) (x7 : Nat) (fa : Nat) (fb : Nat) (fc : Nat) (x7s : Nat) (x7c : Nat)  : Met l yX9_raised wsX9_raised ({ frames := 2, cells := 0, slots := 0, locals := 49 }) (va_Pc [.ref h, .int c] (PE dC dI cI cJ cS [(h, .inr (9, [.ref x1, .ref x2, .ref x3, .ref x4, .ref x5, .ref x6, .ref x7])), (x1, aI cI 6 (fun _ => 0)), (x6, .inr (0, [.ref fa, .ref fb, .ref fc])), (fc, aI cI 6 (fun _ => 0)), (x7, .inr (4, [.ref x7s, .ref x7c, .int 0, .int 0, .int 0, .int 0]))] sz)) (va_Qi (fun (r : Int32) (_ : Unit) => r = okE (inR c 0 5) 0) (BE dC dI (va_A [(h, .inr (9, [.ref x1, .ref x2, .ref x3, .ref x4, .ref x5, .ref x6, .ref x7])), (x1, aI cI 6 (fun _ => 0)), (x6, .inr (0, [.ref fa, .ref fb, .ref fc])), (fc, aI cI 6 (fun _ => 0)), (x7, .inr (4, [.ref x7s, .ref x7c, .int 0, .int 0, .int 0, .int 0]))] sz) (fun (_ : Unit) => [])) (va_A [(h, .inr (9, [.ref x1, .ref x2, .ref x3, .ref x4, .ref x5, .ref x6, .ref x7])), (x1, aI cI 6 (fun _ => 0)), (x6, .inr (0, [.ref fa, .ref fb, .ref fc])), (fc, aI cI 6 (fun _ => 0)), (x7, .inr (4, [.ref x7s, .ref x7c, .int 0, .int 0, .int 0, .int 0]))] sz)) 0 0 (va_A [(h, .inr (9, [.ref x1, .ref x2, .ref x3, .ref x4, .ref x5, .ref x6, .ref x7])), (x1, aI cI 6 (fun _ => 0)), (x6, .inr (0, [.ref fa, .ref fb, .ref fc])), (fc, aI cI 6 (fun _ => 0)), (x7, .inr (4, [.ref x7s, .ref x7c, .int 0, .int 0, .int 0, .int 0]))] sz) := by
  refine Met.ofW (cc := cX9_raised) (maxL := 2) (ret := (some .int)) (by decide) rfl ?_
  intro pp_ ee_ ss_ mm_ args below meth cc_ s₁ B hml hv
  obtain ⟨rfl, hsz, hP, hE, hD0⟩ := hv
  have hx := B.exec
  have hb := B.bytes
  have hr := B.returns
  have hts := atoms_spec (ws := wsX9_raised) B.pre
  have hown : ss_.vm.findClass RX9 = some mm_.cls := findClass_of_methodNamed B.named
  have hlocks := B.notSynchronized
  have hK := hE.1
  have hiX9 : ∀ w ∈ wsX90, w ∈ wsX9_raised := by decide +kernel
  subst hsz
  have hD := hD0.self (sz := ss_.heap.size)
  generalize hAe : va_A [(h, .inr (9, [.ref x1, .ref x2, .ref x3, .ref x4, .ref x5, .ref x6, .ref x7])), (x1, aI cI 6 (fun _ => 0)), (x6, .inr (0, [.ref fa, .ref fb, .ref fc])), (fc, aI cI 6 (fun _ => 0)), (x7, .inr (4, [.ref x7s, .ref x7c, .int 0, .int 0, .int 0, .int 0]))] ss_.heap.size = A at hD ⊢
  have hA : ∀ q : Nat, ss_.heap.size ≤ q → A q := fun q h => by rw [← hAe]; exact Or.inr h
  have hS : va_S A ss_.heap ss_.heap [] := va_S.rf
  have hP : va_P (dC, dI) vwCl [(h, .inr (9, [.ref x1, .ref x2, .ref x3, .ref x4, .ref x5, .ref x6, .ref x7])), (x1, aI cI 6 (fun _ => 0)), (x6, .inr (0, [.ref fa, .ref fb, .ref fc])), (fc, aI cI 6 (fun _ => 0)), (x7, .inr (4, [.ref x7s, .ref x7c, .int 0, .int 0, .int 0, .int 0]))] ss_.heap := hP
  have hl := lv_entry ([.ref h, .int c]) (n := 2) (Nat.le_of_ble_eq_true rfl)
  rw [lg_entry_eq]
  generalize (lg_sl ([.ref h, .int c]) ++ List.replicate (2 - (lg_sl ([.ref h, .int c])).length) Slot.unset).toArray = ls at hl ⊢
  have hl : lv_has ls 2 [(0, .ref h), (1, .int c)] := hl
  refine lv_iload_n hx hb dX9_raised_0 rfl (lv_at hl 1 rfl) ?_
  refine vp_callSi (va_Run.run (va_runS (As := [.int c]) (rest := []) ⟨hx, hb, hml, hown, hts⟩ (c_isCell l dC dI cI cJ cS  c ) (va_cwS 1 hts gX9_raised_X9_isCell rfl rfl rfl (by decide +kernel) ⟨Nat.le_of_ble_eq_true rfl, Nat.le_of_ble_eq_true rfl⟩) (preR (hP.sub (ws' := []) [] rfl) hE) rfl rfl hl.1 rfl (lv_room (Nat.le_of_ble_eq_true rfl)) dX9_raised_1 ⟨by decide +kernel, by decide +kernel⟩)) (fun r_1 hr_2 => ?_)
  refine lv_if_ne (tgt := 9) hx hb dX9_raised_4 (by decide) (fun c_3 => ?_) (fun c_3 => ?_)
  · have k_4 : inR c 0 5 := bI_1 hr_2 c_3
    refine lv_aload_n hx hb dX9_raised_9 rfl (lv_at hl 0 rfl) ?_
    refine va_get (D := (dC, dI)) (ci := 9) (v := .ref x6) (C := RX9) (T := TX9) (N := 7) hx hb hts hiX9 hown hK hP 0 rfl rfl 5 (by decide) (hts (.fieldLink RX9 44 "WatchedPrograms" "flow" "LWatchedPrograms$Flow;") (by decide +kernel)) (fun _ h9 => h9) rfl dX9_raised_10 ?_
    refine lv_aload_n hx hb dX9_raised_13 rfl (lv_at hl 0 rfl) ?_
    refine va_get (D := (dC, dI)) (ci := 9) (v := .ref x7) (C := RX9) (T := TX9) (N := 7) hx hb hts hiX9 hown hK hP 0 rfl rfl 6 (by decide) (hts (.fieldLink RX9 51 "WatchedPrograms" "program" "LWatchedPrograms$Program;") (by decide +kernel)) (fun _ h9 => h9) rfl dX9_raised_14 ?_
    refine lv_aload_n hx hb dX9_raised_17 rfl (lv_at hl 0 rfl) ?_
    refine va_get (D := (dC, dI)) (ci := 9) (v := .ref x1) (C := RX9) (T := TX9) (N := 7) hx hb hts hiX9 hown hK hP 0 rfl rfl 0 (by decide) (hts (.fieldLink RX9 9 "WatchedPrograms" "levels" "[I") (by decide +kernel)) (fun _ h9 => h9) rfl dX9_raised_18 ?_
    refine lv_iload_n hx hb dX9_raised_21 rfl (lv_at hl 1 rfl) ?_
    have hFc := va_free (wc := [(x6, .inr (0, [.ref fa, .ref fb, .ref fc])), (fc, aI cI 6 (fun _ => 0)), (x7, .inr (4, [.ref x7s, .ref x7c, .int 0, .int 0, .int 0, .int 0])), (x1, aI cI 6 (fun _ => 0))]) hD hS hA [2, 3, 4, 1] rfl
    refine zCi (wr := [(h, .inr (9, [.ref x1, .ref x2, .ref x3, .ref x4, .ref x5, .ref x6, .ref x7]))]) hP hD hS hFc [2, 3, 4, 1] [0] rfl rfl (by decide) (by decide) (va_runV (As := [.ref x7, .ref x1, .int c]) (rest := []) ⟨hx, hb, hml, hown, hts⟩ (c_raise l dC dI cI cJ cS ss_.heap.size x6 x7 x1 c fa fb fc x7s x7c k_4) (cwV 3 hts gX9_raised_X0_raise rfl rfl rfl (by decide +kernel) ⟨Nat.le_of_ble_eq_true rfl, Nat.le_of_ble_eq_true rfl⟩) (preEV (hP.sub (ws' := [(x6, .inr (0, [.ref fa, .ref fb, .ref fc])), (fc, aI cI 6 (fun _ => 0)), (x7, .inr (4, [.ref x7s, .ref x7c, .int 0, .int 0, .int 0, .int 0])), (x1, aI cI 6 (fun _ => 0))]) [2, 3, 4, 1] rfl) hE (hD.sub (ws' := [(x6, .inr (0, [.ref fa, .ref fb, .ref fc])), (fc, aI cI 6 (fun _ => 0)), (x7, .inr (4, [.ref x7s, .ref x7c, .int 0, .int 0, .int 0, .int 0])), (x1, aI cI 6 (fun _ => 0))]) [2, 3, 4, 1] (by decide) rfl) 0 (ci := 0) rfl rfl) rfl rfl hl.1 rfl (lv_room (Nat.le_of_ble_eq_true rfl)) dX9_raised_22 ⟨by decide +kernel, by decide +kernel⟩) (fun r_5 u_7 H locs hr_6 hP hD hS => ?_)
    try dsimp only at hr_6
    have hP : va_P (dC, dI) vwCl [(h, .inr (9, [.ref x1, .ref x2, .ref x3, .ref x4, .ref x5, .ref x6, .ref x7])), (x6, .inr (0, [.ref fa, .ref fb, .ref fc])), (fc, aI cI 6 (upd (upd (upd (upd (upd (upd (fun _ => 0) 0 0) 1 0) 2 0) 3 0) 4 0) 5 0)), (x7, .inr (4, [.ref x7s, .ref x7c, .int 0, .int 0, .int 0, .int 0])), (x1, aI cI 6 (fun _ => 0))] H := hP
    have hD : va_D A [(h, .inr (9, [.ref x1, .ref x2, .ref x3, .ref x4, .ref x5, .ref x6, .ref x7])), (x6, .inr (0, [.ref fa, .ref fb, .ref fc])), (fc, aI cI 6 (upd (upd (upd (upd (upd (upd (fun _ => 0) 0 0) 1 0) 2 0) 3 0) 4 0) 5 0)), (x7, .inr (4, [.ref x7s, .ref x7c, .int 0, .int 0, .int 0, .int 0])), (x1, aI cI 6 (fun _ => 0))] := hD
    obtain rfl := hr_6
    have hP9 := hP.sub (ws' := []) [] rfl
    have hD9 := hD.sub (ws' := []) [] (by decide) rfl
    exact W.iret (v := 0) hx hb hr (fun tt_ ht hW => ⟨⟨_, (), rfl, (by rw [okE, if_pos (by simp only [inR, Int32.lt_iff_toInt_lt, Int32.le_iff_toInt_le, ← Int32.toInt_inj, tI_0, tI_1, tI_2, tI_3, tI_4, tI_5, tI_6, tI_7, tI_8, tI_20, tI_30, tI_300, tI_400, tI_4095, tI_4096, tI_m1, tI_m2, tI_m3, tI_m9] at k_4 ⊢ <;> omega)]), by rw [ht]; exact hP9, hD9⟩, hS.F ht⟩) hS.2.2 dX9_raised_25
  · have k_8 : ¬ (inR c 0 5) := bI_0 hr_2 c_3
    refine lv_iconst (v := (-1)) hx hb dX9_raised_7 (by decide) ?_
    have hP9 := hP.sub (ws' := []) [] rfl
    have hD9 := hD.sub (ws' := []) [] (by decide) rfl
    exact W.iret (v := (-1)) hx hb hr (fun tt_ ht hW => ⟨⟨_, (), rfl, (by rw [okE, if_neg (by simp only [inR, Int32.lt_iff_toInt_lt, Int32.le_iff_toInt_le, ← Int32.toInt_inj, tI_0, tI_1, tI_2, tI_3, tI_4, tI_5, tI_6, tI_7, tI_8, tI_20, tI_30, tI_300, tI_400, tI_4095, tI_4096, tI_m1, tI_m2, tI_m3, tI_m9] at k_8 ⊢ <;> omega)]), by rw [ht]; exact hP9, hD9⟩, hS.F ht⟩) hS.2.2 dX9_raised_8
set_option maxHeartbeats 1000000 in
set_option maxRecDepth 100000 in
theorem c_stop (l : Launch) (dC : Nat → ClassId) (dI : Nat → Nat → Nat) (cI cJ cS : ClassId) (sz : Nat) (h : Nat) (w : Int32) (t : Int32) (q : Int32) (x1 : Nat) (x2 : Nat) (x3 : Nat) (x4 : Nat) (x5 : Nat) (x6 : Nat) (x7 : Nat) (wm : Nat) (wt : Nat) (wv : Nat) (wk : Nat) (we : Nat) (wf : Nat) (wp : Nat) (x7s : Nat) (x7c : Nat)  : Met l yX9_stop wsX9_stop ({ frames := 5, cells := 0, slots := 0, locals := 117 }) (va_Pc [.ref h, .int w, .int t, .int q] (PE dC dI cI cJ cS [(h, .inr (9, [.ref x1, .ref x2, .ref x3, .ref x4, .ref x5, .ref x6, .ref x7])), (x1, aI cI 6 (fun _ => 0)), (x5, .inr (8, [.ref wm, .ref wt, .ref wv, .ref wk, .int 1, .ref we, .ref wf, .int 0, .ref wp, .int 0, .long 0, .int 0, .int 0, .int 0, .int 0, .int 0, .int 0])), (x7, .inr (4, [.ref x7s, .ref x7c, .int 0, .int 0, .int 0, .int 0]))] sz)) (va_Qi (fun (r : Int32) (_ : Unit) => r = okE ((inR w 0 3 ∧ inR t 0 1) ∧ inR q 0 1) 0) (BE dC dI (va_A [(h, .inr (9, [.ref x1, .ref x2, .ref x3, .ref x4, .ref x5, .ref x6, .ref x7])), (x1, aI cI 6 (fun _ => 0)), (x5, .inr (8, [.ref wm, .ref wt, .ref wv, .ref wk, .int 1, .ref we, .ref wf, .int 0, .ref wp, .int 0, .long 0, .int 0, .int 0, .int 0, .int 0, .int 0, .int 0])), (x7, .inr (4, [.ref x7s, .ref x7c, .int 0, .int 0, .int 0, .int 0]))] sz) (fun (_ : Unit) => [])) (va_A [(h, .inr (9, [.ref x1, .ref x2, .ref x3, .ref x4, .ref x5, .ref x6, .ref x7])), (x1, aI cI 6 (fun _ => 0)), (x5, .inr (8, [.ref wm, .ref wt, .ref wv, .ref wk, .int 1, .ref we, .ref wf, .int 0, .ref wp, .int 0, .long 0, .int 0, .int 0, .int 0, .int 0, .int 0, .int 0])), (x7, .inr (4, [.ref x7s, .ref x7c, .int 0, .int 0, .int 0, .int 0]))] sz)) 0 0 (va_A [(h, .inr (9, [.ref x1, .ref x2, .ref x3, .ref x4, .ref x5, .ref x6, .ref x7])), (x1, aI cI 6 (fun _ => 0)), (x5, .inr (8, [.ref wm, .ref wt, .ref wv, .ref wk, .int 1, .ref we, .ref wf, .int 0, .ref wp, .int 0, .long 0, .int 0, .int 0, .int 0, .int 0, .int 0, .int 0])), (x7, .inr (4, [.ref x7s, .ref x7c, .int 0, .int 0, .int 0, .int 0]))] sz) := by
  refine Met.ofW (cc := cX9_stop) (maxL := 5) (ret := (some .int)) (by decide) rfl ?_
  intro pp_ ee_ ss_ mm_ args below meth cc_ s₁ B hml hv
  obtain ⟨rfl, hsz, hP, hE, hD0⟩ := hv
  have hx := B.exec
  have hb := B.bytes
  have hr := B.returns
  have hts := atoms_spec (ws := wsX9_stop) B.pre
  have hown : ss_.vm.findClass RX9 = some mm_.cls := findClass_of_methodNamed B.named
  have hlocks := B.notSynchronized
  have hK := hE.1
  have hiX4 : ∀ w ∈ wsX40, w ∈ wsX9_stop := by decide +kernel
  have hiX9 : ∀ w ∈ wsX90, w ∈ wsX9_stop := by decide +kernel
  subst hsz
  have hD := hD0.self (sz := ss_.heap.size)
  generalize hAe : va_A [(h, .inr (9, [.ref x1, .ref x2, .ref x3, .ref x4, .ref x5, .ref x6, .ref x7])), (x1, aI cI 6 (fun _ => 0)), (x5, .inr (8, [.ref wm, .ref wt, .ref wv, .ref wk, .int 1, .ref we, .ref wf, .int 0, .ref wp, .int 0, .long 0, .int 0, .int 0, .int 0, .int 0, .int 0, .int 0])), (x7, .inr (4, [.ref x7s, .ref x7c, .int 0, .int 0, .int 0, .int 0]))] ss_.heap.size = A at hD ⊢
  have hA : ∀ q : Nat, ss_.heap.size ≤ q → A q := fun q h => by rw [← hAe]; exact Or.inr h
  have hS : va_S A ss_.heap ss_.heap [] := va_S.rf
  have hP : va_P (dC, dI) vwCl [(h, .inr (9, [.ref x1, .ref x2, .ref x3, .ref x4, .ref x5, .ref x6, .ref x7])), (x1, aI cI 6 (fun _ => 0)), (x5, .inr (8, [.ref wm, .ref wt, .ref wv, .ref wk, .int 1, .ref we, .ref wf, .int 0, .ref wp, .int 0, .long 0, .int 0, .int 0, .int 0, .int 0, .int 0, .int 0])), (x7, .inr (4, [.ref x7s, .ref x7c, .int 0, .int 0, .int 0, .int 0]))] ss_.heap := hP
  have hl := lv_entry ([.ref h, .int w, .int t, .int q]) (n := 5) (Nat.le_of_ble_eq_true rfl)
  rw [lg_entry_eq]
  generalize (lg_sl ([.ref h, .int w, .int t, .int q]) ++ List.replicate (5 - (lg_sl ([.ref h, .int w, .int t, .int q])).length) Slot.unset).toArray = ls at hl ⊢
  have hl : lv_has ls 5 [(0, .ref h), (1, .int w), (2, .int t), (3, .int q)] := hl
  refine lv_iload_n hx hb dX9_stop_0 rfl (lv_at hl 1 rfl) ?_
  refine lv_iload_n hx hb dX9_stop_1 rfl (lv_at hl 2 rfl) ?_
  refine lv_iload_n hx hb dX9_stop_2 rfl (lv_at hl 3 rfl) ?_
  refine vp_callSi (va_Run.run (va_runS (As := [.int w, .int t, .int q]) (rest := []) ⟨hx, hb, hml, hown, hts⟩ (c_isWatched l dC dI cI cJ cS  w t q ) (va_cwS 3 hts gX9_stop_X9_isWatched rfl rfl rfl (by decide +kernel) ⟨Nat.le_of_ble_eq_true rfl, Nat.le_of_ble_eq_true rfl⟩) (preR (hP.sub (ws' := []) [] rfl) hE) rfl rfl hl.1 rfl (lv_room (Nat.le_of_ble_eq_true rfl)) dX9_stop_3 ⟨by decide +kernel, by decide +kernel⟩)) (fun r_1 hr_2 => ?_)
  refine lv_if_ne (tgt := 11) hx hb dX9_stop_6 (by decide) (fun c_3 => ?_) (fun c_3 => ?_)
  · have k_4 : (inR w 0 3 ∧ inR t 0 1) ∧ inR q 0 1 := bI_1 hr_2 c_3
    rcases in01 k_4.1.2 with rfl | rfl
    · refine lv_aload_n hx hb dX9_stop_11 rfl (lv_at hl 0 rfl) ?_
      refine va_get (D := (dC, dI)) (ci := 9) (v := .ref x7) (C := RX9) (T := TX9) (N := 7) hx hb hts hiX9 hown hK hP 0 rfl rfl 6 (by decide) (hts (.fieldLink RX9 51 "WatchedPrograms" "program" "LWatchedPrograms$Program;") (by decide +kernel)) (fun _ h9 => h9) rfl dX9_stop_12 ?_
      refine va_get (D := (dC, dI)) (ci := 4) (v := .int 0) (C := RX4) (T := TX4) (N := 6) hx hb hts hiX4 hown hK hP 3 rfl rfl 4 (by decide) (hts (.fieldLink RX9 201 "WatchedPrograms$Program" "outs" "I") (by decide +kernel)) (fun _ h9 => h9) rfl dX9_stop_15 ?_
      refine lv_bipush (v := 8) hx hb dX9_stop_18 (by decide) ?_
      refine lv_icmp_le (tgt := 26) hx hb dX9_stop_20 (by decide) (fun _ => ?_) (fun c_5 => absurd (by decide) c_5)
      refine lv_aload_n hx hb dX9_stop_26 rfl (lv_at hl 0 rfl) ?_
      refine va_get (D := (dC, dI)) (ci := 9) (v := .ref x5) (C := RX9) (T := TX9) (N := 7) hx hb hts hiX9 hown hK hP 0 rfl rfl 4 (by decide) (hts (.fieldLink RX9 37 "WatchedPrograms" "watch" "LWatchedPrograms$Watch;") (by decide +kernel)) (fun _ h9 => h9) rfl dX9_stop_27 ?_
      refine lv_aload_n hx hb dX9_stop_30 rfl (lv_at hl 0 rfl) ?_
      refine va_get (D := (dC, dI)) (ci := 9) (v := .ref x7) (C := RX9) (T := TX9) (N := 7) hx hb hts hiX9 hown hK hP 0 rfl rfl 6 (by decide) (hts (.fieldLink RX9 51 "WatchedPrograms" "program" "LWatchedPrograms$Program;") (by decide +kernel)) (fun _ h9 => h9) rfl dX9_stop_31 ?_
      refine lv_iload_n hx hb dX9_stop_34 rfl (lv_at hl 1 rfl) ?_
      refine lv_aload_n hx hb dX9_stop_35 rfl (lv_at hl 0 rfl) ?_
      refine lv_iload_n hx hb dX9_stop_36 rfl (lv_at hl 1 rfl) ?_
      refine vp_callSi (va_Run.run (va_runV (As := [.int w]) (rest := [.int w, .ref x7, .ref x5]) ⟨hx, hb, hml, hown, hts⟩ (c_cellsWithin l dC dI cI cJ cS  h w x1 x2 x3 x4 x5 x6 x7 ) (cwV 1 hts gX9_stop_X9_cellsWithin rfl rfl rfl (by decide +kernel) ⟨Nat.le_of_ble_eq_true rfl, Nat.le_of_ble_eq_true rfl⟩) (preRV (hP.sub (ws' := [(h, .inr (9, [.ref x1, .ref x2, .ref x3, .ref x4, .ref x5, .ref x6, .ref x7])), (x1, aI cI 6 (fun _ => 0))]) [0, 1] rfl) hE 0 (ci := 9) rfl rfl) rfl rfl hl.1 rfl (lv_room (Nat.le_of_ble_eq_true rfl)) dX9_stop_37 ⟨by decide +kernel, by decide +kernel⟩)) (fun r_6 hr_7 => ?_)
      obtain rfl := hr_7
      refine lv_iload_n hx hb dX9_stop_40 rfl (lv_at hl 2 rfl) ?_
      have hFc := va_free (wc := [(x5, .inr (8, [.ref wm, .ref wt, .ref wv, .ref wk, .int 1, .ref we, .ref wf, .int 0, .ref wp, .int 0, .long 0, .int 0, .int 0, .int 0, .int 0, .int 0, .int 0]))]) hD hS hA [2] rfl
      refine zCv (wr := [(h, .inr (9, [.ref x1, .ref x2, .ref x3, .ref x4, .ref x5, .ref x6, .ref x7])), (x1, aI cI 6 (fun _ => 0)), (x7, .inr (4, [.ref x7s, .ref x7c, .int 0, .int 0, .int 0, .int 0]))]) hP hD hS hFc [2] [0, 1, 3] rfl rfl (by decide) (by decide) (va_runV (As := [.ref x7, .int w, .int 4095, .int 0]) (rest := []) ⟨hx, hb, hml, hown, hts⟩ (c_aim0 l dC dI cI cJ cS ss_.heap.size x5 x7 w wm wt wv wk we wf wp ) (cwV 4 hts gX9_stop_X8_aim rfl rfl rfl (by decide +kernel) ⟨Nat.le_of_ble_eq_true rfl, Nat.le_of_ble_eq_true rfl⟩) (preEV (hP.sub (ws' := [(x5, .inr (8, [.ref wm, .ref wt, .ref wv, .ref wk, .int 1, .ref we, .ref wf, .int 0, .ref wp, .int 0, .long 0, .int 0, .int 0, .int 0, .int 0, .int 0, .int 0]))]) [2] rfl) hE (hD.sub (ws' := [(x5, .inr (8, [.ref wm, .ref wt, .ref wv, .ref wk, .int 1, .ref we, .ref wf, .int 0, .ref wp, .int 0, .long 0, .int 0, .int 0, .int 0, .int 0, .int 0, .int 0]))]) [2] (by decide) rfl) 0 (ci := 8) rfl rfl) rfl rfl hl.1 rfl (lv_room (Nat.le_of_ble_eq_true rfl)) dX9_stop_41 ⟨by decide +kernel, by decide +kernel⟩) (fun u_10 H locs hr_9 hP hD hS => ?_)
      try dsimp only at hr_9
      have hP : va_P (dC, dI) vwCl [(h, .inr (9, [.ref x1, .ref x2, .ref x3, .ref x4, .ref x5, .ref x6, .ref x7])), (x1, aI cI 6 (fun _ => 0)), (x7, .inr (4, [.ref x7s, .ref x7c, .int 0, .int 0, .int 0, .int 0])), (x5, .inr (8, [.ref wm, .ref wt, .ref wv, .ref wk, .int 1, .ref we, .ref wf, .int 0, .ref x7, .int (w &&& 3), .long 9007199254740991, .int 4095, .int 0, .int 0, .int 0, .int 0, .int 0]))] H := hP
      have hD : va_D A [(h, .inr (9, [.ref x1, .ref x2, .ref x3, .ref x4, .ref x5, .ref x6, .ref x7])), (x1, aI cI 6 (fun _ => 0)), (x7, .inr (4, [.ref x7s, .ref x7c, .int 0, .int 0, .int 0, .int 0])), (x5, .inr (8, [.ref wm, .ref wt, .ref wv, .ref wk, .int 1, .ref we, .ref wf, .int 0, .ref x7, .int (w &&& 3), .long 9007199254740991, .int 4095, .int 0, .int 0, .int 0, .int 0, .int 0]))] := hD
      refine lv_aload_n hx hb dX9_stop_44 rfl (lv_at hl 0 rfl) ?_
      refine va_get (D := (dC, dI)) (ci := 9) (v := .ref x5) (C := RX9) (T := TX9) (N := 7) hx hb hts hiX9 hown hK hP 0 rfl rfl 4 (by decide) (hts (.fieldLink RX9 37 "WatchedPrograms" "watch" "LWatchedPrograms$Watch;") (by decide +kernel)) (fun _ h9 => h9) rfl dX9_stop_45 ?_
      have hFc := va_free (wc := [(x5, .inr (8, [.ref wm, .ref wt, .ref wv, .ref wk, .int 1, .ref we, .ref wf, .int 0, .ref x7, .int (w &&& 3), .long 9007199254740991, .int 4095, .int 0, .int 0, .int 0, .int 0, .int 0])), (x7, .inr (4, [.ref x7s, .ref x7c, .int 0, .int 0, .int 0, .int 0]))]) hD hS hA [3, 2] rfl
      refine zCi (wr := [(h, .inr (9, [.ref x1, .ref x2, .ref x3, .ref x4, .ref x5, .ref x6, .ref x7])), (x1, aI cI 6 (fun _ => 0))]) hP hD hS hFc [3, 2] [0, 1] rfl rfl (by decide) (by decide) (va_runV (As := []) (rest := []) ⟨hx, hb, hml, hown, hts⟩ (c_fewest0 l dC dI cI cJ cS H.size x5 wm wt wv wk we wf x7 (w &&& 3) x7s x7c ) (cwV 0 hts gX9_stop_X8_fewestStopped rfl rfl rfl (by decide +kernel) ⟨Nat.le_of_ble_eq_true rfl, Nat.le_of_ble_eq_true rfl⟩) (preEV (hP.sub (ws' := [(x5, .inr (8, [.ref wm, .ref wt, .ref wv, .ref wk, .int 1, .ref we, .ref wf, .int 0, .ref x7, .int (w &&& 3), .long 9007199254740991, .int 4095, .int 0, .int 0, .int 0, .int 0, .int 0])), (x7, .inr (4, [.ref x7s, .ref x7c, .int 0, .int 0, .int 0, .int 0]))]) [3, 2] rfl) hE (hD.sub (ws' := [(x5, .inr (8, [.ref wm, .ref wt, .ref wv, .ref wk, .int 1, .ref we, .ref wf, .int 0, .ref x7, .int (w &&& 3), .long 9007199254740991, .int 4095, .int 0, .int 0, .int 0, .int 0, .int 0])), (x7, .inr (4, [.ref x7s, .ref x7c, .int 0, .int 0, .int 0, .int 0]))]) [3, 2] (by decide) rfl) 0 (ci := 8) rfl rfl) rfl rfl hl.1 rfl (lv_room (Nat.le_of_ble_eq_true rfl)) dX9_stop_48 ⟨by decide +kernel, by decide +kernel⟩) (fun r_11 u_13 H locs hr_12 hP hD hS => ?_)
      try dsimp only at hr_12
      have hP : va_P (dC, dI) vwCl [(h, .inr (9, [.ref x1, .ref x2, .ref x3, .ref x4, .ref x5, .ref x6, .ref x7])), (x1, aI cI 6 (fun _ => 0)), (x5, .inr (8, [.ref wm, .ref wt, .ref wv, .ref wk, .int 1, .ref we, .ref wf, .int 0, .ref x7, .int (w &&& 3), .long 9007199254740991, .int 4095, .int 0, .int 0, .int 0, .int 0, .int 0])), (x7, .inr (4, [.ref x7s, .ref x7c, .int 0, .int 0, .int 0, .int 0]))] H := hP
      have hD : va_D A [(h, .inr (9, [.ref x1, .ref x2, .ref x3, .ref x4, .ref x5, .ref x6, .ref x7])), (x1, aI cI 6 (fun _ => 0)), (x5, .inr (8, [.ref wm, .ref wt, .ref wv, .ref wk, .int 1, .ref we, .ref wf, .int 0, .ref x7, .int (w &&& 3), .long 9007199254740991, .int 4095, .int 0, .int 0, .int 0, .int 0, .int 0])), (x7, .inr (4, [.ref x7s, .ref x7c, .int 0, .int 0, .int 0, .int 0]))] := hD
      obtain rfl := hr_12
      refine lv_istore (lv' := [(4, .int 0), (0, .ref h), (1, .int w), (2, .int 0), (3, .int q)]) hx hb dX9_stop_51 hl (by decide) rfl (fun ls hl => ?_)
      refine lv_iload hx hb dX9_stop_53 (lv_at hl 0 rfl) ?_
      refine lv_if_ge (tgt := 61) hx hb dX9_stop_55 (by decide) (fun _ => ?_) (fun c_14 => absurd (by decide) c_14)
      refine lv_iload_n hx hb dX9_stop_61 rfl (lv_at hl 4 rfl) ?_
      refine lv_if_ne (tgt := 73) hx hb dX9_stop_62 (by decide) (fun c_15 => ?_) (fun c_15 => ?_)
      · refine lv_iload hx hb dX9_stop_73 (lv_at hl 0 rfl) ?_
        have hP9 := hP.sub (ws' := []) [] rfl
        have hD9 := hD.sub (ws' := []) [] (by decide) rfl
        exact W.iret (v := 0) hx hb hr (fun tt_ ht hW => ⟨⟨_, (), rfl, (by rw [okE, if_pos (by simp only [inR, Int32.lt_iff_toInt_lt, Int32.le_iff_toInt_le, ← Int32.toInt_inj, tI_0, tI_1, tI_2, tI_3, tI_4, tI_5, tI_6, tI_7, tI_8, tI_20, tI_30, tI_300, tI_400, tI_4095, tI_4096, tI_m1, tI_m2, tI_m3, tI_m9] at k_4 c_15 ⊢ <;> omega)]), by rw [ht]; exact hP9, hD9⟩, hS.F ht⟩) hS.2.2 dX9_stop_75
      · refine lv_iload hx hb dX9_stop_65 (lv_at hl 0 rfl) ?_
        refine vp_callSi (va_Run.run (va_runS (As := [.int 0]) (rest := []) ⟨hx, hb, hml, hown, hts⟩ (c_bc0 l dC dI cI cJ cS   ) (va_cwS 1 hts gX9_stop_J6_bitCount_0f7a4 rfl rfl rfl (by decide +kernel) ⟨Nat.le_of_ble_eq_true rfl, Nat.le_of_ble_eq_true rfl⟩) (preR (hP.sub (ws' := []) [] rfl) hE) rfl rfl hl.1 rfl (lv_room (Nat.le_of_ble_eq_true rfl)) dX9_stop_67 ⟨by decide +kernel, by decide +kernel⟩)) (fun r_16 hr_17 => ?_)
        obtain rfl := hr_17
        refine lv_goto (tgt := 75) hx hb dX9_stop_70 (by decide) ?_
        have hP9 := hP.sub (ws' := []) [] rfl
        have hD9 := hD.sub (ws' := []) [] (by decide) rfl
        exact W.iret (v := 0) hx hb hr (fun tt_ ht hW => ⟨⟨_, (), rfl, (by rw [okE, if_pos (by simp only [inR, Int32.lt_iff_toInt_lt, Int32.le_iff_toInt_le, ← Int32.toInt_inj, tI_0, tI_1, tI_2, tI_3, tI_4, tI_5, tI_6, tI_7, tI_8, tI_20, tI_30, tI_300, tI_400, tI_4095, tI_4096, tI_m1, tI_m2, tI_m3, tI_m9] at k_4 c_15 ⊢ <;> omega)]), by rw [ht]; exact hP9, hD9⟩, hS.F ht⟩) hS.2.2 dX9_stop_75
    · refine lv_aload_n hx hb dX9_stop_11 rfl (lv_at hl 0 rfl) ?_
      refine va_get (D := (dC, dI)) (ci := 9) (v := .ref x7) (C := RX9) (T := TX9) (N := 7) hx hb hts hiX9 hown hK hP 0 rfl rfl 6 (by decide) (hts (.fieldLink RX9 51 "WatchedPrograms" "program" "LWatchedPrograms$Program;") (by decide +kernel)) (fun _ h9 => h9) rfl dX9_stop_12 ?_
      refine va_get (D := (dC, dI)) (ci := 4) (v := .int 0) (C := RX4) (T := TX4) (N := 6) hx hb hts hiX4 hown hK hP 3 rfl rfl 4 (by decide) (hts (.fieldLink RX9 201 "WatchedPrograms$Program" "outs" "I") (by decide +kernel)) (fun _ h9 => h9) rfl dX9_stop_15 ?_
      refine lv_bipush (v := 8) hx hb dX9_stop_18 (by decide) ?_
      refine lv_icmp_le (tgt := 26) hx hb dX9_stop_20 (by decide) (fun _ => ?_) (fun c_18 => absurd (by decide) c_18)
      refine lv_aload_n hx hb dX9_stop_26 rfl (lv_at hl 0 rfl) ?_
      refine va_get (D := (dC, dI)) (ci := 9) (v := .ref x5) (C := RX9) (T := TX9) (N := 7) hx hb hts hiX9 hown hK hP 0 rfl rfl 4 (by decide) (hts (.fieldLink RX9 37 "WatchedPrograms" "watch" "LWatchedPrograms$Watch;") (by decide +kernel)) (fun _ h9 => h9) rfl dX9_stop_27 ?_
      refine lv_aload_n hx hb dX9_stop_30 rfl (lv_at hl 0 rfl) ?_
      refine va_get (D := (dC, dI)) (ci := 9) (v := .ref x7) (C := RX9) (T := TX9) (N := 7) hx hb hts hiX9 hown hK hP 0 rfl rfl 6 (by decide) (hts (.fieldLink RX9 51 "WatchedPrograms" "program" "LWatchedPrograms$Program;") (by decide +kernel)) (fun _ h9 => h9) rfl dX9_stop_31 ?_
      refine lv_iload_n hx hb dX9_stop_34 rfl (lv_at hl 1 rfl) ?_
      refine lv_aload_n hx hb dX9_stop_35 rfl (lv_at hl 0 rfl) ?_
      refine lv_iload_n hx hb dX9_stop_36 rfl (lv_at hl 1 rfl) ?_
      refine vp_callSi (va_Run.run (va_runV (As := [.int w]) (rest := [.int w, .ref x7, .ref x5]) ⟨hx, hb, hml, hown, hts⟩ (c_cellsWithin l dC dI cI cJ cS  h w x1 x2 x3 x4 x5 x6 x7 ) (cwV 1 hts gX9_stop_X9_cellsWithin rfl rfl rfl (by decide +kernel) ⟨Nat.le_of_ble_eq_true rfl, Nat.le_of_ble_eq_true rfl⟩) (preRV (hP.sub (ws' := [(h, .inr (9, [.ref x1, .ref x2, .ref x3, .ref x4, .ref x5, .ref x6, .ref x7])), (x1, aI cI 6 (fun _ => 0))]) [0, 1] rfl) hE 0 (ci := 9) rfl rfl) rfl rfl hl.1 rfl (lv_room (Nat.le_of_ble_eq_true rfl)) dX9_stop_37 ⟨by decide +kernel, by decide +kernel⟩)) (fun r_19 hr_20 => ?_)
      obtain rfl := hr_20
      refine lv_iload_n hx hb dX9_stop_40 rfl (lv_at hl 2 rfl) ?_
      have hFc := va_free (wc := [(x5, .inr (8, [.ref wm, .ref wt, .ref wv, .ref wk, .int 1, .ref we, .ref wf, .int 0, .ref wp, .int 0, .long 0, .int 0, .int 0, .int 0, .int 0, .int 0, .int 0]))]) hD hS hA [2] rfl
      refine zCv (wr := [(h, .inr (9, [.ref x1, .ref x2, .ref x3, .ref x4, .ref x5, .ref x6, .ref x7])), (x1, aI cI 6 (fun _ => 0)), (x7, .inr (4, [.ref x7s, .ref x7c, .int 0, .int 0, .int 0, .int 0]))]) hP hD hS hFc [2] [0, 1, 3] rfl rfl (by decide) (by decide) (va_runV (As := [.ref x7, .int w, .int 4095, .int 1]) (rest := []) ⟨hx, hb, hml, hown, hts⟩ (c_aim1 l dC dI cI cJ cS ss_.heap.size x5 x7 w wm wt wv wk we wf wp ) (cwV 4 hts gX9_stop_X8_aim rfl rfl rfl (by decide +kernel) ⟨Nat.le_of_ble_eq_true rfl, Nat.le_of_ble_eq_true rfl⟩) (preEV (hP.sub (ws' := [(x5, .inr (8, [.ref wm, .ref wt, .ref wv, .ref wk, .int 1, .ref we, .ref wf, .int 0, .ref wp, .int 0, .long 0, .int 0, .int 0, .int 0, .int 0, .int 0, .int 0]))]) [2] rfl) hE (hD.sub (ws' := [(x5, .inr (8, [.ref wm, .ref wt, .ref wv, .ref wk, .int 1, .ref we, .ref wf, .int 0, .ref wp, .int 0, .long 0, .int 0, .int 0, .int 0, .int 0, .int 0, .int 0]))]) [2] (by decide) rfl) 0 (ci := 8) rfl rfl) rfl rfl hl.1 rfl (lv_room (Nat.le_of_ble_eq_true rfl)) dX9_stop_41 ⟨by decide +kernel, by decide +kernel⟩) (fun u_23 H locs hr_22 hP hD hS => ?_)
      try dsimp only at hr_22
      have hP : va_P (dC, dI) vwCl [(h, .inr (9, [.ref x1, .ref x2, .ref x3, .ref x4, .ref x5, .ref x6, .ref x7])), (x1, aI cI 6 (fun _ => 0)), (x7, .inr (4, [.ref x7s, .ref x7c, .int 0, .int 0, .int 0, .int 0])), (x5, .inr (8, [.ref wm, .ref wt, .ref wv, .ref wk, .int 1, .ref we, .ref wf, .int 0, .ref x7, .int (w &&& 3), .long 4611686018427387903, .int 4095, .int 0, .int 0, .int 0, .int 0, .int 0]))] H := hP
      have hD : va_D A [(h, .inr (9, [.ref x1, .ref x2, .ref x3, .ref x4, .ref x5, .ref x6, .ref x7])), (x1, aI cI 6 (fun _ => 0)), (x7, .inr (4, [.ref x7s, .ref x7c, .int 0, .int 0, .int 0, .int 0])), (x5, .inr (8, [.ref wm, .ref wt, .ref wv, .ref wk, .int 1, .ref we, .ref wf, .int 0, .ref x7, .int (w &&& 3), .long 4611686018427387903, .int 4095, .int 0, .int 0, .int 0, .int 0, .int 0]))] := hD
      refine lv_aload_n hx hb dX9_stop_44 rfl (lv_at hl 0 rfl) ?_
      refine va_get (D := (dC, dI)) (ci := 9) (v := .ref x5) (C := RX9) (T := TX9) (N := 7) hx hb hts hiX9 hown hK hP 0 rfl rfl 4 (by decide) (hts (.fieldLink RX9 37 "WatchedPrograms" "watch" "LWatchedPrograms$Watch;") (by decide +kernel)) (fun _ h9 => h9) rfl dX9_stop_45 ?_
      have hFc := va_free (wc := [(x5, .inr (8, [.ref wm, .ref wt, .ref wv, .ref wk, .int 1, .ref we, .ref wf, .int 0, .ref x7, .int (w &&& 3), .long 4611686018427387903, .int 4095, .int 0, .int 0, .int 0, .int 0, .int 0])), (x7, .inr (4, [.ref x7s, .ref x7c, .int 0, .int 0, .int 0, .int 0]))]) hD hS hA [3, 2] rfl
      refine zCi (wr := [(h, .inr (9, [.ref x1, .ref x2, .ref x3, .ref x4, .ref x5, .ref x6, .ref x7])), (x1, aI cI 6 (fun _ => 0))]) hP hD hS hFc [3, 2] [0, 1] rfl rfl (by decide) (by decide) (va_runV (As := []) (rest := []) ⟨hx, hb, hml, hown, hts⟩ (c_fewest1 l dC dI cI cJ cS H.size x5 wm wt wv wk we wf x7 (w &&& 3) x7s x7c ) (cwV 0 hts gX9_stop_X8_fewestStopped rfl rfl rfl (by decide +kernel) ⟨Nat.le_of_ble_eq_true rfl, Nat.le_of_ble_eq_true rfl⟩) (preEV (hP.sub (ws' := [(x5, .inr (8, [.ref wm, .ref wt, .ref wv, .ref wk, .int 1, .ref we, .ref wf, .int 0, .ref x7, .int (w &&& 3), .long 4611686018427387903, .int 4095, .int 0, .int 0, .int 0, .int 0, .int 0])), (x7, .inr (4, [.ref x7s, .ref x7c, .int 0, .int 0, .int 0, .int 0]))]) [3, 2] rfl) hE (hD.sub (ws' := [(x5, .inr (8, [.ref wm, .ref wt, .ref wv, .ref wk, .int 1, .ref we, .ref wf, .int 0, .ref x7, .int (w &&& 3), .long 4611686018427387903, .int 4095, .int 0, .int 0, .int 0, .int 0, .int 0])), (x7, .inr (4, [.ref x7s, .ref x7c, .int 0, .int 0, .int 0, .int 0]))]) [3, 2] (by decide) rfl) 0 (ci := 8) rfl rfl) rfl rfl hl.1 rfl (lv_room (Nat.le_of_ble_eq_true rfl)) dX9_stop_48 ⟨by decide +kernel, by decide +kernel⟩) (fun r_24 u_26 H locs hr_25 hP hD hS => ?_)
      try dsimp only at hr_25
      have hP : va_P (dC, dI) vwCl [(h, .inr (9, [.ref x1, .ref x2, .ref x3, .ref x4, .ref x5, .ref x6, .ref x7])), (x1, aI cI 6 (fun _ => 0)), (x5, .inr (8, [.ref wm, .ref wt, .ref wv, .ref wk, .int 1, .ref we, .ref wf, .int 0, .ref x7, .int (w &&& 3), .long 4611686018427387903, .int 4095, .int 0, .int 0, .int 0, .int 0, .int 0])), (x7, .inr (4, [.ref x7s, .ref x7c, .int 0, .int 0, .int 0, .int 0]))] H := hP
      have hD : va_D A [(h, .inr (9, [.ref x1, .ref x2, .ref x3, .ref x4, .ref x5, .ref x6, .ref x7])), (x1, aI cI 6 (fun _ => 0)), (x5, .inr (8, [.ref wm, .ref wt, .ref wv, .ref wk, .int 1, .ref we, .ref wf, .int 0, .ref x7, .int (w &&& 3), .long 4611686018427387903, .int 4095, .int 0, .int 0, .int 0, .int 0, .int 0])), (x7, .inr (4, [.ref x7s, .ref x7c, .int 0, .int 0, .int 0, .int 0]))] := hD
      obtain rfl := hr_25
      refine lv_istore (lv' := [(4, .int 0), (0, .ref h), (1, .int w), (2, .int 1), (3, .int q)]) hx hb dX9_stop_51 hl (by decide) rfl (fun ls hl => ?_)
      refine lv_iload hx hb dX9_stop_53 (lv_at hl 0 rfl) ?_
      refine lv_if_ge (tgt := 61) hx hb dX9_stop_55 (by decide) (fun _ => ?_) (fun c_27 => absurd (by decide) c_27)
      refine lv_iload_n hx hb dX9_stop_61 rfl (lv_at hl 4 rfl) ?_
      refine lv_if_ne (tgt := 73) hx hb dX9_stop_62 (by decide) (fun c_28 => ?_) (fun c_28 => ?_)
      · refine lv_iload hx hb dX9_stop_73 (lv_at hl 0 rfl) ?_
        have hP9 := hP.sub (ws' := []) [] rfl
        have hD9 := hD.sub (ws' := []) [] (by decide) rfl
        exact W.iret (v := 0) hx hb hr (fun tt_ ht hW => ⟨⟨_, (), rfl, (by rw [okE, if_pos (by simp only [inR, Int32.lt_iff_toInt_lt, Int32.le_iff_toInt_le, ← Int32.toInt_inj, tI_0, tI_1, tI_2, tI_3, tI_4, tI_5, tI_6, tI_7, tI_8, tI_20, tI_30, tI_300, tI_400, tI_4095, tI_4096, tI_m1, tI_m2, tI_m3, tI_m9] at k_4 c_28 ⊢ <;> omega)]), by rw [ht]; exact hP9, hD9⟩, hS.F ht⟩) hS.2.2 dX9_stop_75
      · refine lv_iload hx hb dX9_stop_65 (lv_at hl 0 rfl) ?_
        refine vp_callSi (va_Run.run (va_runS (As := [.int 0]) (rest := []) ⟨hx, hb, hml, hown, hts⟩ (c_bc0 l dC dI cI cJ cS   ) (va_cwS 1 hts gX9_stop_J6_bitCount_0f7a4 rfl rfl rfl (by decide +kernel) ⟨Nat.le_of_ble_eq_true rfl, Nat.le_of_ble_eq_true rfl⟩) (preR (hP.sub (ws' := []) [] rfl) hE) rfl rfl hl.1 rfl (lv_room (Nat.le_of_ble_eq_true rfl)) dX9_stop_67 ⟨by decide +kernel, by decide +kernel⟩)) (fun r_29 hr_30 => ?_)
        obtain rfl := hr_30
        refine lv_goto (tgt := 75) hx hb dX9_stop_70 (by decide) ?_
        have hP9 := hP.sub (ws' := []) [] rfl
        have hD9 := hD.sub (ws' := []) [] (by decide) rfl
        exact W.iret (v := 0) hx hb hr (fun tt_ ht hW => ⟨⟨_, (), rfl, (by rw [okE, if_pos (by simp only [inR, Int32.lt_iff_toInt_lt, Int32.le_iff_toInt_le, ← Int32.toInt_inj, tI_0, tI_1, tI_2, tI_3, tI_4, tI_5, tI_6, tI_7, tI_8, tI_20, tI_30, tI_300, tI_400, tI_4095, tI_4096, tI_m1, tI_m2, tI_m3, tI_m9] at k_4 c_28 ⊢ <;> omega)]), by rw [ht]; exact hP9, hD9⟩, hS.F ht⟩) hS.2.2 dX9_stop_75
  · have k_31 : ¬ ((inR w 0 3 ∧ inR t 0 1) ∧ inR q 0 1) := bI_0 hr_2 c_3
    refine lv_iconst (v := (-1)) hx hb dX9_stop_9 (by decide) ?_
    have hP9 := hP.sub (ws' := []) [] rfl
    have hD9 := hD.sub (ws' := []) [] (by decide) rfl
    exact W.iret (v := (-1)) hx hb hr (fun tt_ ht hW => ⟨⟨_, (), rfl, (by rw [okE, if_neg (by simp only [inR, Int32.lt_iff_toInt_lt, Int32.le_iff_toInt_le, ← Int32.toInt_inj, tI_0, tI_1, tI_2, tI_3, tI_4, tI_5, tI_6, tI_7, tI_8, tI_20, tI_30, tI_300, tI_400, tI_4095, tI_4096, tI_m1, tI_m2, tI_m3, tI_m9] at k_31 ⊢ <;> omega)]), by rw [ht]; exact hP9, hD9⟩, hS.F ht⟩) hS.2.2 dX9_stop_10
set_option maxHeartbeats 1000000 in
set_option maxRecDepth 100000 in
theorem c_tooMuch (l : Launch) (dC : Nat → ClassId) (dI : Nat → Nat → Nat) (cI cJ cS : ClassId) (h : Nat) (x1 : Nat) (x2 : Nat) (x3 : Nat) (x4 : Nat) (x5 : Nat) (x6 : Nat) (x7 : Nat) (fa : Nat) (fb : Nat) (fc : Nat) (x7s : Nat) (x7c : Nat)  : Met l yX9_tooMuch wsX9_tooMuch ({ frames := 1, cells := 0, slots := 0, locals := 24 }) (va_Pc [.ref h] (PR dC dI cI cJ cS [(h, .inr (9, [.ref x1, .ref x2, .ref x3, .ref x4, .ref x5, .ref x6, .ref x7])), (x6, .inr (0, [.ref fa, .ref fb, .ref fc])), (x7, .inr (4, [.ref x7s, .ref x7c, .int 0, .int 0, .int 0, .int 0]))])) (vp_Si (fun r : Int32 => r = 0)) 0 0 (fun _ => False) := by
  refine Met.ofW (cc := cX9_tooMuch) (maxL := 1) (ret := (some .int)) (by decide) rfl ?_
  intro pp_ ee_ ss_ mm_ args below meth cc_ s₁ B hml hv
  obtain ⟨rfl, hP, hE⟩ := hv
  have hx := B.exec
  have hb := B.bytes
  have hr := B.returns
  have hts := atoms_spec (ws := wsX9_tooMuch) B.pre
  have hown : ss_.vm.findClass RX9 = some mm_.cls := findClass_of_methodNamed B.named
  have hlocks := B.notSynchronized
  have hK := hE.1
  have hiX9 : ∀ w ∈ wsX90, w ∈ wsX9_tooMuch := by decide +kernel
  have hP : va_P (dC, dI) vwCl [(h, .inr (9, [.ref x1, .ref x2, .ref x3, .ref x4, .ref x5, .ref x6, .ref x7])), (x6, .inr (0, [.ref fa, .ref fb, .ref fc])), (x7, .inr (4, [.ref x7s, .ref x7c, .int 0, .int 0, .int 0, .int 0]))] ss_.heap := hP
  have hl := lv_entry ([.ref h]) (n := 1) (Nat.le_of_ble_eq_true rfl)
  rw [lg_entry_eq]
  generalize (lg_sl ([.ref h]) ++ List.replicate (1 - (lg_sl ([.ref h])).length) Slot.unset).toArray = ls at hl ⊢
  have hl : lv_has ls 1 [(0, .ref h)] := hl
  refine lv_aload_n hx hb dX9_tooMuch_0 rfl (lv_at hl 0 rfl) ?_
  refine va_get (D := (dC, dI)) (ci := 9) (v := .ref x6) (C := RX9) (T := TX9) (N := 7) hx hb hts hiX9 hown hK hP 0 rfl rfl 5 (by decide) (hts (.fieldLink RX9 44 "WatchedPrograms" "flow" "LWatchedPrograms$Flow;") (by decide +kernel)) (fun _ h9 => h9) rfl dX9_tooMuch_1 ?_
  refine lv_aload_n hx hb dX9_tooMuch_4 rfl (lv_at hl 0 rfl) ?_
  refine va_get (D := (dC, dI)) (ci := 9) (v := .ref x7) (C := RX9) (T := TX9) (N := 7) hx hb hts hiX9 hown hK hP 0 rfl rfl 6 (by decide) (hts (.fieldLink RX9 51 "WatchedPrograms" "program" "LWatchedPrograms$Program;") (by decide +kernel)) (fun _ h9 => h9) rfl dX9_tooMuch_5 ?_
  refine lv_aload_n hx hb dX9_tooMuch_8 rfl (lv_at hl 0 rfl) ?_
  refine va_get (D := (dC, dI)) (ci := 9) (v := .ref x1) (C := RX9) (T := TX9) (N := 7) hx hb hts hiX9 hown hK hP 0 rfl rfl 0 (by decide) (hts (.fieldLink RX9 9 "WatchedPrograms" "levels" "[I") (by decide +kernel)) (fun _ h9 => h9) rfl dX9_tooMuch_9 ?_
  refine va_csv (va_Run.run (va_runV (As := [.ref x7, .ref x1]) (rest := []) ⟨hx, hb, hml, hown, hts⟩ (c_measure l dC dI cI cJ cS  x6 x7 x1 fa fb fc x7s x7c ) (cwV 2 hts gX9_tooMuch_X0_measure rfl rfl rfl (by decide +kernel) ⟨Nat.le_of_ble_eq_true rfl, Nat.le_of_ble_eq_true rfl⟩) (preRV (hP.sub (ws' := [(x6, .inr (0, [.ref fa, .ref fb, .ref fc])), (x7, .inr (4, [.ref x7s, .ref x7c, .int 0, .int 0, .int 0, .int 0]))]) [1, 2] rfl) hE 0 (ci := 0) rfl rfl) rfl rfl hl.1 rfl (lv_room (Nat.le_of_ble_eq_true rfl)) dX9_tooMuch_12 ⟨by decide +kernel, by decide +kernel⟩)) (fun hr_2 => ?_)
  refine lv_aload_n hx hb dX9_tooMuch_15 rfl (lv_at hl 0 rfl) ?_
  refine va_get (D := (dC, dI)) (ci := 9) (v := .ref x6) (C := RX9) (T := TX9) (N := 7) hx hb hts hiX9 hown hK hP 0 rfl rfl 5 (by decide) (hts (.fieldLink RX9 44 "WatchedPrograms" "flow" "LWatchedPrograms$Flow;") (by decide +kernel)) (fun _ h9 => h9) rfl dX9_tooMuch_16 ?_
  refine lv_aload_n hx hb dX9_tooMuch_19 rfl (lv_at hl 0 rfl) ?_
  refine va_get (D := (dC, dI)) (ci := 9) (v := .ref x7) (C := RX9) (T := TX9) (N := 7) hx hb hts hiX9 hown hK hP 0 rfl rfl 6 (by decide) (hts (.fieldLink RX9 51 "WatchedPrograms" "program" "LWatchedPrograms$Program;") (by decide +kernel)) (fun _ h9 => h9) rfl dX9_tooMuch_20 ?_
  refine lv_aload_n hx hb dX9_tooMuch_23 rfl (lv_at hl 0 rfl) ?_
  refine va_get (D := (dC, dI)) (ci := 9) (v := .ref x1) (C := RX9) (T := TX9) (N := 7) hx hb hts hiX9 hown hK hP 0 rfl rfl 0 (by decide) (hts (.fieldLink RX9 9 "WatchedPrograms" "levels" "[I") (by decide +kernel)) (fun _ h9 => h9) rfl dX9_tooMuch_24 ?_
  refine vp_callSi (va_Run.run (va_runV (As := [.ref x7, .ref x1]) (rest := []) ⟨hx, hb, hml, hown, hts⟩ (c_countLeaks l dC dI cI cJ cS  x6 x7 x1 fa fb fc x7s x7c ) (cwV 2 hts gX9_tooMuch_X0_countLeaks rfl rfl rfl (by decide +kernel) ⟨Nat.le_of_ble_eq_true rfl, Nat.le_of_ble_eq_true rfl⟩) (preRV (hP.sub (ws' := [(x6, .inr (0, [.ref fa, .ref fb, .ref fc])), (x7, .inr (4, [.ref x7s, .ref x7c, .int 0, .int 0, .int 0, .int 0]))]) [1, 2] rfl) hE 0 (ci := 0) rfl rfl) rfl rfl hl.1 rfl (lv_room (Nat.le_of_ble_eq_true rfl)) dX9_tooMuch_27 ⟨by decide +kernel, by decide +kernel⟩)) (fun r_3 hr_4 => ?_)
  obtain rfl := hr_4
  refine lv_if_ne (tgt := 35) hx hb dX9_tooMuch_30 (by decide) (fun c_5 => absurd (by decide) c_5) (fun _ => ?_)
  refine lv_iconst (v := 0) hx hb dX9_tooMuch_33 (by decide) ?_
  exact W.iret (v := 0) hx hb hr (fun tt_ ht hW => ⟨_, rfl, rfl, ht⟩) (fun _ h => by cases h) dX9_tooMuch_34
set_option maxHeartbeats 1000000 in
set_option maxRecDepth 100000 in
theorem c_count (l : Launch) (dC : Nat → ClassId) (dI : Nat → Nat → Nat) (cI cJ cS : ClassId) (h : Nat) (k : Int32) (x1 : Nat) (x2 : Nat) (x3 : Nat) (x4 : Nat) (x5 : Nat) (x6 : Nat) (x7 : Nat) (xb : Nat) (x7s : Nat) (x7c : Nat)  : Met l yX9_count wsX9_count ({ frames := 1, cells := 0, slots := 0, locals := 23 }) (va_Pc [.ref h, .int k] (PR dC dI cI cJ cS [(h, .inr (9, [.ref x1, .ref x2, .ref x3, .ref x4, .ref x5, .ref x6, .ref x7])), (x1, aI cI 6 (fun _ => 0)), (x2, .inr (6, [.ref xb, .int 0])), (x7, .inr (4, [.ref x7s, .ref x7c, .int 0, .int 0, .int 0, .int 0]))])) (vp_Si (fun r : Int32 => r = okE (inR k 0 6) (if k = 3 then 6 else 0))) 0 0 (fun _ => False) := by
  refine Met.ofW (cc := cX9_count) (maxL := 2) (ret := (some .int)) (by decide) rfl ?_
  intro pp_ ee_ ss_ mm_ args below meth cc_ s₁ B hml hv
  obtain ⟨rfl, hP, hE⟩ := hv
  have hx := B.exec
  have hb := B.bytes
  have hr := B.returns
  have hts := atoms_spec (ws := wsX9_count) B.pre
  have hown : ss_.vm.findClass RX9 = some mm_.cls := findClass_of_methodNamed B.named
  have hlocks := B.notSynchronized
  have hK := hE.1
  have hiX4 : ∀ w ∈ wsX40, w ∈ wsX9_count := by decide +kernel
  have hiX6 : ∀ w ∈ wsX60, w ∈ wsX9_count := by decide +kernel
  have hiX9 : ∀ w ∈ wsX90, w ∈ wsX9_count := by decide +kernel
  have hP : va_P (dC, dI) vwCl [(h, .inr (9, [.ref x1, .ref x2, .ref x3, .ref x4, .ref x5, .ref x6, .ref x7])), (x1, aI cI 6 (fun _ => 0)), (x2, .inr (6, [.ref xb, .int 0])), (x7, .inr (4, [.ref x7s, .ref x7c, .int 0, .int 0, .int 0, .int 0]))] ss_.heap := hP
  have hl := lv_entry ([.ref h, .int k]) (n := 2) (Nat.le_of_ble_eq_true rfl)
  rw [lg_entry_eq]
  generalize (lg_sl ([.ref h, .int k]) ++ List.replicate (2 - (lg_sl ([.ref h, .int k])).length) Slot.unset).toArray = ls at hl ⊢
  have hl : lv_has ls 2 [(0, .ref h), (1, .int k)] := hl
  refine lv_iload_n hx hb dX9_count_0 rfl (lv_at hl 1 rfl) ?_
  by_cases c_1 : k = 0
  · refine lv_tableIn (off := 27) (tgt := 28) hx hb dX9_count_1 (by rw [c_1]; decide) (by rw [c_1]; decide) (by rw [c_1]; decide) (by decide) ?_
    refine lv_aload_n hx hb dX9_count_28 rfl (lv_at hl 0 rfl) ?_
    refine va_get (D := (dC, dI)) (ci := 9) (v := .ref x7) (C := RX9) (T := TX9) (N := 7) hx hb hts hiX9 hown hK hP 0 rfl rfl 6 (by decide) (hts (.fieldLink RX9 51 "WatchedPrograms" "program" "LWatchedPrograms$Program;") (by decide +kernel)) (fun _ h9 => h9) rfl dX9_count_29 ?_
    refine va_get (D := (dC, dI)) (ci := 4) (v := .int 0) (C := RX4) (T := TX4) (N := 6) hx hb hts hiX4 hown hK hP 3 rfl rfl 2 (by decide) (hts (.fieldLink RX9 81 "WatchedPrograms$Program" "size" "I") (by decide +kernel)) (fun _ h9 => h9) rfl dX9_count_32 ?_
    exact W.iret (v := 0) hx hb hr (fun tt_ ht hW => ⟨_, rfl, (by rw [okE, if_pos (by simp only [inR, Int32.lt_iff_toInt_lt, Int32.le_iff_toInt_le, ← Int32.toInt_inj, tI_0, tI_1, tI_2, tI_3, tI_4, tI_5, tI_6, tI_7, tI_8, tI_20, tI_30, tI_300, tI_400, tI_4095, tI_4096, tI_m1, tI_m2, tI_m3, tI_m9] at c_1 ⊢ <;> omega), if_neg (by simp only [inR, Int32.lt_iff_toInt_lt, Int32.le_iff_toInt_le, ← Int32.toInt_inj, tI_0, tI_1, tI_2, tI_3, tI_4, tI_5, tI_6, tI_7, tI_8, tI_20, tI_30, tI_300, tI_400, tI_4095, tI_4096, tI_m1, tI_m2, tI_m3, tI_m9] at c_1 ⊢ <;> omega)]), ht⟩) (fun _ h => by cases h) dX9_count_35
  by_cases c_2 : k = 1
  · refine lv_tableIn (off := 35) (tgt := 36) hx hb dX9_count_1 (by rw [c_2]; decide) (by rw [c_2]; decide) (by rw [c_2]; decide) (by decide) ?_
    refine lv_aload_n hx hb dX9_count_36 rfl (lv_at hl 0 rfl) ?_
    refine va_get (D := (dC, dI)) (ci := 9) (v := .ref x7) (C := RX9) (T := TX9) (N := 7) hx hb hts hiX9 hown hK hP 0 rfl rfl 6 (by decide) (hts (.fieldLink RX9 51 "WatchedPrograms" "program" "LWatchedPrograms$Program;") (by decide +kernel)) (fun _ h9 => h9) rfl dX9_count_37 ?_
    refine va_get (D := (dC, dI)) (ci := 4) (v := .int 0) (C := RX4) (T := TX4) (N := 6) hx hb hts hiX4 hown hK hP 3 rfl rfl 4 (by decide) (hts (.fieldLink RX9 201 "WatchedPrograms$Program" "outs" "I") (by decide +kernel)) (fun _ h9 => h9) rfl dX9_count_40 ?_
    exact W.iret (v := 0) hx hb hr (fun tt_ ht hW => ⟨_, rfl, (by rw [okE, if_pos (by simp only [inR, Int32.lt_iff_toInt_lt, Int32.le_iff_toInt_le, ← Int32.toInt_inj, tI_0, tI_1, tI_2, tI_3, tI_4, tI_5, tI_6, tI_7, tI_8, tI_20, tI_30, tI_300, tI_400, tI_4095, tI_4096, tI_m1, tI_m2, tI_m3, tI_m9] at c_1 c_2 ⊢ <;> omega), if_neg (by simp only [inR, Int32.lt_iff_toInt_lt, Int32.le_iff_toInt_le, ← Int32.toInt_inj, tI_0, tI_1, tI_2, tI_3, tI_4, tI_5, tI_6, tI_7, tI_8, tI_20, tI_30, tI_300, tI_400, tI_4095, tI_4096, tI_m1, tI_m2, tI_m3, tI_m9] at c_1 c_2 ⊢ <;> omega)]), ht⟩) (fun _ h => by cases h) dX9_count_43
  by_cases c_3 : k = 2
  · refine lv_tableIn (off := 43) (tgt := 44) hx hb dX9_count_1 (by rw [c_3]; decide) (by rw [c_3]; decide) (by rw [c_3]; decide) (by decide) ?_
    refine lv_aload_n hx hb dX9_count_44 rfl (lv_at hl 0 rfl) ?_
    refine va_get (D := (dC, dI)) (ci := 9) (v := .ref x2) (C := RX9) (T := TX9) (N := 7) hx hb hts hiX9 hown hK hP 0 rfl rfl 1 (by decide) (hts (.fieldLink RX9 16 "WatchedPrograms" "text" "LWatchedPrograms$Text;") (by decide +kernel)) (fun _ h9 => h9) rfl dX9_count_45 ?_
    refine va_get (D := (dC, dI)) (ci := 6) (v := .int 0) (C := RX6) (T := TX6) (N := 2) hx hb hts hiX6 hown hK hP 2 rfl rfl 1 (by decide) (hts (.fieldLink RX9 62 "WatchedPrograms$Text" "length" "I") (by decide +kernel)) (fun _ h9 => h9) rfl dX9_count_48 ?_
    exact W.iret (v := 0) hx hb hr (fun tt_ ht hW => ⟨_, rfl, (by rw [okE, if_pos (by simp only [inR, Int32.lt_iff_toInt_lt, Int32.le_iff_toInt_le, ← Int32.toInt_inj, tI_0, tI_1, tI_2, tI_3, tI_4, tI_5, tI_6, tI_7, tI_8, tI_20, tI_30, tI_300, tI_400, tI_4095, tI_4096, tI_m1, tI_m2, tI_m3, tI_m9] at c_1 c_2 c_3 ⊢ <;> omega), if_neg (by simp only [inR, Int32.lt_iff_toInt_lt, Int32.le_iff_toInt_le, ← Int32.toInt_inj, tI_0, tI_1, tI_2, tI_3, tI_4, tI_5, tI_6, tI_7, tI_8, tI_20, tI_30, tI_300, tI_400, tI_4095, tI_4096, tI_m1, tI_m2, tI_m3, tI_m9] at c_1 c_2 c_3 ⊢ <;> omega)]), ht⟩) (fun _ h => by cases h) dX9_count_51
  refine lv_tableOut (tgt := 52) hx hb dX9_count_1 (by have q0 : ¬ k.toInt = 0 := fun e => c_1 (Int32.toInt_inj.mp (e.trans (by decide))); have q1 : ¬ k.toInt = 1 := fun e => c_2 (Int32.toInt_inj.mp (e.trans (by decide))); have q2 : ¬ k.toInt = 2 := fun e => c_3 (Int32.toInt_inj.mp (e.trans (by decide))); omega) (by decide) ?_
  refine lv_iload_n hx hb dX9_count_52 rfl (lv_at hl 1 rfl) ?_
  refine lv_iconst (v := 3) hx hb dX9_count_53 (by decide) ?_
  refine lv_icmp_lt (tgt := 73) hx hb dX9_count_54 (by decide) (fun c_4 => ?_) (fun c_4 => ?_)
  · refine lv_iconst (v := (-1)) hx hb dX9_count_73 (by decide) ?_
    exact W.iret (v := (-1)) hx hb hr (fun tt_ ht hW => ⟨_, rfl, (by rw [okE, if_neg (by simp only [inR, Int32.lt_iff_toInt_lt, Int32.le_iff_toInt_le, ← Int32.toInt_inj, tI_0, tI_1, tI_2, tI_3, tI_4, tI_5, tI_6, tI_7, tI_8, tI_20, tI_30, tI_300, tI_400, tI_4095, tI_4096, tI_m1, tI_m2, tI_m3, tI_m9] at c_1 c_2 c_3 c_4 ⊢ <;> omega)]), ht⟩) (fun _ h => by cases h) dX9_count_74
  · refine lv_iload_n hx hb dX9_count_57 rfl (lv_at hl 1 rfl) ?_
    refine lv_bipush (v := 6) hx hb dX9_count_58 (by decide) ?_
    refine lv_icmp_gt (tgt := 73) hx hb dX9_count_60 (by decide) (fun c_5 => ?_) (fun c_5 => ?_)
    · refine lv_iconst (v := (-1)) hx hb dX9_count_73 (by decide) ?_
      exact W.iret (v := (-1)) hx hb hr (fun tt_ ht hW => ⟨_, rfl, (by rw [okE, if_neg (by simp only [inR, Int32.lt_iff_toInt_lt, Int32.le_iff_toInt_le, ← Int32.toInt_inj, tI_0, tI_1, tI_2, tI_3, tI_4, tI_5, tI_6, tI_7, tI_8, tI_20, tI_30, tI_300, tI_400, tI_4095, tI_4096, tI_m1, tI_m2, tI_m3, tI_m9] at c_1 c_2 c_3 c_4 c_5 ⊢ <;> omega)]), ht⟩) (fun _ h => by cases h) dX9_count_74
    · refine lv_aload_n hx hb dX9_count_63 rfl (lv_at hl 0 rfl) ?_
      refine lv_iload_n hx hb dX9_count_64 rfl (lv_at hl 1 rfl) ?_
      refine lv_iconst (v := 3) hx hb dX9_count_65 (by decide) ?_
      refine lv_isub hx hb dX9_count_66 ?_
      refine vp_callSi (va_Run.run (va_runV (As := [.int (k - 3)]) (rest := []) ⟨hx, hb, hml, hown, hts⟩ (c_countCells l dC dI cI cJ cS  h (k - 3) x1 x2 x3 x4 x5 x6 x7 ) (cwV 1 hts gX9_count_X9_countCells rfl rfl rfl (by decide +kernel) ⟨Nat.le_of_ble_eq_true rfl, Nat.le_of_ble_eq_true rfl⟩) (preRV (hP.sub (ws' := [(h, .inr (9, [.ref x1, .ref x2, .ref x3, .ref x4, .ref x5, .ref x6, .ref x7])), (x1, aI cI 6 (fun _ => 0))]) [0, 1] rfl) hE 0 (ci := 9) rfl rfl) rfl rfl hl.1 rfl (lv_room (Nat.le_of_ble_eq_true rfl)) dX9_count_67 ⟨by decide +kernel, by decide +kernel⟩)) (fun r_6 hr_7 => ?_)
      obtain rfl := hr_7
      refine lv_goto (tgt := 74) hx hb dX9_count_70 (by decide) ?_
      exact W.iret (v := (if (0 : Int32) = (k - 3) then 6 else 0)) hx hb hr (fun tt_ ht hW => ⟨_, rfl, (by rw [okE, if_pos (by simp only [inR, Int32.lt_iff_toInt_lt, Int32.le_iff_toInt_le, ← Int32.toInt_inj, tI_0, tI_1, tI_2, tI_3, tI_4, tI_5, tI_6, tI_7, tI_8, tI_20, tI_30, tI_300, tI_400, tI_4095, tI_4096, tI_m1, tI_m2, tI_m3, tI_m9] at c_1 c_2 c_3 c_4 c_5 ⊢ <;> omega)]; exact count_r k), ht⟩) (fun _ h => by cases h) dX9_count_74
