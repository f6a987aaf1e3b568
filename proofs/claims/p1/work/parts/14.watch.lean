set_option maxHeartbeats 1000000 in
set_option maxRecDepth 100000 in
theorem c_exchange (l : Launch) (dC : Nat → ClassId) (dI : Nat → Nat → Nat) (cI cJ cS : ClassId) (sz : Nat) (x3 : Nat) (o : Nat) (tk : Nat) (pp : Nat)  : Met l yX3_exchange wsX3_exchange ({ frames := 0, cells := 0, slots := 0, locals := 0 }) (va_Pc [.ref x3, .ref o] (PE dC dI cI cJ cS [(x3, .inr (3, [.ref tk, .ref pp, .int 0, .int 0]))] sz)) (va_Qr (fun (_ : Unit) => True) (fun u a t => a = pp ∧ BE dC dI (va_A [(x3, .inr (3, [.ref tk, .ref pp, .int 0, .int 0]))] sz) (fun (_ : Unit) => [(x3, .inr (3, [.ref tk, .ref o, .int 0, .int 0]))]) u t) (va_A [(x3, .inr (3, [.ref tk, .ref pp, .int 0, .int 0]))] sz)) 0 0 (va_A [(x3, .inr (3, [.ref tk, .ref pp, .int 0, .int 0]))] sz) := by
  refine Met.ofW (cc := cX3_exchange) (maxL := 3) (ret := (some (.object "WatchedPrograms$Program"))) (by decide) rfl ?_
  intro pp_ ee_ ss_ mm_ args below meth cc_ s₁ B hml hv
  obtain ⟨rfl, hsz, hP, hE, hD0⟩ := hv
  have hx := B.exec
  have hb := B.bytes
  have hr := B.returns
  have hts := atoms_spec (ws := wsX3_exchange) B.pre
  have hown : ss_.vm.findClass RX3 = some mm_.cls := findClass_of_methodNamed B.named
  have hlocks := B.notSynchronized
  have hK := hE.1
  have hiX3 : ∀ w ∈ wsX30, w ∈ wsX3_exchange := by decide +kernel
  subst hsz
  have hD := hD0.self (sz := ss_.heap.size)
  generalize hAe : va_A [(x3, .inr (3, [.ref tk, .ref pp, .int 0, .int 0]))] ss_.heap.size = A at hD ⊢
  have hA : ∀ q : Nat, ss_.heap.size ≤ q → A q := fun q h => by rw [← hAe]; exact Or.inr h
  have hS : va_S A ss_.heap ss_.heap [] := va_S.rf
  have hP : va_P (dC, dI) vwCl [(x3, .inr (3, [.ref tk, .ref pp, .int 0, .int 0]))] ss_.heap := hP
  have hl := lv_entry ([.ref x3, .ref o]) (n := 3) (Nat.le_of_ble_eq_true rfl)
  rw [lg_entry_eq]
  generalize (lg_sl ([.ref x3, .ref o]) ++ List.replicate (3 - (lg_sl ([.ref x3, .ref o])).length) Slot.unset).toArray = ls at hl ⊢
  have hl : lv_has ls 3 [(0, .ref x3), (1, .ref o)] := hl
  refine lv_aload_n hx hb dX3_exchange_0 rfl (lv_at hl 0 rfl) ?_
  refine va_get (D := (dC, dI)) (ci := 3) (v := .ref pp) (C := RX3) (T := TX3) (N := 4) hx hb hts hiX3 hown hK hP 0 rfl rfl 1 (by decide) (hts (.fieldLink RX3 21 "WatchedPrograms$Parser" "program" "LWatchedPrograms$Program;") (by decide +kernel)) (fun _ h9 => h9) rfl dX3_exchange_1 ?_
  refine lv_astore_n (lv' := [(2, .ref pp), (0, .ref x3), (1, .ref o)]) hx hb dX3_exchange_4 rfl hl (by decide) rfl (fun ls hl => ?_)
  refine lv_aload_n hx hb dX3_exchange_5 rfl (lv_at hl 1 rfl) ?_
  refine lv_aload_n hx hb dX3_exchange_6 rfl (lv_at hl 2 rfl) ?_
  refine va_put (D := (dC, dI)) (ci := 3) (v := .ref o) (ty := (.object "WatchedPrograms$Program")) (C := RX3) (T := TX3) (N := 4) hx hb hts hiX3 tyX3 tyX3_ok nmX3 hown hK hP hD hS 0 rfl rfl 1 (by decide) (hts (.fieldLink RX3 21 "WatchedPrograms$Parser" "program" "LWatchedPrograms$Program;") (by decide +kernel)) (fun _ h9 => h9) rfl (by decide +kernel) rfl rfl (Nat.le_of_ble_eq_true rfl) dX3_exchange_7 (fun H locs hP hD hS => ?_)
  have hP : va_P (dC, dI) vwCl [(x3, .inr (3, [.ref tk, .ref o, .int 0, .int 0]))] H := hP
  have hD : va_D A [(x3, .inr (3, [.ref tk, .ref o, .int 0, .int 0]))] := hD
  refine lv_aload_n hx hb dX3_exchange_10 rfl (lv_at hl 0 rfl) ?_
  have hP9 := hP.sub (ws' := [(x3, .inr (3, [.ref tk, .ref o, .int 0, .int 0]))]) [0] rfl
  have hD9 := hD.sub (ws' := [(x3, .inr (3, [.ref tk, .ref o, .int 0, .int 0]))]) [0] (by decide) rfl
  exact W.aret (v := .ref pp) hx hb hr (Or.inl ⟨_, rfl⟩) (Or.inr ⟨_, rfl⟩) (fun tt_ ht hW => ⟨⟨(), _, rfl, trivial, rfl, by rw [ht]; exact hP9, hD9⟩, hS.F ht⟩) hS.2.2 dX3_exchange_11
set_option maxHeartbeats 1000000 in
set_option maxRecDepth 100000 in
theorem c_forget (l : Launch) (dC : Nat → ClassId) (dI : Nat → Nat → Nat) (cI cJ cS : ClassId) (sz : Nat) (x5 : Nat) (wm : Nat) (wt : Nat) (wv : Nat) (wk : Nat) (we : Nat) (wf : Nat) (wp : Nat)  : Met l yX8_forget wsX8_forget ({ frames := 0, cells := 0, slots := 0, locals := 0 }) (va_Pc [.ref x5] (PE dC dI cI cJ cS [(x5, .inr (8, [.ref wm, .ref wt, .ref wv, .ref wk, .int 1, .ref we, .ref wf, .int 0, .ref wp, .int 0, .long 0, .int 0, .int 0, .int 0, .int 0, .int 0, .int 0]))] sz)) (va_Qv (fun (_ : Unit) => True) (BE dC dI (va_A [(x5, .inr (8, [.ref wm, .ref wt, .ref wv, .ref wk, .int 1, .ref we, .ref wf, .int 0, .ref wp, .int 0, .long 0, .int 0, .int 0, .int 0, .int 0, .int 0, .int 0]))] sz) (fun (_ : Unit) => [(x5, .inr (8, [.ref wm, .ref wt, .ref wv, .ref wk, .int 2, .ref we, .ref wf, .int 0, .ref wp, .int 0, .long 0, .int 0, .int 0, .int 0, .int 0, .int 0, .int 0]))])) (va_A [(x5, .inr (8, [.ref wm, .ref wt, .ref wv, .ref wk, .int 1, .ref we, .ref wf, .int 0, .ref wp, .int 0, .long 0, .int 0, .int 0, .int 0, .int 0, .int 0, .int 0]))] sz)) 0 0 (va_A [(x5, .inr (8, [.ref wm, .ref wt, .ref wv, .ref wk, .int 1, .ref we, .ref wf, .int 0, .ref wp, .int 0, .long 0, .int 0, .int 0, .int 0, .int 0, .int 0, .int 0]))] sz) := by
  refine Met.ofW (cc := cX8_forget) (maxL := 1) (ret := none) (by decide) rfl ?_
  intro pp_ ee_ ss_ mm_ args below meth cc_ s₁ B hml hv
  obtain ⟨rfl, hsz, hP, hE, hD0⟩ := hv
  have hx := B.exec
  have hb := B.bytes
  have hr := B.returns
  have hts := atoms_spec (ws := wsX8_forget) B.pre
  have hown : ss_.vm.findClass RX8 = some mm_.cls := findClass_of_methodNamed B.named
  have hlocks := B.notSynchronized
  have hK := hE.1
  have hiX8 : ∀ w ∈ wsX80, w ∈ wsX8_forget := by decide +kernel
  subst hsz
  have hD := hD0.self (sz := ss_.heap.size)
  generalize hAe : va_A [(x5, .inr (8, [.ref wm, .ref wt, .ref wv, .ref wk, .int 1, .ref we, .ref wf, .int 0, .ref wp, .int 0, .long 0, .int 0, .int 0, .int 0, .int 0, .int 0, .int 0]))] ss_.heap.size = A at hD ⊢
  have hA : ∀ q : Nat, ss_.heap.size ≤ q → A q := fun q h => by rw [← hAe]; exact Or.inr h
  have hS : va_S A ss_.heap ss_.heap [] := va_S.rf
  have hP : va_P (dC, dI) vwCl [(x5, .inr (8, [.ref wm, .ref wt, .ref wv, .ref wk, .int 1, .ref we, .ref wf, .int 0, .ref wp, .int 0, .long 0, .int 0, .int 0, .int 0, .int 0, .int 0, .int 0]))] ss_.heap := hP
  have hl := lv_entry ([.ref x5]) (n := 1) (Nat.le_of_ble_eq_true rfl)
  rw [lg_entry_eq]
  generalize (lg_sl ([.ref x5]) ++ List.replicate (1 - (lg_sl ([.ref x5])).length) Slot.unset).toArray = ls at hl ⊢
  have hl : lv_has ls 1 [(0, .ref x5)] := hl
  refine lv_aload_n hx hb dX8_forget_0 rfl (lv_at hl 0 rfl) ?_
  refine lv_dup hx hb dX8_forget_1 rfl ?_
  refine va_get (D := (dC, dI)) (ci := 8) (v := .int 1) (C := RX8) (T := TX8) (N := 17) hx hb hts hiX8 hown hK hP 0 rfl rfl 4 (by decide) (hts (.fieldLink RX8 33 "WatchedPrograms$Watch" "stamp" "I") (by decide +kernel)) (fun _ h9 => h9) rfl dX8_forget_2 ?_
  refine lv_iconst (v := 1) hx hb dX8_forget_5 (by decide) ?_
  refine lv_iadd hx hb dX8_forget_6 ?_
  refine zi (y := 2) (by decide) ?_
  refine va_put (D := (dC, dI)) (ci := 8) (v := .int 2) (ty := .int) (C := RX8) (T := TX8) (N := 17) hx hb hts hiX8 tyX8 tyX8_ok nmX8 hown hK hP hD hS 0 rfl rfl 4 (by decide) (hts (.fieldLink RX8 33 "WatchedPrograms$Watch" "stamp" "I") (by decide +kernel)) (fun _ h9 => h9) rfl (by decide +kernel) rfl rfl (Nat.le_of_ble_eq_true rfl) dX8_forget_7 (fun H locs hP hD hS => ?_)
  have hP : va_P (dC, dI) vwCl [(x5, .inr (8, [.ref wm, .ref wt, .ref wv, .ref wk, .int 2, .ref we, .ref wf, .int 0, .ref wp, .int 0, .long 0, .int 0, .int 0, .int 0, .int 0, .int 0, .int 0]))] H := hP
  have hD : va_D A [(x5, .inr (8, [.ref wm, .ref wt, .ref wv, .ref wk, .int 2, .ref we, .ref wf, .int 0, .ref wp, .int 0, .long 0, .int 0, .int 0, .int 0, .int 0, .int 0, .int 0]))] := hD
  have hP9 := hP.sub (ws' := [(x5, .inr (8, [.ref wm, .ref wt, .ref wv, .ref wk, .int 2, .ref we, .ref wf, .int 0, .ref wp, .int 0, .long 0, .int 0, .int 0, .int 0, .int 0, .int 0, .int 0]))]) [0] rfl
  have hD9 := hD.sub (ws' := [(x5, .inr (8, [.ref wm, .ref wt, .ref wv, .ref wk, .int 2, .ref we, .ref wf, .int 0, .ref wp, .int 0, .long 0, .int 0, .int 0, .int 0, .int 0, .int 0, .int 0]))]) [0] (by decide) rfl
  exact W.vret hx hb hr (fun tt_ ht hW => ⟨⟨(), rfl, trivial, by rw [ht]; exact hP9, hD9⟩, hS.F ht⟩) hS.2.2 dX8_forget_10
set_option maxHeartbeats 1000000 in
set_option maxRecDepth 100000 in
theorem c_read (l : Launch) (dC : Nat → ClassId) (dI : Nat → Nat → Nat) (cI cJ cS : ClassId) (sz : Nat) (h : Nat) (x1 : Nat) (x2 : Nat) (x3 : Nat) (x4 : Nat) (x5 : Nat) (x6 : Nat) (x7 : Nat) (xb : Nat) (tk : Nat) (pp : Nat) (ka : Nat) (kb : Nat) (kc : Nat) (pps : Nat) (ppc : Nat) (wm : Nat) (wt : Nat) (wv : Nat) (wk : Nat) (we : Nat) (wf : Nat) (wp : Nat) (x7s : Nat) (x7c : Nat)  : Met l yX9_read wsX9_read ({ frames := 3, cells := 0, slots := 0, locals := 69 }) (va_Pc [.ref h] (PE dC dI cI cJ cS [(h, .inr (9, [.ref x1, .ref x2, .ref x3, .ref x4, .ref x5, .ref x6, .ref x7])), (x2, .inr (6, [.ref xb, .int 0])), (x3, .inr (3, [.ref tk, .ref pp, .int 0, .int 0])), (tk, .inr (7, [.ref ka, .ref kb, .ref kc, .int 0, .int 0, .int 0, .int 0, .int 0])), (ka, aI cI 301 (fun _ => 0)), (kb, aI cI 301 (fun _ => 0)), (kc, aI cI 301 (fun _ => 0)), (pp, .inr (4, [.ref pps, .ref ppc, .int 0, .int 0, .int 0, .int 0])), (x5, .inr (8, [.ref wm, .ref wt, .ref wv, .ref wk, .int 1, .ref we, .ref wf, .int 0, .ref wp, .int 0, .long 0, .int 0, .int 0, .int 0, .int 0, .int 0, .int 0])), (x7, .inr (4, [.ref x7s, .ref x7c, .int 0, .int 0, .int 0, .int 0]))] sz)) (va_Qi (fun (r : Int32) (_ : Unit) => r = 0) (BE dC dI (va_A [(h, .inr (9, [.ref x1, .ref x2, .ref x3, .ref x4, .ref x5, .ref x6, .ref x7])), (x2, .inr (6, [.ref xb, .int 0])), (x3, .inr (3, [.ref tk, .ref pp, .int 0, .int 0])), (tk, .inr (7, [.ref ka, .ref kb, .ref kc, .int 0, .int 0, .int 0, .int 0, .int 0])), (ka, aI cI 301 (fun _ => 0)), (kb, aI cI 301 (fun _ => 0)), (kc, aI cI 301 (fun _ => 0)), (pp, .inr (4, [.ref pps, .ref ppc, .int 0, .int 0, .int 0, .int 0])), (x5, .inr (8, [.ref wm, .ref wt, .ref wv, .ref wk, .int 1, .ref we, .ref wf, .int 0, .ref wp, .int 0, .long 0, .int 0, .int 0, .int 0, .int 0, .int 0, .int 0])), (x7, .inr (4, [.ref x7s, .ref x7c, .int 0, .int 0, .int 0, .int 0]))] sz) (fun (_ : Unit) => [])) (va_A [(h, .inr (9, [.ref x1, .ref x2, .ref x3, .ref x4, .ref x5, .ref x6, .ref x7])), (x2, .inr (6, [.ref xb, .int 0])), (x3, .inr (3, [.ref tk, .ref pp, .int 0, .int 0])), (tk, .inr (7, [.ref ka, .ref kb, .ref kc, .int 0, .int 0, .int 0, .int 0, .int 0])), (ka, aI cI 301 (fun _ => 0)), (kb, aI cI 301 (fun _ => 0)), (kc, aI cI 301 (fun _ => 0)), (pp, .inr (4, [.ref pps, .ref ppc, .int 0, .int 0, .int 0, .int 0])), (x5, .inr (8, [.ref wm, .ref wt, .ref wv, .ref wk, .int 1, .ref we, .ref wf, .int 0, .ref wp, .int 0, .long 0, .int 0, .int 0, .int 0, .int 0, .int 0, .int 0])), (x7, .inr (4, [.ref x7s, .ref x7c, .int 0, .int 0, .int 0, .int 0]))] sz)) 0 0 (va_A [(h, .inr (9, [.ref x1, .ref x2, .ref x3, .ref x4, .ref x5, .ref x6, .ref x7])), (x2, .inr (6, [.ref xb, .int 0])), (x3, .inr (3, [.ref tk, .ref pp, .int 0, .int 0])), (tk, .inr (7, [.ref ka, .ref kb, .ref kc, .int 0, .int 0, .int 0, .int 0, .int 0])), (ka, aI cI 301 (fun _ => 0)), (kb, aI cI 301 (fun _ => 0)), (kc, aI cI 301 (fun _ => 0)), (pp, .inr (4, [.ref pps, .ref ppc, .int 0, .int 0, .int 0, .int 0])), (x5, .inr (8, [.ref wm, .ref wt, .ref wv, .ref wk, .int 1, .ref we, .ref wf, .int 0, .ref wp, .int 0, .long 0, .int 0, .int 0, .int 0, .int 0, .int 0, .int 0])), (x7, .inr (4, [.ref x7s, .ref x7c, .int 0, .int 0, .int 0, .int 0]))] sz) := by
  refine Met.ofW (cc := cX9_read) (maxL := 2) (ret := (some .int)) (by decide) rfl ?_
  intro pp_ ee_ ss_ mm_ args below meth cc_ s₁ B hml hv
  obtain ⟨rfl, hsz, hP, hE, hD0⟩ := hv
  have hx := B.exec
  have hb := B.bytes
  have hr := B.returns
  have hts := atoms_spec (ws := wsX9_read) B.pre
  have hown : ss_.vm.findClass RX9 = some mm_.cls := findClass_of_methodNamed B.named
  have hlocks := B.notSynchronized
  have hK := hE.1
  have hiX4 : ∀ w ∈ wsX40, w ∈ wsX9_read := by decide +kernel
  have hiX6 : ∀ w ∈ wsX60, w ∈ wsX9_read := by decide +kernel
  have hiX9 : ∀ w ∈ wsX90, w ∈ wsX9_read := by decide +kernel
  subst hsz
  have hD := hD0.self (sz := ss_.heap.size)
  generalize hAe : va_A [(h, .inr (9, [.ref x1, .ref x2, .ref x3, .ref x4, .ref x5, .ref x6, .ref x7])), (x2, .inr (6, [.ref xb, .int 0])), (x3, .inr (3, [.ref tk, .ref pp, .int 0, .int 0])), (tk, .inr (7, [.ref ka, .ref kb, .ref kc, .int 0, .int 0, .int 0, .int 0, .int 0])), (ka, aI cI 301 (fun _ => 0)), (kb, aI cI 301 (fun _ => 0)), (kc, aI cI 301 (fun _ => 0)), (pp, .inr (4, [.ref pps, .ref ppc, .int 0, .int 0, .int 0, .int 0])), (x5, .inr (8, [.ref wm, .ref wt, .ref wv, .ref wk, .int 1, .ref we, .ref wf, .int 0, .ref wp, .int 0, .long 0, .int 0, .int 0, .int 0, .int 0, .int 0, .int 0])), (x7, .inr (4, [.ref x7s, .ref x7c, .int 0, .int 0, .int 0, .int 0]))] ss_.heap.size = A at hD ⊢
  have hA : ∀ q : Nat, ss_.heap.size ≤ q → A q := fun q h => by rw [← hAe]; exact Or.inr h
  have hS : va_S A ss_.heap ss_.heap [] := va_S.rf
  have hP : va_P (dC, dI) vwCl [(h, .inr (9, [.ref x1, .ref x2, .ref x3, .ref x4, .ref x5, .ref x6, .ref x7])), (x2, .inr (6, [.ref xb, .int 0])), (x3, .inr (3, [.ref tk, .ref pp, .int 0, .int 0])), (tk, .inr (7, [.ref ka, .ref kb, .ref kc, .int 0, .int 0, .int 0, .int 0, .int 0])), (ka, aI cI 301 (fun _ => 0)), (kb, aI cI 301 (fun _ => 0)), (kc, aI cI 301 (fun _ => 0)), (pp, .inr (4, [.ref pps, .ref ppc, .int 0, .int 0, .int 0, .int 0])), (x5, .inr (8, [.ref wm, .ref wt, .ref wv, .ref wk, .int 1, .ref we, .ref wf, .int 0, .ref wp, .int 0, .long 0, .int 0, .int 0, .int 0, .int 0, .int 0, .int 0])), (x7, .inr (4, [.ref x7s, .ref x7c, .int 0, .int 0, .int 0, .int 0]))] ss_.heap := hP
  have hl := lv_entry ([.ref h]) (n := 2) (Nat.le_of_ble_eq_true rfl)
  rw [lg_entry_eq]
  generalize (lg_sl ([.ref h]) ++ List.replicate (2 - (lg_sl ([.ref h])).length) Slot.unset).toArray = ls at hl ⊢
  have hl : lv_has ls 2 [(0, .ref h)] := hl
  refine lv_aload_n hx hb dX9_read_0 rfl (lv_at hl 0 rfl) ?_
  refine va_get (D := (dC, dI)) (ci := 9) (v := .ref x3) (C := RX9) (T := TX9) (N := 7) hx hb hts hiX9 hown hK hP 0 rfl rfl 2 (by decide) (hts (.fieldLink RX9 23 "WatchedPrograms" "parser" "LWatchedPrograms$Parser;") (by decide +kernel)) (fun _ h9 => h9) rfl dX9_read_1 ?_
  refine lv_aload_n hx hb dX9_read_4 rfl (lv_at hl 0 rfl) ?_
  refine va_get (D := (dC, dI)) (ci := 9) (v := .ref x2) (C := RX9) (T := TX9) (N := 7) hx hb hts hiX9 hown hK hP 0 rfl rfl 1 (by decide) (hts (.fieldLink RX9 16 "WatchedPrograms" "text" "LWatchedPrograms$Text;") (by decide +kernel)) (fun _ h9 => h9) rfl dX9_read_5 ?_
  have hFc := va_free (wc := [(x2, .inr (6, [.ref xb, .int 0])), (x3, .inr (3, [.ref tk, .ref pp, .int 0, .int 0])), (tk, .inr (7, [.ref ka, .ref kb, .ref kc, .int 0, .int 0, .int 0, .int 0, .int 0])), (ka, aI cI 301 (fun _ => 0)), (kb, aI cI 301 (fun _ => 0)), (kc, aI cI 301 (fun _ => 0)), (pp, .inr (4, [.ref pps, .ref ppc, .int 0, .int 0, .int 0, .int 0]))]) hD hS hA [1, 2, 3, 4, 5, 6, 7] rfl
  refine zCi (wr := [(h, .inr (9, [.ref x1, .ref x2, .ref x3, .ref x4, .ref x5, .ref x6, .ref x7])), (x5, .inr (8, [.ref wm, .ref wt, .ref wv, .ref wk, .int 1, .ref we, .ref wf, .int 0, .ref wp, .int 0, .long 0, .int 0, .int 0, .int 0, .int 0, .int 0, .int 0])), (x7, .inr (4, [.ref x7s, .ref x7c, .int 0, .int 0, .int 0, .int 0]))]) hP hD hS hFc [1, 2, 3, 4, 5, 6, 7] [0, 8, 9] rfl rfl (by decide) (by decide) (va_runV (As := [.ref x2]) (rest := []) ⟨hx, hb, hml, hown, hts⟩ (c_parse l dC dI cI cJ cS ss_.heap.size x3 x2 xb tk pp ka kb kc pps ppc ) (cwV 1 hts gX9_read_X3_parse rfl rfl rfl (by decide +kernel) ⟨Nat.le_of_ble_eq_true rfl, Nat.le_of_ble_eq_true rfl⟩) (preEV (hP.sub (ws' := [(x2, .inr (6, [.ref xb, .int 0])), (x3, .inr (3, [.ref tk, .ref pp, .int 0, .int 0])), (tk, .inr (7, [.ref ka, .ref kb, .ref kc, .int 0, .int 0, .int 0, .int 0, .int 0])), (ka, aI cI 301 (fun _ => 0)), (kb, aI cI 301 (fun _ => 0)), (kc, aI cI 301 (fun _ => 0)), (pp, .inr (4, [.ref pps, .ref ppc, .int 0, .int 0, .int 0, .int 0]))]) [1, 2, 3, 4, 5, 6, 7] rfl) hE (hD.sub (ws' := [(x2, .inr (6, [.ref xb, .int 0])), (x3, .inr (3, [.ref tk, .ref pp, .int 0, .int 0])), (tk, .inr (7, [.ref ka, .ref kb, .ref kc, .int 0, .int 0, .int 0, .int 0, .int 0])), (ka, aI cI 301 (fun _ => 0)), (kb, aI cI 301 (fun _ => 0)), (kc, aI cI 301 (fun _ => 0)), (pp, .inr (4, [.ref pps, .ref ppc, .int 0, .int 0, .int 0, .int 0]))]) [1, 2, 3, 4, 5, 6, 7] (by decide) rfl) 1 (ci := 3) rfl rfl) rfl rfl hl.1 rfl (lv_room (Nat.le_of_ble_eq_true rfl)) dX9_read_8 ⟨by decide +kernel, by decide +kernel⟩) (fun r_1 u_3 H locs hr_2 hP hD hS => ?_)
  try dsimp only at hr_2
  have hP : va_P (dC, dI) vwCl [(h, .inr (9, [.ref x1, .ref x2, .ref x3, .ref x4, .ref x5, .ref x6, .ref x7])), (x5, .inr (8, [.ref wm, .ref wt, .ref wv, .ref wk, .int 1, .ref we, .ref wf, .int 0, .ref wp, .int 0, .long 0, .int 0, .int 0, .int 0, .int 0, .int 0, .int 0])), (x7, .inr (4, [.ref x7s, .ref x7c, .int 0, .int 0, .int 0, .int 0])), (x3, .inr (3, [.ref tk, .ref pp, .int 0, .int 0])), (pp, .inr (4, [.ref pps, .ref ppc, .int 0, .int 0, .int 0, .int 0])), (x2, .inr (6, [.ref xb, .int 0])), (tk, .inr (7, [.ref ka, .ref kb, .ref kc, .int 1, .int 0, .int 0, .int 0, .int 0])), (ka, aI cI 301 (upd (fun _ => 0) 0 0)), (kb, aI cI 301 (upd (fun _ => 0) 0 0)), (kc, aI cI 301 (upd (fun _ => 0) 0 0))] H := hP
  have hD : va_D A [(h, .inr (9, [.ref x1, .ref x2, .ref x3, .ref x4, .ref x5, .ref x6, .ref x7])), (x5, .inr (8, [.ref wm, .ref wt, .ref wv, .ref wk, .int 1, .ref we, .ref wf, .int 0, .ref wp, .int 0, .long 0, .int 0, .int 0, .int 0, .int 0, .int 0, .int 0])), (x7, .inr (4, [.ref x7s, .ref x7c, .int 0, .int 0, .int 0, .int 0])), (x3, .inr (3, [.ref tk, .ref pp, .int 0, .int 0])), (pp, .inr (4, [.ref pps, .ref ppc, .int 0, .int 0, .int 0, .int 0])), (x2, .inr (6, [.ref xb, .int 0])), (tk, .inr (7, [.ref ka, .ref kb, .ref kc, .int 1, .int 0, .int 0, .int 0, .int 0])), (ka, aI cI 301 (upd (fun _ => 0) 0 0)), (kb, aI cI 301 (upd (fun _ => 0) 0 0)), (kc, aI cI 301 (upd (fun _ => 0) 0 0))] := hD
  obtain rfl := hr_2
  refine lv_istore_n (lv' := [(1, .int (-1)), (0, .ref h)]) hx hb dX9_read_11 rfl hl (by decide) rfl (fun ls hl => ?_)
  refine lv_iload_n hx hb dX9_read_12 rfl (lv_at hl 0 rfl) ?_
  refine lv_if_lt (tgt := 21) hx hb dX9_read_13 (by decide) (fun _ => ?_) (fun c_4 => absurd (by decide) c_4)
  refine lv_aload_n hx hb dX9_read_21 rfl (lv_at hl 1 rfl) ?_
  refine lv_aload_n hx hb dX9_read_22 rfl (lv_at hl 1 rfl) ?_
  refine va_get (D := (dC, dI)) (ci := 9) (v := .ref x3) (C := RX9) (T := TX9) (N := 7) hx hb hts hiX9 hown hK hP 0 rfl rfl 2 (by decide) (hts (.fieldLink RX9 23 "WatchedPrograms" "parser" "LWatchedPrograms$Parser;") (by decide +kernel)) (fun _ h9 => h9) rfl dX9_read_23 ?_
  refine lv_aload_n hx hb dX9_read_26 rfl (lv_at hl 1 rfl) ?_
  refine va_get (D := (dC, dI)) (ci := 9) (v := .ref x7) (C := RX9) (T := TX9) (N := 7) hx hb hts hiX9 hown hK hP 0 rfl rfl 6 (by decide) (hts (.fieldLink RX9 51 "WatchedPrograms" "program" "LWatchedPrograms$Program;") (by decide +kernel)) (fun _ h9 => h9) rfl dX9_read_27 ?_
  have hFc := va_free (wc := [(x3, .inr (3, [.ref tk, .ref pp, .int 0, .int 0]))]) hD hS hA [3] rfl
  refine zCq (wr := [(h, .inr (9, [.ref x1, .ref x2, .ref x3, .ref x4, .ref x5, .ref x6, .ref x7])), (x5, .inr (8, [.ref wm, .ref wt, .ref wv, .ref wk, .int 1, .ref we, .ref wf, .int 0, .ref wp, .int 0, .long 0, .int 0, .int 0, .int 0, .int 0, .int 0, .int 0])), (x7, .inr (4, [.ref x7s, .ref x7c, .int 0, .int 0, .int 0, .int 0])), (pp, .inr (4, [.ref pps, .ref ppc, .int 0, .int 0, .int 0, .int 0])), (x2, .inr (6, [.ref xb, .int 0])), (tk, .inr (7, [.ref ka, .ref kb, .ref kc, .int 1, .int 0, .int 0, .int 0, .int 0])), (ka, aI cI 301 (upd (fun _ => 0) 0 0)), (kb, aI cI 301 (upd (fun _ => 0) 0 0)), (kc, aI cI 301 (upd (fun _ => 0) 0 0))]) hP hD hS hFc [3] [0, 1, 2, 4, 5, 6, 7, 8, 9] rfl rfl (by decide) (by decide) (va_runV (As := [.ref x7]) (rest := [.ref h]) ⟨hx, hb, hml, hown, hts⟩ (c_exchange l dC dI cI cJ cS H.size x3 x7 tk pp ) (cwV 1 hts gX9_read_X3_exchange rfl rfl rfl (by decide +kernel) ⟨Nat.le_of_ble_eq_true rfl, Nat.le_of_ble_eq_true rfl⟩) (preEV (hP.sub (ws' := [(x3, .inr (3, [.ref tk, .ref pp, .int 0, .int 0]))]) [3] rfl) hE (hD.sub (ws' := [(x3, .inr (3, [.ref tk, .ref pp, .int 0, .int 0]))]) [3] (by decide) rfl) 0 (ci := 3) rfl rfl) rfl rfl hl.1 rfl (lv_room (Nat.le_of_ble_eq_true rfl)) dX9_read_30 ⟨by decide +kernel, by decide +kernel⟩) (fun u_7 H locs hr_6 hP hD hS => ?_)
  try dsimp only at hr_6
  have hP : va_P (dC, dI) vwCl [(h, .inr (9, [.ref x1, .ref x2, .ref x3, .ref x4, .ref x5, .ref x6, .ref x7])), (x5, .inr (8, [.ref wm, .ref wt, .ref wv, .ref wk, .int 1, .ref we, .ref wf, .int 0, .ref wp, .int 0, .long 0, .int 0, .int 0, .int 0, .int 0, .int 0, .int 0])), (x7, .inr (4, [.ref x7s, .ref x7c, .int 0, .int 0, .int 0, .int 0])), (pp, .inr (4, [.ref pps, .ref ppc, .int 0, .int 0, .int 0, .int 0])), (x2, .inr (6, [.ref xb, .int 0])), (tk, .inr (7, [.ref ka, .ref kb, .ref kc, .int 1, .int 0, .int 0, .int 0, .int 0])), (ka, aI cI 301 (upd (fun _ => 0) 0 0)), (kb, aI cI 301 (upd (fun _ => 0) 0 0)), (kc, aI cI 301 (upd (fun _ => 0) 0 0)), (x3, .inr (3, [.ref tk, .ref x7, .int 0, .int 0]))] H := hP
  have hD : va_D A [(h, .inr (9, [.ref x1, .ref x2, .ref x3, .ref x4, .ref x5, .ref x6, .ref x7])), (x5, .inr (8, [.ref wm, .ref wt, .ref wv, .ref wk, .int 1, .ref we, .ref wf, .int 0, .ref wp, .int 0, .long 0, .int 0, .int 0, .int 0, .int 0, .int 0, .int 0])), (x7, .inr (4, [.ref x7s, .ref x7c, .int 0, .int 0, .int 0, .int 0])), (pp, .inr (4, [.ref pps, .ref ppc, .int 0, .int 0, .int 0, .int 0])), (x2, .inr (6, [.ref xb, .int 0])), (tk, .inr (7, [.ref ka, .ref kb, .ref kc, .int 1, .int 0, .int 0, .int 0, .int 0])), (ka, aI cI 301 (upd (fun _ => 0) 0 0)), (kb, aI cI 301 (upd (fun _ => 0) 0 0)), (kc, aI cI 301 (upd (fun _ => 0) 0 0)), (x3, .inr (3, [.ref tk, .ref x7, .int 0, .int 0]))] := hD
  refine va_put (D := (dC, dI)) (ci := 9) (v := .ref pp) (ty := (.object "WatchedPrograms$Program")) (C := RX9) (T := TX9) (N := 7) hx hb hts hiX9 tyX9 tyX9_ok nmX9 hown hK hP hD hS 0 rfl rfl 6 (by decide) (hts (.fieldLink RX9 51 "WatchedPrograms" "program" "LWatchedPrograms$Program;") (by decide +kernel)) (fun _ h9 => h9) rfl (by decide +kernel) rfl rfl (Nat.le_of_ble_eq_true rfl) dX9_read_33 (fun H locs hP hD hS => ?_)
  have hP : va_P (dC, dI) vwCl [(h, .inr (9, [.ref x1, .ref x2, .ref x3, .ref x4, .ref x5, .ref x6, .ref pp])), (x5, .inr (8, [.ref wm, .ref wt, .ref wv, .ref wk, .int 1, .ref we, .ref wf, .int 0, .ref wp, .int 0, .long 0, .int 0, .int 0, .int 0, .int 0, .int 0, .int 0])), (x7, .inr (4, [.ref x7s, .ref x7c, .int 0, .int 0, .int 0, .int 0])), (pp, .inr (4, [.ref pps, .ref ppc, .int 0, .int 0, .int 0, .int 0])), (x2, .inr (6, [.ref xb, .int 0])), (tk, .inr (7, [.ref ka, .ref kb, .ref kc, .int 1, .int 0, .int 0, .int 0, .int 0])), (ka, aI cI 301 (upd (fun _ => 0) 0 0)), (kb, aI cI 301 (upd (fun _ => 0) 0 0)), (kc, aI cI 301 (upd (fun _ => 0) 0 0)), (x3, .inr (3, [.ref tk, .ref x7, .int 0, .int 0]))] H := hP
  have hD : va_D A [(h, .inr (9, [.ref x1, .ref x2, .ref x3, .ref x4, .ref x5, .ref x6, .ref pp])), (x5, .inr (8, [.ref wm, .ref wt, .ref wv, .ref wk, .int 1, .ref we, .ref wf, .int 0, .ref wp, .int 0, .long 0, .int 0, .int 0, .int 0, .int 0, .int 0, .int 0])), (x7, .inr (4, [.ref x7s, .ref x7c, .int 0, .int 0, .int 0, .int 0])), (pp, .inr (4, [.ref pps, .ref ppc, .int 0, .int 0, .int 0, .int 0])), (x2, .inr (6, [.ref xb, .int 0])), (tk, .inr (7, [.ref ka, .ref kb, .ref kc, .int 1, .int 0, .int 0, .int 0, .int 0])), (ka, aI cI 301 (upd (fun _ => 0) 0 0)), (kb, aI cI 301 (upd (fun _ => 0) 0 0)), (kc, aI cI 301 (upd (fun _ => 0) 0 0)), (x3, .inr (3, [.ref tk, .ref x7, .int 0, .int 0]))] := hD
  refine lv_aload_n hx hb dX9_read_36 rfl (lv_at hl 1 rfl) ?_
  refine va_get (D := (dC, dI)) (ci := 9) (v := .ref x2) (C := RX9) (T := TX9) (N := 7) hx hb hts hiX9 hown hK hP 0 rfl rfl 1 (by decide) (hts (.fieldLink RX9 16 "WatchedPrograms" "text" "LWatchedPrograms$Text;") (by decide +kernel)) (fun _ h9 => h9) rfl dX9_read_37 ?_
  refine lv_iconst (v := 0) hx hb dX9_read_40 (by decide) ?_
  refine va_put (D := (dC, dI)) (ci := 6) (v := .int 0) (ty := .int) (C := RX6) (T := TX6) (N := 2) hx hb hts hiX6 tyX6 tyX6_ok nmX6 hown hK hP hD hS 4 rfl rfl 1 (by decide) (hts (.fieldLink RX9 62 "WatchedPrograms$Text" "length" "I") (by decide +kernel)) (fun _ h9 => h9) rfl (by decide +kernel) rfl rfl (Nat.le_of_ble_eq_true rfl) dX9_read_41 (fun H locs hP hD hS => ?_)
  have hP : va_P (dC, dI) vwCl [(h, .inr (9, [.ref x1, .ref x2, .ref x3, .ref x4, .ref x5, .ref x6, .ref pp])), (x5, .inr (8, [.ref wm, .ref wt, .ref wv, .ref wk, .int 1, .ref we, .ref wf, .int 0, .ref wp, .int 0, .long 0, .int 0, .int 0, .int 0, .int 0, .int 0, .int 0])), (x7, .inr (4, [.ref x7s, .ref x7c, .int 0, .int 0, .int 0, .int 0])), (pp, .inr (4, [.ref pps, .ref ppc, .int 0, .int 0, .int 0, .int 0])), (x2, .inr (6, [.ref xb, .int 0])), (tk, .inr (7, [.ref ka, .ref kb, .ref kc, .int 1, .int 0, .int 0, .int 0, .int 0])), (ka, aI cI 301 (upd (fun _ => 0) 0 0)), (kb, aI cI 301 (upd (fun _ => 0) 0 0)), (kc, aI cI 301 (upd (fun _ => 0) 0 0)), (x3, .inr (3, [.ref tk, .ref x7, .int 0, .int 0]))] H := hP
  have hD : va_D A [(h, .inr (9, [.ref x1, .ref x2, .ref x3, .ref x4, .ref x5, .ref x6, .ref pp])), (x5, .inr (8, [.ref wm, .ref wt, .ref wv, .ref wk, .int 1, .ref we, .ref wf, .int 0, .ref wp, .int 0, .long 0, .int 0, .int 0, .int 0, .int 0, .int 0, .int 0])), (x7, .inr (4, [.ref x7s, .ref x7c, .int 0, .int 0, .int 0, .int 0])), (pp, .inr (4, [.ref pps, .ref ppc, .int 0, .int 0, .int 0, .int 0])), (x2, .inr (6, [.ref xb, .int 0])), (tk, .inr (7, [.ref ka, .ref kb, .ref kc, .int 1, .int 0, .int 0, .int 0, .int 0])), (ka, aI cI 301 (upd (fun _ => 0) 0 0)), (kb, aI cI 301 (upd (fun _ => 0) 0 0)), (kc, aI cI 301 (upd (fun _ => 0) 0 0)), (x3, .inr (3, [.ref tk, .ref x7, .int 0, .int 0]))] := hD
  refine lv_aload_n hx hb dX9_read_44 rfl (lv_at hl 1 rfl) ?_
  refine va_get (D := (dC, dI)) (ci := 9) (v := .ref x5) (C := RX9) (T := TX9) (N := 7) hx hb hts hiX9 hown hK hP 0 rfl rfl 4 (by decide) (hts (.fieldLink RX9 37 "WatchedPrograms" "watch" "LWatchedPrograms$Watch;") (by decide +kernel)) (fun _ h9 => h9) rfl dX9_read_45 ?_
  have hFc := va_free (wc := [(x5, .inr (8, [.ref wm, .ref wt, .ref wv, .ref wk, .int 1, .ref we, .ref wf, .int 0, .ref wp, .int 0, .long 0, .int 0, .int 0, .int 0, .int 0, .int 0, .int 0]))]) hD hS hA [1] rfl
  refine zCv (wr := [(h, .inr (9, [.ref x1, .ref x2, .ref x3, .ref x4, .ref x5, .ref x6, .ref pp])), (x7, .inr (4, [.ref x7s, .ref x7c, .int 0, .int 0, .int 0, .int 0])), (pp, .inr (4, [.ref pps, .ref ppc, .int 0, .int 0, .int 0, .int 0])), (x2, .inr (6, [.ref xb, .int 0])), (tk, .inr (7, [.ref ka, .ref kb, .ref kc, .int 1, .int 0, .int 0, .int 0, .int 0])), (ka, aI cI 301 (upd (fun _ => 0) 0 0)), (kb, aI cI 301 (upd (fun _ => 0) 0 0)), (kc, aI cI 301 (upd (fun _ => 0) 0 0)), (x3, .inr (3, [.ref tk, .ref x7, .int 0, .int 0]))]) hP hD hS hFc [1] [0, 2, 3, 4, 5, 6, 7, 8, 9] rfl rfl (by decide) (by decide) (va_runV (As := []) (rest := []) ⟨hx, hb, hml, hown, hts⟩ (c_forget l dC dI cI cJ cS H.size x5 wm wt wv wk we wf wp ) (cwV 0 hts gX9_read_X8_forget rfl rfl rfl (by decide +kernel) ⟨Nat.le_of_ble_eq_true rfl, Nat.le_of_ble_eq_true rfl⟩) (preEV (hP.sub (ws' := [(x5, .inr (8, [.ref wm, .ref wt, .ref wv, .ref wk, .int 1, .ref we, .ref wf, .int 0, .ref wp, .int 0, .long 0, .int 0, .int 0, .int 0, .int 0, .int 0, .int 0]))]) [1] rfl) hE (hD.sub (ws' := [(x5, .inr (8, [.ref wm, .ref wt, .ref wv, .ref wk, .int 1, .ref we, .ref wf, .int 0, .ref wp, .int 0, .long 0, .int 0, .int 0, .int 0, .int 0, .int 0, .int 0]))]) [1] (by decide) rfl) 0 (ci := 8) rfl rfl) rfl rfl hl.1 rfl (lv_room (Nat.le_of_ble_eq_true rfl)) dX9_read_48 ⟨by decide +kernel, by decide +kernel⟩) (fun u_10 H locs hr_9 hP hD hS => ?_)
  try dsimp only at hr_9
  have hP : va_P (dC, dI) vwCl [(h, .inr (9, [.ref x1, .ref x2, .ref x3, .ref x4, .ref x5, .ref x6, .ref pp])), (x7, .inr (4, [.ref x7s, .ref x7c, .int 0, .int 0, .int 0, .int 0])), (pp, .inr (4, [.ref pps, .ref ppc, .int 0, .int 0, .int 0, .int 0])), (x2, .inr (6, [.ref xb, .int 0])), (tk, .inr (7, [.ref ka, .ref kb, .ref kc, .int 1, .int 0, .int 0, .int 0, .int 0])), (ka, aI cI 301 (upd (fun _ => 0) 0 0)), (kb, aI cI 301 (upd (fun _ => 0) 0 0)), (kc, aI cI 301 (upd (fun _ => 0) 0 0)), (x3, .inr (3, [.ref tk, .ref x7, .int 0, .int 0])), (x5, .inr (8, [.ref wm, .ref wt, .ref wv, .ref wk, .int 2, .ref we, .ref wf, .int 0, .ref wp, .int 0, .long 0, .int 0, .int 0, .int 0, .int 0, .int 0, .int 0]))] H := hP
  have hD : va_D A [(h, .inr (9, [.ref x1, .ref x2, .ref x3, .ref x4, .ref x5, .ref x6, .ref pp])), (x7, .inr (4, [.ref x7s, .ref x7c, .int 0, .int 0, .int 0, .int 0])), (pp, .inr (4, [.ref pps, .ref ppc, .int 0, .int 0, .int 0, .int 0])), (x2, .inr (6, [.ref xb, .int 0])), (tk, .inr (7, [.ref ka, .ref kb, .ref kc, .int 1, .int 0, .int 0, .int 0, .int 0])), (ka, aI cI 301 (upd (fun _ => 0) 0 0)), (kb, aI cI 301 (upd (fun _ => 0) 0 0)), (kc, aI cI 301 (upd (fun _ => 0) 0 0)), (x3, .inr (3, [.ref tk, .ref x7, .int 0, .int 0])), (x5, .inr (8, [.ref wm, .ref wt, .ref wv, .ref wk, .int 2, .ref we, .ref wf, .int 0, .ref wp, .int 0, .long 0, .int 0, .int 0, .int 0, .int 0, .int 0, .int 0]))] := hD
  refine lv_aload_n hx hb dX9_read_51 rfl (lv_at hl 1 rfl) ?_
  refine va_get (D := (dC, dI)) (ci := 9) (v := .ref pp) (C := RX9) (T := TX9) (N := 7) hx hb hts hiX9 hown hK hP 0 rfl rfl 6 (by decide) (hts (.fieldLink RX9 51 "WatchedPrograms" "program" "LWatchedPrograms$Program;") (by decide +kernel)) (fun _ h9 => h9) rfl dX9_read_52 ?_
  refine va_get (D := (dC, dI)) (ci := 4) (v := .int 0) (C := RX4) (T := TX4) (N := 6) hx hb hts hiX4 hown hK hP 2 rfl rfl 2 (by decide) (hts (.fieldLink RX9 81 "WatchedPrograms$Program" "size" "I") (by decide +kernel)) (fun _ h9 => h9) rfl dX9_read_55 ?_
  have hP9 := hP.sub (ws' := []) [] rfl
  have hD9 := hD.sub (ws' := []) [] (by decide) rfl
  exact W.iret (v := 0) hx hb hr (fun tt_ ht hW => ⟨⟨_, (), rfl, rfl, by rw [ht]; exact hP9, hD9⟩, hS.F ht⟩) hS.2.2 dX9_read_58
set_option maxHeartbeats 1000000 in
set_option maxRecDepth 100000 in
theorem c_doSt (l : Launch) (dC : Nat → ClassId) (dI : Nat → Nat → Nat) (cI cJ cS : ClassId) (m : Nat) (p : Nat) (o : Int32) (ma : Nat) (mb : Nat) (nn : Int32) (ss : Int32) (cc : Int32)  : Met l yX2_doStatements wsX2_doStatements ({ frames := 0, cells := 0, slots := 0, locals := 0 }) (va_Pc [.ref m, .ref p, .int 0, .int 0, .int o, .int 0] (PR dC dI cI cJ cS [(m, .inr (2, [.ref ma, .ref mb, .int nn, .int ss, .int cc]))])) (va_Sv (fun _ => True)) 0 0 (fun _ => False) := by
  refine Met.ofW (cc := cX2_doStatements) (maxL := 9) (ret := none) (by decide) rfl ?_
  intro pp_ ee_ ss_ mm_ args below meth cc_ s₁ B hml hv
  obtain ⟨rfl, hP, hE⟩ := hv
  have hx := B.exec
  have hb := B.bytes
  have hr := B.returns
  have hts := atoms_spec (ws := wsX2_doStatements) B.pre
  have hown : ss_.vm.findClass RX2 = some mm_.cls := findClass_of_methodNamed B.named
  have hlocks := B.notSynchronized
  have hK := hE.1
  have hP : va_P (dC, dI) vwCl [(m, .inr (2, [.ref ma, .ref mb, .int nn, .int ss, .int cc]))] ss_.heap := hP
  have hl := lv_entry ([.ref m, .ref p, .int 0, .int 0, .int o, .int 0]) (n := 9) (Nat.le_of_ble_eq_true rfl)
  rw [lg_entry_eq]
  generalize (lg_sl ([.ref m, .ref p, .int 0, .int 0, .int o, .int 0]) ++ List.replicate (9 - (lg_sl ([.ref m, .ref p, .int 0, .int 0, .int o, .int 0])).length) Slot.unset).toArray = ls at hl ⊢
  have hl : lv_has ls 9 [(0, .ref m), (1, .ref p), (2, .int 0), (3, .int 0), (4, .int o), (5, .int 0)] := hl
  refine lv_iload hx hb dX2_doStatements_0 (lv_at hl 5 rfl) ?_
  refine lv_bipush (v := 6) hx hb dX2_doStatements_2 (by decide) ?_
  refine lv_icmp_le (tgt := 8) hx hb dX2_doStatements_4 (by decide) (fun _ => ?_) (fun c_1 => absurd (by decide) c_1)
  refine lv_iload_n hx hb dX2_doStatements_8 rfl (lv_at hl 2 rfl) ?_
  refine lv_istore (lv' := [(6, .int 0), (0, .ref m), (1, .ref p), (2, .int 0), (3, .int 0), (4, .int o), (5, .int 0)]) hx hb dX2_doStatements_9 hl (by decide) rfl (fun ls hl => ?_)
  refine lv_iload hx hb dX2_doStatements_11 (lv_at hl 0 rfl) ?_
  refine lv_iload_n hx hb dX2_doStatements_13 rfl (lv_at hl 4 rfl) ?_
  refine lv_icmp_ge (tgt := 259) hx hb dX2_doStatements_14 (by decide) (fun _ => ?_) (fun c_2 => absurd (by decide) c_2)
  exact W.vret hx hb hr (fun tt_ ht hW => ⟨rfl, trivial, ht⟩) (fun _ h => by cases h) dX2_doStatements_259
set_option maxHeartbeats 1000000 in
set_option maxRecDepth 100000 in
theorem c_execute (l : Launch) (dC : Nat → ClassId) (dI : Nat → Nat → Nat) (cI cJ cS : ClassId) (sz : Nat) (m : Nat) (p : Nat) (f : Int32) (o : Int32) (ma : Nat) (mb : Nat) (nn : Int32) (ss : Int32) (cc : Int32) (ps : Nat) (pc : Nat)  : Met l yX2_execute wsX2_execute ({ frames := 1, cells := 0, slots := 0, locals := 28 }) (va_Pc [.ref m, .ref p, .int f, .int o] (PE dC dI cI cJ cS [(m, .inr (2, [.ref ma, .ref mb, .int nn, .int ss, .int cc])), (p, .inr (4, [.ref ps, .ref pc, .int 0, .int 0, .int 0, .int 0]))] sz)) (va_Qv (fun (_ : Unit) => True) (BE dC dI (va_A [(m, .inr (2, [.ref ma, .ref mb, .int nn, .int ss, .int cc])), (p, .inr (4, [.ref ps, .ref pc, .int 0, .int 0, .int 0, .int 0]))] sz) (fun (_ : Unit) => [(m, .inr (2, [.ref ma, .ref mb, .int f, .int 0, .int 0])), (p, .inr (4, [.ref ps, .ref pc, .int 0, .int 0, .int 0, .int 0]))])) (va_A [(m, .inr (2, [.ref ma, .ref mb, .int nn, .int ss, .int cc])), (p, .inr (4, [.ref ps, .ref pc, .int 0, .int 0, .int 0, .int 0]))] sz)) 0 0 (va_A [(m, .inr (2, [.ref ma, .ref mb, .int nn, .int ss, .int cc])), (p, .inr (4, [.ref ps, .ref pc, .int 0, .int 0, .int 0, .int 0]))] sz) := by
  refine Met.ofW (cc := cX2_execute) (maxL := 4) (ret := none) (by decide) rfl ?_
  intro pp_ ee_ ss_ mm_ args below meth cc_ s₁ B hml hv
  obtain ⟨rfl, hsz, hP, hE, hD0⟩ := hv
  have hx := B.exec
  have hb := B.bytes
  have hr := B.returns
  have hts := atoms_spec (ws := wsX2_execute) B.pre
  have hown : ss_.vm.findClass RX2 = some mm_.cls := findClass_of_methodNamed B.named
  have hlocks := B.notSynchronized
  have hK := hE.1
  have hiX2 : ∀ w ∈ wsX20, w ∈ wsX2_execute := by decide +kernel
  have hiX4 : ∀ w ∈ wsX40, w ∈ wsX2_execute := by decide +kernel
  subst hsz
  have hD := hD0.self (sz := ss_.heap.size)
  generalize hAe : va_A [(m, .inr (2, [.ref ma, .ref mb, .int nn, .int ss, .int cc])), (p, .inr (4, [.ref ps, .ref pc, .int 0, .int 0, .int 0, .int 0]))] ss_.heap.size = A at hD ⊢
  have hA : ∀ q : Nat, ss_.heap.size ≤ q → A q := fun q h => by rw [← hAe]; exact Or.inr h
  have hS : va_S A ss_.heap ss_.heap [] := va_S.rf
  have hP : va_P (dC, dI) vwCl [(m, .inr (2, [.ref ma, .ref mb, .int nn, .int ss, .int cc])), (p, .inr (4, [.ref ps, .ref pc, .int 0, .int 0, .int 0, .int 0]))] ss_.heap := hP
  have hl := lv_entry ([.ref m, .ref p, .int f, .int o]) (n := 4) (Nat.le_of_ble_eq_true rfl)
  rw [lg_entry_eq]
  generalize (lg_sl ([.ref m, .ref p, .int f, .int o]) ++ List.replicate (4 - (lg_sl ([.ref m, .ref p, .int f, .int o])).length) Slot.unset).toArray = ls at hl ⊢
  have hl : lv_has ls 4 [(0, .ref m), (1, .ref p), (2, .int f), (3, .int o)] := hl
  refine lv_aload_n hx hb dX2_execute_0 rfl (lv_at hl 0 rfl) ?_
  refine lv_iload_n hx hb dX2_execute_1 rfl (lv_at hl 2 rfl) ?_
  refine va_put (D := (dC, dI)) (ci := 2) (v := .int f) (ty := .int) (C := RX2) (T := TX2) (N := 5) hx hb hts hiX2 tyX2 tyX2_ok nmX2 hown hK hP hD hS 0 rfl rfl 2 (by decide) (hts (.fieldLink RX2 18 "WatchedPrograms$Machine" "numbers" "I") (by decide +kernel)) (fun _ h9 => h9) rfl (by decide +kernel) rfl rfl (Nat.le_of_ble_eq_true rfl) dX2_execute_2 (fun H locs hP hD hS => ?_)
  have hP : va_P (dC, dI) vwCl [(m, .inr (2, [.ref ma, .ref mb, .int f, .int ss, .int cc])), (p, .inr (4, [.ref ps, .ref pc, .int 0, .int 0, .int 0, .int 0]))] H := hP
  have hD : va_D A [(m, .inr (2, [.ref ma, .ref mb, .int f, .int ss, .int cc])), (p, .inr (4, [.ref ps, .ref pc, .int 0, .int 0, .int 0, .int 0]))] := hD
  refine lv_aload_n hx hb dX2_execute_5 rfl (lv_at hl 0 rfl) ?_
  refine lv_iconst (v := 0) hx hb dX2_execute_6 (by decide) ?_
  refine va_put (D := (dC, dI)) (ci := 2) (v := .int 0) (ty := .int) (C := RX2) (T := TX2) (N := 5) hx hb hts hiX2 tyX2 tyX2_ok nmX2 hown hK hP hD hS 0 rfl rfl 3 (by decide) (hts (.fieldLink RX2 22 "WatchedPrograms$Machine" "steps" "I") (by decide +kernel)) (fun _ h9 => h9) rfl (by decide +kernel) rfl rfl (Nat.le_of_ble_eq_true rfl) dX2_execute_7 (fun H locs hP hD hS => ?_)
  have hP : va_P (dC, dI) vwCl [(m, .inr (2, [.ref ma, .ref mb, .int f, .int 0, .int cc])), (p, .inr (4, [.ref ps, .ref pc, .int 0, .int 0, .int 0, .int 0]))] H := hP
  have hD : va_D A [(m, .inr (2, [.ref ma, .ref mb, .int f, .int 0, .int cc])), (p, .inr (4, [.ref ps, .ref pc, .int 0, .int 0, .int 0, .int 0]))] := hD
  refine lv_aload_n hx hb dX2_execute_10 rfl (lv_at hl 0 rfl) ?_
  refine lv_iconst (v := 0) hx hb dX2_execute_11 (by decide) ?_
  refine va_put (D := (dC, dI)) (ci := 2) (v := .int 0) (ty := .int) (C := RX2) (T := TX2) (N := 5) hx hb hts hiX2 tyX2 tyX2_ok nmX2 hown hK hP hD hS 0 rfl rfl 4 (by decide) (hts (.fieldLink RX2 25 "WatchedPrograms$Machine" "cameOut" "I") (by decide +kernel)) (fun _ h9 => h9) rfl (by decide +kernel) rfl rfl (Nat.le_of_ble_eq_true rfl) dX2_execute_12 (fun H locs hP hD hS => ?_)
  have hP : va_P (dC, dI) vwCl [(m, .inr (2, [.ref ma, .ref mb, .int f, .int 0, .int 0])), (p, .inr (4, [.ref ps, .ref pc, .int 0, .int 0, .int 0, .int 0]))] H := hP
  have hD : va_D A [(m, .inr (2, [.ref ma, .ref mb, .int f, .int 0, .int 0])), (p, .inr (4, [.ref ps, .ref pc, .int 0, .int 0, .int 0, .int 0]))] := hD
  refine lv_aload_n hx hb dX2_execute_15 rfl (lv_at hl 0 rfl) ?_
  refine lv_aload_n hx hb dX2_execute_16 rfl (lv_at hl 1 rfl) ?_
  refine lv_iconst (v := 0) hx hb dX2_execute_17 (by decide) ?_
  refine lv_aload_n hx hb dX2_execute_18 rfl (lv_at hl 1 rfl) ?_
  refine va_get (D := (dC, dI)) (ci := 4) (v := .int 0) (C := RX4) (T := TX4) (N := 6) hx hb hts hiX4 hown hK hP 1 rfl rfl 2 (by decide) (hts (.fieldLink RX2 28 "WatchedPrograms$Program" "size" "I") (by decide +kernel)) (fun _ h9 => h9) rfl dX2_execute_19 ?_
  refine lv_iload_n hx hb dX2_execute_22 rfl (lv_at hl 3 rfl) ?_
  refine lv_iconst (v := 0) hx hb dX2_execute_23 (by decide) ?_
  refine va_csv (va_Run.run (va_runV (As := [.ref p, .int 0, .int 0, .int o, .int 0]) (rest := []) ⟨hx, hb, hml, hown, hts⟩ (c_doSt l dC dI cI cJ cS  m p o ma mb f 0 0 ) (cwV 5 hts gX2_execute_X2_doStatements rfl rfl rfl (by decide +kernel) ⟨Nat.le_of_ble_eq_true rfl, Nat.le_of_ble_eq_true rfl⟩) (preRV (hP.sub (ws' := [(m, .inr (2, [.ref ma, .ref mb, .int f, .int 0, .int 0]))]) [0] rfl) hE 0 (ci := 2) rfl rfl) rfl rfl hl.1 rfl (lv_room (Nat.le_of_ble_eq_true rfl)) dX2_execute_24 ⟨by decide +kernel, by decide +kernel⟩)) (fun hr_2 => ?_)
  have hP9 := hP.sub (ws' := [(m, .inr (2, [.ref ma, .ref mb, .int f, .int 0, .int 0])), (p, .inr (4, [.ref ps, .ref pc, .int 0, .int 0, .int 0, .int 0]))]) [0, 1] rfl
  have hD9 := hD.sub (ws' := [(m, .inr (2, [.ref ma, .ref mb, .int f, .int 0, .int 0])), (p, .inr (4, [.ref ps, .ref pc, .int 0, .int 0, .int 0, .int 0]))]) [0, 1] (by decide) rfl
  exact W.vret hx hb hr (fun tt_ ht hW => ⟨⟨(), rfl, trivial, by rw [ht]; exact hP9, hD9⟩, hS.F ht⟩) hS.2.2 dX2_execute_27
set_option maxHeartbeats 1000000 in
set_option maxRecDepth 100000 in
theorem c_kept (l : Launch) (dC : Nat → ClassId) (dI : Nat → Nat → Nat) (cI cJ cS : ClassId) (m : Nat) (ma : Nat) (mb : Nat) (nn : Int32) (ss : Int32)  : Met l yX2_kept wsX2_kept ({ frames := 1, cells := 0, slots := 0, locals := 13 }) (va_Pc [.ref m] (PR dC dI cI cJ cS [(m, .inr (2, [.ref ma, .ref mb, .int nn, .int ss, .int 0]))])) (vp_Si (fun r : Int32 => r = 0)) 0 0 (fun _ => False) := by
  refine Met.ofW (cc := cX2_kept) (maxL := 1) (ret := (some .int)) (by decide) rfl ?_
  intro pp_ ee_ ss_ mm_ args below meth cc_ s₁ B hml hv
  obtain ⟨rfl, hP, hE⟩ := hv
  have hx := B.exec
  have hb := B.bytes
  have hr := B.returns
  have hts := atoms_spec (ws := wsX2_kept) B.pre
  have hown : ss_.vm.findClass RX2 = some mm_.cls := findClass_of_methodNamed B.named
  have hlocks := B.notSynchronized
  have hK := hE.1
  have hiX2 : ∀ w ∈ wsX20, w ∈ wsX2_kept := by decide +kernel
  have hP : va_P (dC, dI) vwCl [(m, .inr (2, [.ref ma, .ref mb, .int nn, .int ss, .int 0]))] ss_.heap := hP
  have hl := lv_entry ([.ref m]) (n := 1) (Nat.le_of_ble_eq_true rfl)
  rw [lg_entry_eq]
  generalize (lg_sl ([.ref m]) ++ List.replicate (1 - (lg_sl ([.ref m])).length) Slot.unset).toArray = ls at hl ⊢
  have hl : lv_has ls 1 [(0, .ref m)] := hl
  refine lv_aload_n hx hb dX2_kept_0 rfl (lv_at hl 0 rfl) ?_
  refine va_get (D := (dC, dI)) (ci := 2) (v := .int 0) (C := RX2) (T := TX2) (N := 5) hx hb hts hiX2 hown hK hP 0 rfl rfl 4 (by decide) (hts (.fieldLink RX2 25 "WatchedPrograms$Machine" "cameOut" "I") (by decide +kernel)) (fun _ h9 => h9) rfl dX2_kept_1 ?_
  refine lv_bipush (v := 20) hx hb dX2_kept_4 (by decide) ?_
  refine va_mmin hx hb (hml.trans hl.1.symm) hown (hts (.methodLink RX2 37 Lib.Math.min.name) (by decide +kernel)) (hts (.static Lib.Math.min.name) (by decide +kernel)) (hts (.initialized "java/lang/Math") (by decide +kernel)) (hts (.code Lib.Math.min.name Lib.Math.min.code 2 (some .int)) (by decide +kernel)) (Nat.le_of_ble_eq_true rfl) (Nat.le_of_ble_eq_true rfl) (Nat.le_of_ble_eq_true rfl) (Nat.le_of_ble_eq_true rfl) dX2_kept_6 ?_
  refine zi (y := 0) (by decide) ?_
  exact W.iret (v := 0) hx hb hr (fun tt_ ht hW => ⟨_, rfl, rfl, ht⟩) (fun _ h => by cases h) dX2_kept_9
set_option maxHeartbeats 1000000 in
set_option maxRecDepth 100000 in
theorem c_run (l : Launch) (dC : Nat → ClassId) (dI : Nat → Nat → Nat) (cI cJ cS : ClassId) (sz : Nat) (h : Nat) (n : Int32) (x1 : Nat) (x2 : Nat) (x3 : Nat) (x4 : Nat) (x5 : Nat) (x6 : Nat) (x7 : Nat) (ma : Nat) (mb : Nat) (x7s : Nat) (x7c : Nat)  : Met l yX9_run wsX9_run ({ frames := 2, cells := 0, slots := 0, locals := 51 }) (va_Pc [.ref h, .int n] (PE dC dI cI cJ cS [(h, .inr (9, [.ref x1, .ref x2, .ref x3, .ref x4, .ref x5, .ref x6, .ref x7])), (x4, .inr (2, [.ref ma, .ref mb, .int 0, .int 0, .int 0])), (x7, .inr (4, [.ref x7s, .ref x7c, .int 0, .int 0, .int 0, .int 0]))] sz)) (va_Qi (fun (r : Int32) (_ : Unit) => r = okE (inR n 0 4095) n) (BE dC dI (va_A [(h, .inr (9, [.ref x1, .ref x2, .ref x3, .ref x4, .ref x5, .ref x6, .ref x7])), (x4, .inr (2, [.ref ma, .ref mb, .int 0, .int 0, .int 0])), (x7, .inr (4, [.ref x7s, .ref x7c, .int 0, .int 0, .int 0, .int 0]))] sz) (fun (_ : Unit) => [])) (va_A [(h, .inr (9, [.ref x1, .ref x2, .ref x3, .ref x4, .ref x5, .ref x6, .ref x7])), (x4, .inr (2, [.ref ma, .ref mb, .int 0, .int 0, .int 0])), (x7, .inr (4, [.ref x7s, .ref x7c, .int 0, .int 0, .int 0, .int 0]))] sz)) 0 0 (va_A [(h, .inr (9, [.ref x1, .ref x2, .ref x3, .ref x4, .ref x5, .ref x6, .ref x7])), (x4, .inr (2, [.ref ma, .ref mb, .int 0, .int 0, .int 0])), (x7, .inr (4, [.ref x7s, .ref x7c, .int 0, .int 0, .int 0, .int 0]))] sz) := by
  refine Met.ofW (cc := cX9_run) (maxL := 2) (ret := (some .int)) (by decide) rfl ?_
  intro pp_ ee_ ss_ mm_ args below meth cc_ s₁ B hml hv
  obtain ⟨rfl, hsz, hP, hE, hD0⟩ := hv
  have hx := B.exec
  have hb := B.bytes
  have hr := B.returns
  have hts := atoms_spec (ws := wsX9_run) B.pre
  have hown : ss_.vm.findClass RX9 = some mm_.cls := findClass_of_methodNamed B.named
  have hlocks := B.notSynchronized
  have hK := hE.1
  have hiX2 : ∀ w ∈ wsX20, w ∈ wsX9_run := by decide +kernel
  have hiX9 : ∀ w ∈ wsX90, w ∈ wsX9_run := by decide +kernel
  subst hsz
  have hD := hD0.self (sz := ss_.heap.size)
  generalize hAe : va_A [(h, .inr (9, [.ref x1, .ref x2, .ref x3, .ref x4, .ref x5, .ref x6, .ref x7])), (x4, .inr (2, [.ref ma, .ref mb, .int 0, .int 0, .int 0])), (x7, .inr (4, [.ref x7s, .ref x7c, .int 0, .int 0, .int 0, .int 0]))] ss_.heap.size = A at hD ⊢
  have hA : ∀ q : Nat, ss_.heap.size ≤ q → A q := fun q h => by rw [← hAe]; exact Or.inr h
  have hS : va_S A ss_.heap ss_.heap [] := va_S.rf
  have hP : va_P (dC, dI) vwCl [(h, .inr (9, [.ref x1, .ref x2, .ref x3, .ref x4, .ref x5, .ref x6, .ref x7])), (x4, .inr (2, [.ref ma, .ref mb, .int 0, .int 0, .int 0])), (x7, .inr (4, [.ref x7s, .ref x7c, .int 0, .int 0, .int 0, .int 0]))] ss_.heap := hP
  have hl := lv_entry ([.ref h, .int n]) (n := 2) (Nat.le_of_ble_eq_true rfl)
  rw [lg_entry_eq]
  generalize (lg_sl ([.ref h, .int n]) ++ List.replicate (2 - (lg_sl ([.ref h, .int n])).length) Slot.unset).toArray = ls at hl ⊢
  have hl : lv_has ls 2 [(0, .ref h), (1, .int n)] := hl
  refine lv_iload_n hx hb dX9_run_0 rfl (lv_at hl 1 rfl) ?_
  refine lv_if_lt (tgt := 11) hx hb dX9_run_1 (by decide) (fun c_1 => ?_) (fun c_1 => ?_)
  · refine lv_iconst (v := (-1)) hx hb dX9_run_11 (by decide) ?_
    have hP9 := hP.sub (ws' := []) [] rfl
    have hD9 := hD.sub (ws' := []) [] (by decide) rfl
    exact W.iret (v := (-1)) hx hb hr (fun tt_ ht hW => ⟨⟨_, (), rfl, (by rw [okE, if_neg (by simp only [inR, Int32.lt_iff_toInt_lt, Int32.le_iff_toInt_le, ← Int32.toInt_inj, tI_0, tI_1, tI_2, tI_3, tI_4, tI_5, tI_6, tI_7, tI_8, tI_20, tI_30, tI_300, tI_400, tI_4095, tI_4096, tI_m1, tI_m2, tI_m3, tI_m9] at c_1 ⊢ <;> omega)]), by rw [ht]; exact hP9, hD9⟩, hS.F ht⟩) hS.2.2 dX9_run_12
  · refine lv_iload_n hx hb dX9_run_4 rfl (lv_at hl 1 rfl) ?_
    refine lv_sipush (v := 4095) hx hb dX9_run_5 (by decide) ?_
    refine lv_icmp_le (tgt := 13) hx hb dX9_run_8 (by decide) (fun c_2 => ?_) (fun c_2 => ?_)
    · refine lv_aload_n hx hb dX9_run_13 rfl (lv_at hl 0 rfl) ?_
      refine va_get (D := (dC, dI)) (ci := 9) (v := .ref x4) (C := RX9) (T := TX9) (N := 7) hx hb hts hiX9 hown hK hP 0 rfl rfl 3 (by decide) (hts (.fieldLink RX9 30 "WatchedPrograms" "latest" "LWatchedPrograms$Machine;") (by decide +kernel)) (fun _ h9 => h9) rfl dX9_run_14 ?_
      refine lv_aload_n hx hb dX9_run_17 rfl (lv_at hl 0 rfl) ?_
      refine va_get (D := (dC, dI)) (ci := 9) (v := .ref x7) (C := RX9) (T := TX9) (N := 7) hx hb hts hiX9 hown hK hP 0 rfl rfl 6 (by decide) (hts (.fieldLink RX9 51 "WatchedPrograms" "program" "LWatchedPrograms$Program;") (by decide +kernel)) (fun _ h9 => h9) rfl dX9_run_18 ?_
      refine lv_iload_n hx hb dX9_run_21 rfl (lv_at hl 1 rfl) ?_
      refine lv_iconst (v := 0) hx hb dX9_run_22 (by decide) ?_
      have hFc := va_free (wc := [(x4, .inr (2, [.ref ma, .ref mb, .int 0, .int 0, .int 0])), (x7, .inr (4, [.ref x7s, .ref x7c, .int 0, .int 0, .int 0, .int 0]))]) hD hS hA [1, 2] rfl
      refine zCv (wr := [(h, .inr (9, [.ref x1, .ref x2, .ref x3, .ref x4, .ref x5, .ref x6, .ref x7]))]) hP hD hS hFc [1, 2] [0] rfl rfl (by decide) (by decide) (va_runV (As := [.ref x7, .int n, .int 0]) (rest := []) ⟨hx, hb, hml, hown, hts⟩ (c_execute l dC dI cI cJ cS ss_.heap.size x4 x7 n 0 ma mb 0 0 0 x7s x7c ) (cwV 3 hts gX9_run_X2_execute rfl rfl rfl (by decide +kernel) ⟨Nat.le_of_ble_eq_true rfl, Nat.le_of_ble_eq_true rfl⟩) (preEV (hP.sub (ws' := [(x4, .inr (2, [.ref ma, .ref mb, .int 0, .int 0, .int 0])), (x7, .inr (4, [.ref x7s, .ref x7c, .int 0, .int 0, .int 0, .int 0]))]) [1, 2] rfl) hE (hD.sub (ws' := [(x4, .inr (2, [.ref ma, .ref mb, .int 0, .int 0, .int 0])), (x7, .inr (4, [.ref x7s, .ref x7c, .int 0, .int 0, .int 0, .int 0]))]) [1, 2] (by decide) rfl) 0 (ci := 2) rfl rfl) rfl rfl hl.1 rfl (lv_room (Nat.le_of_ble_eq_true rfl)) dX9_run_23 ⟨by decide +kernel, by decide +kernel⟩) (fun u_5 H locs hr_4 hP hD hS => ?_)
      try dsimp only at hr_4
      have hP : va_P (dC, dI) vwCl [(h, .inr (9, [.ref x1, .ref x2, .ref x3, .ref x4, .ref x5, .ref x6, .ref x7])), (x4, .inr (2, [.ref ma, .ref mb, .int n, .int 0, .int 0])), (x7, .inr (4, [.ref x7s, .ref x7c, .int 0, .int 0, .int 0, .int 0]))] H := hP
      have hD : va_D A [(h, .inr (9, [.ref x1, .ref x2, .ref x3, .ref x4, .ref x5, .ref x6, .ref x7])), (x4, .inr (2, [.ref ma, .ref mb, .int n, .int 0, .int 0])), (x7, .inr (4, [.ref x7s, .ref x7c, .int 0, .int 0, .int 0, .int 0]))] := hD
      refine lv_aload_n hx hb dX9_run_26 rfl (lv_at hl 0 rfl) ?_
      refine va_get (D := (dC, dI)) (ci := 9) (v := .ref x4) (C := RX9) (T := TX9) (N := 7) hx hb hts hiX9 hown hK hP 0 rfl rfl 3 (by decide) (hts (.fieldLink RX9 30 "WatchedPrograms" "latest" "LWatchedPrograms$Machine;") (by decide +kernel)) (fun _ h9 => h9) rfl dX9_run_27 ?_
      refine va_get (D := (dC, dI)) (ci := 2) (v := .int n) (C := RX2) (T := TX2) (N := 5) hx hb hts hiX2 hown hK hP 1 rfl rfl 2 (by decide) (hts (.fieldLink RX9 88 "WatchedPrograms$Machine" "numbers" "I") (by decide +kernel)) (fun _ h9 => h9) rfl dX9_run_30 ?_
      have hP9 := hP.sub (ws' := []) [] rfl
      have hD9 := hD.sub (ws' := []) [] (by decide) rfl
      exact W.iret (v := n) hx hb hr (fun tt_ ht hW => ⟨⟨_, (), rfl, (by rw [okE, if_pos (by simp only [inR, Int32.lt_iff_toInt_lt, Int32.le_iff_toInt_le, ← Int32.toInt_inj, tI_0, tI_1, tI_2, tI_3, tI_4, tI_5, tI_6, tI_7, tI_8, tI_20, tI_30, tI_300, tI_400, tI_4095, tI_4096, tI_m1, tI_m2, tI_m3, tI_m9] at c_1 c_2 ⊢ <;> omega)]), by rw [ht]; exact hP9, hD9⟩, hS.F ht⟩) hS.2.2 dX9_run_33
    · refine lv_iconst (v := (-1)) hx hb dX9_run_11 (by decide) ?_
      have hP9 := hP.sub (ws' := []) [] rfl
      have hD9 := hD.sub (ws' := []) [] (by decide) rfl
      exact W.iret (v := (-1)) hx hb hr (fun tt_ ht hW => ⟨⟨_, (), rfl, (by rw [okE, if_neg (by simp only [inR, Int32.lt_iff_toInt_lt, Int32.le_iff_toInt_le, ← Int32.toInt_inj, tI_0, tI_1, tI_2, tI_3, tI_4, tI_5, tI_6, tI_7, tI_8, tI_20, tI_30, tI_300, tI_400, tI_4095, tI_4096, tI_m1, tI_m2, tI_m3, tI_m9] at c_1 c_2 ⊢ <;> omega)]), by rw [ht]; exact hP9, hD9⟩, hS.F ht⟩) hS.2.2 dX9_run_12
set_option maxHeartbeats 1000000 in
set_option maxRecDepth 100000 in
theorem c_ran (l : Launch) (dC : Nat → ClassId) (dI : Nat → Nat → Nat) (cI cJ cS : ClassId) (h : Nat) (k : Int32) (x1 : Nat) (x2 : Nat) (x3 : Nat) (x4 : Nat) (x5 : Nat) (x6 : Nat) (x7 : Nat) (ma : Nat) (mb : Nat)  : Met l yX9_ran wsX9_ran ({ frames := 2, cells := 0, slots := 0, locals := 33 }) (va_Pc [.ref h, .int k] (PR dC dI cI cJ cS [(h, .inr (9, [.ref x1, .ref x2, .ref x3, .ref x4, .ref x5, .ref x6, .ref x7])), (x4, .inr (2, [.ref ma, .ref mb, .int 0, .int 0, .int 0]))])) (vp_Si (fun r : Int32 => r = okE (inR k 0 2) 0)) 0 0 (fun _ => False) := by
  refine Met.ofW (cc := cX9_ran) (maxL := 2) (ret := (some .int)) (by decide) rfl ?_
  intro pp_ ee_ ss_ mm_ args below meth cc_ s₁ B hml hv
  obtain ⟨rfl, hP, hE⟩ := hv
  have hx := B.exec
  have hb := B.bytes
  have hr := B.returns
  have hts := atoms_spec (ws := wsX9_ran) B.pre
  have hown : ss_.vm.findClass RX9 = some mm_.cls := findClass_of_methodNamed B.named
  have hlocks := B.notSynchronized
  have hK := hE.1
  have hiX2 : ∀ w ∈ wsX20, w ∈ wsX9_ran := by decide +kernel
  have hiX9 : ∀ w ∈ wsX90, w ∈ wsX9_ran := by decide +kernel
  have hP : va_P (dC, dI) vwCl [(h, .inr (9, [.ref x1, .ref x2, .ref x3, .ref x4, .ref x5, .ref x6, .ref x7])), (x4, .inr (2, [.ref ma, .ref mb, .int 0, .int 0, .int 0]))] ss_.heap := hP
  have hl := lv_entry ([.ref h, .int k]) (n := 2) (Nat.le_of_ble_eq_true rfl)
  rw [lg_entry_eq]
  generalize (lg_sl ([.ref h, .int k]) ++ List.replicate (2 - (lg_sl ([.ref h, .int k])).length) Slot.unset).toArray = ls at hl ⊢
  have hl : lv_has ls 2 [(0, .ref h), (1, .int k)] := hl
  refine lv_iload_n hx hb dX9_ran_0 rfl (lv_at hl 1 rfl) ?_
  by_cases c_1 : k = 0
  · refine lv_tableIn (off := 27) (tgt := 28) hx hb dX9_ran_1 (by rw [c_1]; decide) (by rw [c_1]; decide) (by rw [c_1]; decide) (by decide) ?_
    refine lv_aload_n hx hb dX9_ran_28 rfl (lv_at hl 0 rfl) ?_
    refine va_get (D := (dC, dI)) (ci := 9) (v := .ref x4) (C := RX9) (T := TX9) (N := 7) hx hb hts hiX9 hown hK hP 0 rfl rfl 3 (by decide) (hts (.fieldLink RX9 30 "WatchedPrograms" "latest" "LWatchedPrograms$Machine;") (by decide +kernel)) (fun _ h9 => h9) rfl dX9_ran_29 ?_
    refine va_get (D := (dC, dI)) (ci := 2) (v := .int 0) (C := RX2) (T := TX2) (N := 5) hx hb hts hiX2 hown hK hP 1 rfl rfl 3 (by decide) (hts (.fieldLink RX9 91 "WatchedPrograms$Machine" "steps" "I") (by decide +kernel)) (fun _ h9 => h9) rfl dX9_ran_32 ?_
    exact W.iret (v := 0) hx hb hr (fun tt_ ht hW => ⟨_, rfl, (by rw [okE, if_pos (by simp only [inR, Int32.lt_iff_toInt_lt, Int32.le_iff_toInt_le, ← Int32.toInt_inj, tI_0, tI_1, tI_2, tI_3, tI_4, tI_5, tI_6, tI_7, tI_8, tI_20, tI_30, tI_300, tI_400, tI_4095, tI_4096, tI_m1, tI_m2, tI_m3, tI_m9] at c_1 ⊢ <;> omega)]), ht⟩) (fun _ h => by cases h) dX9_ran_35
  by_cases c_2 : k = 1
  · refine lv_tableIn (off := 35) (tgt := 36) hx hb dX9_ran_1 (by rw [c_2]; decide) (by rw [c_2]; decide) (by rw [c_2]; decide) (by decide) ?_
    refine lv_aload_n hx hb dX9_ran_36 rfl (lv_at hl 0 rfl) ?_
    refine va_get (D := (dC, dI)) (ci := 9) (v := .ref x4) (C := RX9) (T := TX9) (N := 7) hx hb hts hiX9 hown hK hP 0 rfl rfl 3 (by decide) (hts (.fieldLink RX9 30 "WatchedPrograms" "latest" "LWatchedPrograms$Machine;") (by decide +kernel)) (fun _ h9 => h9) rfl dX9_ran_37 ?_
    refine va_get (D := (dC, dI)) (ci := 2) (v := .int 0) (C := RX2) (T := TX2) (N := 5) hx hb hts hiX2 hown hK hP 1 rfl rfl 4 (by decide) (hts (.fieldLink RX9 94 "WatchedPrograms$Machine" "cameOut" "I") (by decide +kernel)) (fun _ h9 => h9) rfl dX9_ran_40 ?_
    exact W.iret (v := 0) hx hb hr (fun tt_ ht hW => ⟨_, rfl, (by rw [okE, if_pos (by simp only [inR, Int32.lt_iff_toInt_lt, Int32.le_iff_toInt_le, ← Int32.toInt_inj, tI_0, tI_1, tI_2, tI_3, tI_4, tI_5, tI_6, tI_7, tI_8, tI_20, tI_30, tI_300, tI_400, tI_4095, tI_4096, tI_m1, tI_m2, tI_m3, tI_m9] at c_1 c_2 ⊢ <;> omega)]), ht⟩) (fun _ h => by cases h) dX9_ran_43
  by_cases c_3 : k = 2
  · refine lv_tableIn (off := 43) (tgt := 44) hx hb dX9_ran_1 (by rw [c_3]; decide) (by rw [c_3]; decide) (by rw [c_3]; decide) (by decide) ?_
    refine lv_aload_n hx hb dX9_ran_44 rfl (lv_at hl 0 rfl) ?_
    refine va_get (D := (dC, dI)) (ci := 9) (v := .ref x4) (C := RX9) (T := TX9) (N := 7) hx hb hts hiX9 hown hK hP 0 rfl rfl 3 (by decide) (hts (.fieldLink RX9 30 "WatchedPrograms" "latest" "LWatchedPrograms$Machine;") (by decide +kernel)) (fun _ h9 => h9) rfl dX9_ran_45 ?_
    refine vp_callSi (va_Run.run (va_runV (As := []) (rest := []) ⟨hx, hb, hml, hown, hts⟩ (c_kept l dC dI cI cJ cS  x4 ma mb 0 0 ) (cwV 0 hts gX9_ran_X2_kept rfl rfl rfl (by decide +kernel) ⟨Nat.le_of_ble_eq_true rfl, Nat.le_of_ble_eq_true rfl⟩) (preRV (hP.sub (ws' := [(x4, .inr (2, [.ref ma, .ref mb, .int 0, .int 0, .int 0]))]) [1] rfl) hE 0 (ci := 2) rfl rfl) rfl rfl hl.1 rfl (lv_room (Nat.le_of_ble_eq_true rfl)) dX9_ran_48 ⟨by decide +kernel, by decide +kernel⟩)) (fun r_4 hr_5 => ?_)
    obtain rfl := hr_5
    exact W.iret (v := 0) hx hb hr (fun tt_ ht hW => ⟨_, rfl, (by rw [okE, if_pos (by simp only [inR, Int32.lt_iff_toInt_lt, Int32.le_iff_toInt_le, ← Int32.toInt_inj, tI_0, tI_1, tI_2, tI_3, tI_4, tI_5, tI_6, tI_7, tI_8, tI_20, tI_30, tI_300, tI_400, tI_4095, tI_4096, tI_m1, tI_m2, tI_m3, tI_m9] at c_1 c_2 c_3 ⊢ <;> omega)]), ht⟩) (fun _ h => by cases h) dX9_ran_51
  refine lv_tableOut (tgt := 52) hx hb dX9_ran_1 (by have q0 : ¬ k.toInt = 0 := fun e => c_1 (Int32.toInt_inj.mp (e.trans (by decide))); have q1 : ¬ k.toInt = 1 := fun e => c_2 (Int32.toInt_inj.mp (e.trans (by decide))); have q2 : ¬ k.toInt = 2 := fun e => c_3 (Int32.toInt_inj.mp (e.trans (by decide))); omega) (by decide) ?_
  refine lv_iconst (v := (-1)) hx hb dX9_ran_52 (by decide) ?_
  exact W.iret (v := (-1)) hx hb hr (fun tt_ ht hW => ⟨_, rfl, (by rw [okE, if_neg (by simp only [inR, Int32.lt_iff_toInt_lt, Int32.le_iff_toInt_le, ← Int32.toInt_inj, tI_0, tI_1, tI_2, tI_3, tI_4, tI_5, tI_6, tI_7, tI_8, tI_20, tI_30, tI_300, tI_400, tI_4095, tI_4096, tI_m1, tI_m2, tI_m3, tI_m9] at c_1 c_2 c_3 ⊢ <;> omega)]), ht⟩) (fun _ h => by cases h) dX9_ran_53
set_option maxHeartbeats 1000000 in
set_option maxRecDepth 100000 in
theorem c_tape (l : Launch) (dC : Nat → ClassId) (dI : Nat → Nat → Nat) (cI cJ cS : ClassId) (h : Nat) (i : Int32) (k : Int32) (x1 : Nat) (x2 : Nat) (x3 : Nat) (x4 : Nat) (x5 : Nat) (x6 : Nat) (x7 : Nat) (ma : Nat) (mb : Nat)  : Met l yX9_tape wsX9_tape ({ frames := 2, cells := 0, slots := 0, locals := 33 }) (va_Pc [.ref h, .int i, .int k] (PR dC dI cI cJ cS [(h, .inr (9, [.ref x1, .ref x2, .ref x3, .ref x4, .ref x5, .ref x6, .ref x7])), (x4, .inr (2, [.ref ma, .ref mb, .int 0, .int 0, .int 0]))])) (vp_Si (fun r : Int32 => r = -1)) 0 0 (fun _ => False) := by
  refine Met.ofW (cc := cX9_tape) (maxL := 3) (ret := (some .int)) (by decide) rfl ?_
  intro pp_ ee_ ss_ mm_ args below meth cc_ s₁ B hml hv
  obtain ⟨rfl, hP, hE⟩ := hv
  have hx := B.exec
  have hb := B.bytes
  have hr := B.returns
  have hts := atoms_spec (ws := wsX9_tape) B.pre
  have hown : ss_.vm.findClass RX9 = some mm_.cls := findClass_of_methodNamed B.named
  have hlocks := B.notSynchronized
  have hK := hE.1
  have hiX9 : ∀ w ∈ wsX90, w ∈ wsX9_tape := by decide +kernel
  have hP : va_P (dC, dI) vwCl [(h, .inr (9, [.ref x1, .ref x2, .ref x3, .ref x4, .ref x5, .ref x6, .ref x7])), (x4, .inr (2, [.ref ma, .ref mb, .int 0, .int 0, .int 0]))] ss_.heap := hP
  have hl := lv_entry ([.ref h, .int i, .int k]) (n := 3) (Nat.le_of_ble_eq_true rfl)
  rw [lg_entry_eq]
  generalize (lg_sl ([.ref h, .int i, .int k]) ++ List.replicate (3 - (lg_sl ([.ref h, .int i, .int k])).length) Slot.unset).toArray = ls at hl ⊢
  have hl : lv_has ls 3 [(0, .ref h), (1, .int i), (2, .int k)] := hl
  refine lv_iload_n hx hb dX9_tape_0 rfl (lv_at hl 1 rfl) ?_
  refine lv_if_lt (tgt := 22) hx hb dX9_tape_1 (by decide) (fun c_1 => ?_) (fun c_1 => ?_)
  · refine lv_iconst (v := (-1)) hx hb dX9_tape_22 (by decide) ?_
    exact W.iret (v := (-1)) hx hb hr (fun tt_ ht hW => ⟨_, rfl, rfl, ht⟩) (fun _ h => by cases h) dX9_tape_23
  · refine lv_iload_n hx hb dX9_tape_4 rfl (lv_at hl 1 rfl) ?_
    refine lv_aload_n hx hb dX9_tape_5 rfl (lv_at hl 0 rfl) ?_
    refine va_get (D := (dC, dI)) (ci := 9) (v := .ref x4) (C := RX9) (T := TX9) (N := 7) hx hb hts hiX9 hown hK hP 0 rfl rfl 3 (by decide) (hts (.fieldLink RX9 30 "WatchedPrograms" "latest" "LWatchedPrograms$Machine;") (by decide +kernel)) (fun _ h9 => h9) rfl dX9_tape_6 ?_
    refine vp_callSi (va_Run.run (va_runV (As := []) (rest := [.int i]) ⟨hx, hb, hml, hown, hts⟩ (c_kept l dC dI cI cJ cS  x4 ma mb 0 0 ) (cwV 0 hts gX9_tape_X2_kept rfl rfl rfl (by decide +kernel) ⟨Nat.le_of_ble_eq_true rfl, Nat.le_of_ble_eq_true rfl⟩) (preRV (hP.sub (ws' := [(x4, .inr (2, [.ref ma, .ref mb, .int 0, .int 0, .int 0]))]) [1] rfl) hE 0 (ci := 2) rfl rfl) rfl rfl hl.1 rfl (lv_room (Nat.le_of_ble_eq_true rfl)) dX9_tape_9 ⟨by decide +kernel, by decide +kernel⟩)) (fun r_2 hr_3 => ?_)
    obtain rfl := hr_3
    refine lv_icmp_ge (tgt := 22) hx hb dX9_tape_12 (by decide) (fun _ => ?_) (fun c_4 => absurd (by simp only [Int32.lt_iff_toInt_lt, Int32.le_iff_toInt_le, ← Int32.toInt_inj, tI_0, tI_1, tI_2, tI_3, tI_4, tI_5, tI_6, tI_7, tI_8, tI_20, tI_30, tI_300, tI_400, tI_4095, tI_4096, tI_m1, tI_m2, tI_m3, tI_m9] at c_1 ⊢ <;> omega) c_4)
    refine lv_iconst (v := (-1)) hx hb dX9_tape_22 (by decide) ?_
    exact W.iret (v := (-1)) hx hb hr (fun tt_ ht hW => ⟨_, rfl, rfl, ht⟩) (fun _ h => by cases h) dX9_tape_23
set_option maxHeartbeats 1000000 in
set_option maxRecDepth 100000 in
theorem c_lensOf0 (l : Launch) (dC : Nat → ClassId) (dI : Nat → Nat → Nat) (cI cJ cS : ClassId)   : Met l yX8_lensOf wsX8_lensOf ({ frames := 0, cells := 0, slots := 0, locals := 0 }) (va_Pc [.int 4095, .long 0] (PR dC dI cI cJ cS [])) (vp_Sl (fun r : Int64 => r = 9007199254740991)) 0 0 (fun _ => False) := by
  refine Met.ofW (cc := cX8_lensOf) (maxL := 3) (ret := (some .long)) (by decide) rfl ?_
  intro pp_ ee_ ss_ mm_ args below meth cc_ s₁ B hml hv
  obtain ⟨rfl, hP, hE⟩ := hv
  have hx := B.exec
  have hb := B.bytes
  have hr := B.returns
  have hts := atoms_spec (ws := wsX8_lensOf) B.pre
  have hown : ss_.vm.findClass RX8 = some mm_.cls := findClass_of_methodNamed B.named
  have hlocks := B.notSynchronized
  have hK := hE.1
  have hP : va_P (dC, dI) vwCl [] ss_.heap := hP
  have hl := lv_entry ([.int 4095, .long 0]) (n := 3) (Nat.le_of_ble_eq_true rfl)
  rw [lg_entry_eq]
  generalize (lg_sl ([.int 4095, .long 0]) ++ List.replicate (3 - (lg_sl ([.int 4095, .long 0])).length) Slot.unset).toArray = ls at hl ⊢
  have hl : lv_has ls 3 [(0, .int 4095), (1, .long 0)] := hl
  refine lv_ldc2 (v := 2199023255551) hx hb hown (hts (.constantLong RX8 144 (2199023255551)) (by decide +kernel)) dX8_lensOf_0 ?_
  refine lv_iload_n hx hb dX8_lensOf_3 rfl (lv_at hl 0 rfl) ?_
  refine lv_i2l (v := 4095) hx hb dX8_lensOf_4 (by decide) ?_
  refine lv_bipush (v := 41) hx hb dX8_lensOf_5 (by decide) ?_
  refine lv_lshl (v := 9005000231485440) hx hb dX8_lensOf_7 (by decide) ?_
  refine lv_lor hx hb dX8_lensOf_8 ?_
  refine zl (y := 9007199254740991) (by decide) ?_
  refine lv_lload_n hx hb dX8_lensOf_9 rfl (lv_at hl 1 rfl) ?_
  refine lv_lor hx hb dX8_lensOf_10 ?_
  refine zl (y := 9007199254740991) (by decide) ?_
  exact W.lret (v := 9007199254740991) hx hb hr (fun tt_ ht hW => ⟨_, rfl, rfl, ht⟩) (fun _ h => by cases h) dX8_lensOf_11
set_option maxHeartbeats 1000000 in
set_option maxRecDepth 100000 in
theorem c_lensOf1 (l : Launch) (dC : Nat → ClassId) (dI : Nat → Nat → Nat) (cI cJ cS : ClassId)   : Met l yX8_lensOf wsX8_lensOf ({ frames := 0, cells := 0, slots := 0, locals := 0 }) (va_Pc [.int 4095, .long 4602678819172646912] (PR dC dI cI cJ cS [])) (vp_Sl (fun r : Int64 => r = 4611686018427387903)) 0 0 (fun _ => False) := by
  refine Met.ofW (cc := cX8_lensOf) (maxL := 3) (ret := (some .long)) (by decide) rfl ?_
  intro pp_ ee_ ss_ mm_ args below meth cc_ s₁ B hml hv
  obtain ⟨rfl, hP, hE⟩ := hv
  have hx := B.exec
  have hb := B.bytes
  have hr := B.returns
  have hts := atoms_spec (ws := wsX8_lensOf) B.pre
  have hown : ss_.vm.findClass RX8 = some mm_.cls := findClass_of_methodNamed B.named
  have hlocks := B.notSynchronized
  have hK := hE.1
  have hP : va_P (dC, dI) vwCl [] ss_.heap := hP
  have hl := lv_entry ([.int 4095, .long 4602678819172646912]) (n := 3) (Nat.le_of_ble_eq_true rfl)
  rw [lg_entry_eq]
  generalize (lg_sl ([.int 4095, .long 4602678819172646912]) ++ List.replicate (3 - (lg_sl ([.int 4095, .long 4602678819172646912])).length) Slot.unset).toArray = ls at hl ⊢
  have hl : lv_has ls 3 [(0, .int 4095), (1, .long 4602678819172646912)] := hl
  refine lv_ldc2 (v := 2199023255551) hx hb hown (hts (.constantLong RX8 144 (2199023255551)) (by decide +kernel)) dX8_lensOf_0 ?_
  refine lv_iload_n hx hb dX8_lensOf_3 rfl (lv_at hl 0 rfl) ?_
  refine lv_i2l (v := 4095) hx hb dX8_lensOf_4 (by decide) ?_
  refine lv_bipush (v := 41) hx hb dX8_lensOf_5 (by decide) ?_
  refine lv_lshl (v := 9005000231485440) hx hb dX8_lensOf_7 (by decide) ?_
  refine lv_lor hx hb dX8_lensOf_8 ?_
  refine zl (y := 9007199254740991) (by decide) ?_
  refine lv_lload_n hx hb dX8_lensOf_9 rfl (lv_at hl 1 rfl) ?_
  refine lv_lor hx hb dX8_lensOf_10 ?_
  refine zl (y := 4611686018427387903) (by decide) ?_
  exact W.lret (v := 4611686018427387903) hx hb hr (fun tt_ ht hW => ⟨_, rfl, rfl, ht⟩) (fun _ h => by cases h) dX8_lensOf_11
set_option maxHeartbeats 1000000 in
set_option maxRecDepth 100000 in
theorem c_aim0 (l : Launch) (dC : Nat → ClassId) (dI : Nat → Nat → Nat) (cI cJ cS : ClassId) (sz : Nat) (x5 : Nat) (p : Nat) (w : Int32) (wm : Nat) (wt : Nat) (wv : Nat) (wk : Nat) (we : Nat) (wf : Nat) (wp : Nat)  : Met l yX8_aim wsX8_aim ({ frames := 1, cells := 0, slots := 0, locals := 22 }) (va_Pc [.ref x5, .ref p, .int w, .int 4095, .int 0] (PE dC dI cI cJ cS [(x5, .inr (8, [.ref wm, .ref wt, .ref wv, .ref wk, .int 1, .ref we, .ref wf, .int 0, .ref wp, .int 0, .long 0, .int 0, .int 0, .int 0, .int 0, .int 0, .int 0]))] sz)) (va_Qv (fun (_ : Unit) => True) (BE dC dI (va_A [(x5, .inr (8, [.ref wm, .ref wt, .ref wv, .ref wk, .int 1, .ref we, .ref wf, .int 0, .ref wp, .int 0, .long 0, .int 0, .int 0, .int 0, .int 0, .int 0, .int 0]))] sz) (fun (_ : Unit) => [(x5, .inr (8, [.ref wm, .ref wt, .ref wv, .ref wk, .int 1, .ref we, .ref wf, .int 0, .ref p, .int (w &&& 3), .long 9007199254740991, .int 4095, .int 0, .int 0, .int 0, .int 0, .int 0]))])) (va_A [(x5, .inr (8, [.ref wm, .ref wt, .ref wv, .ref wk, .int 1, .ref we, .ref wf, .int 0, .ref wp, .int 0, .long 0, .int 0, .int 0, .int 0, .int 0, .int 0, .int 0]))] sz)) 0 0 (va_A [(x5, .inr (8, [.ref wm, .ref wt, .ref wv, .ref wk, .int 1, .ref we, .ref wf, .int 0, .ref wp, .int 0, .long 0, .int 0, .int 0, .int 0, .int 0, .int 0, .int 0]))] sz) := by
  refine Met.ofW (cc := cX8_aim) (maxL := 5) (ret := none) (by decide) rfl ?_
  intro pp_ ee_ ss_ mm_ args below meth cc_ s₁ B hml hv
  obtain ⟨rfl, hsz, hP, hE, hD0⟩ := hv
  have hx := B.exec
  have hb := B.bytes
  have hr := B.returns
  have hts := atoms_spec (ws := wsX8_aim) B.pre
  have hown : ss_.vm.findClass RX8 = some mm_.cls := findClass_of_methodNamed B.named
  have hlocks := B.notSynchronized
  have hK := hE.1
  have hiX8 : ∀ w ∈ wsX80, w ∈ wsX8_aim := by decide +kernel
  subst hsz
  have hD := hD0.self (sz := ss_.heap.size)
  generalize hAe : va_A [(x5, .inr (8, [.ref wm, .ref wt, .ref wv, .ref wk, .int 1, .ref we, .ref wf, .int 0, .ref wp, .int 0, .long 0, .int 0, .int 0, .int 0, .int 0, .int 0, .int 0]))] ss_.heap.size = A at hD ⊢
  have hA : ∀ q : Nat, ss_.heap.size ≤ q → A q := fun q h => by rw [← hAe]; exact Or.inr h
  have hS : va_S A ss_.heap ss_.heap [] := va_S.rf
  have hP : va_P (dC, dI) vwCl [(x5, .inr (8, [.ref wm, .ref wt, .ref wv, .ref wk, .int 1, .ref we, .ref wf, .int 0, .ref wp, .int 0, .long 0, .int 0, .int 0, .int 0, .int 0, .int 0, .int 0]))] ss_.heap := hP
  have hl := lv_entry ([.ref x5, .ref p, .int w, .int 4095, .int 0]) (n := 5) (Nat.le_of_ble_eq_true rfl)
  rw [lg_entry_eq]
  generalize (lg_sl ([.ref x5, .ref p, .int w, .int 4095, .int 0]) ++ List.replicate (5 - (lg_sl ([.ref x5, .ref p, .int w, .int 4095, .int 0])).length) Slot.unset).toArray = ls at hl ⊢
  have hl : lv_has ls 5 [(0, .ref x5), (1, .ref p), (2, .int w), (3, .int 4095), (4, .int 0)] := hl
  refine lv_aload_n hx hb dX8_aim_0 rfl (lv_at hl 0 rfl) ?_
  refine lv_aload_n hx hb dX8_aim_1 rfl (lv_at hl 1 rfl) ?_
  refine va_put (D := (dC, dI)) (ci := 8) (v := .ref p) (ty := (.object "WatchedPrograms$Program")) (C := RX8) (T := TX8) (N := 17) hx hb hts hiX8 tyX8 tyX8_ok nmX8 hown hK hP hD hS 0 rfl rfl 8 (by decide) (hts (.fieldLink RX8 46 "WatchedPrograms$Watch" "program" "LWatchedPrograms$Program;") (by decide +kernel)) (fun _ h9 => h9) rfl (by decide +kernel) rfl rfl (Nat.le_of_ble_eq_true rfl) dX8_aim_2 (fun H locs hP hD hS => ?_)
  have hP : va_P (dC, dI) vwCl [(x5, .inr (8, [.ref wm, .ref wt, .ref wv, .ref wk, .int 1, .ref we, .ref wf, .int 0, .ref p, .int 0, .long 0, .int 0, .int 0, .int 0, .int 0, .int 0, .int 0]))] H := hP
  have hD : va_D A [(x5, .inr (8, [.ref wm, .ref wt, .ref wv, .ref wk, .int 1, .ref we, .ref wf, .int 0, .ref p, .int 0, .long 0, .int 0, .int 0, .int 0, .int 0, .int 0, .int 0]))] := hD
  refine lv_aload_n hx hb dX8_aim_5 rfl (lv_at hl 0 rfl) ?_
  refine lv_iload_n hx hb dX8_aim_6 rfl (lv_at hl 2 rfl) ?_
  refine lv_iconst (v := 3) hx hb dX8_aim_7 (by decide) ?_
  refine lv_iand hx hb dX8_aim_8 ?_
  refine va_put (D := (dC, dI)) (ci := 8) (v := .int (w &&& 3)) (ty := .int) (C := RX8) (T := TX8) (N := 17) hx hb hts hiX8 tyX8 tyX8_ok nmX8 hown hK hP hD hS 0 rfl rfl 9 (by decide) (hts (.fieldLink RX8 50 "WatchedPrograms$Watch" "watcher" "I") (by decide +kernel)) (fun _ h9 => h9) rfl (by decide +kernel) rfl rfl (Nat.le_of_ble_eq_true rfl) dX8_aim_9 (fun H locs hP hD hS => ?_)
  have hP : va_P (dC, dI) vwCl [(x5, .inr (8, [.ref wm, .ref wt, .ref wv, .ref wk, .int 1, .ref we, .ref wf, .int 0, .ref p, .int (w &&& 3), .long 0, .int 0, .int 0, .int 0, .int 0, .int 0, .int 0]))] H := hP
  have hD : va_D A [(x5, .inr (8, [.ref wm, .ref wt, .ref wv, .ref wk, .int 1, .ref we, .ref wf, .int 0, .ref p, .int (w &&& 3), .long 0, .int 0, .int 0, .int 0, .int 0, .int 0, .int 0]))] := hD
  refine lv_aload_n hx hb dX8_aim_12 rfl (lv_at hl 0 rfl) ?_
  refine lv_iload_n hx hb dX8_aim_13 rfl (lv_at hl 3 rfl) ?_
  refine va_put (D := (dC, dI)) (ci := 8) (v := .int 4095) (ty := .int) (C := RX8) (T := TX8) (N := 17) hx hb hts hiX8 tyX8 tyX8_ok nmX8 hown hK hP hD hS 0 rfl rfl 11 (by decide) (hts (.fieldLink RX8 53 "WatchedPrograms$Watch" "openCells" "I") (by decide +kernel)) (fun _ h9 => h9) rfl (by decide +kernel) rfl rfl (Nat.le_of_ble_eq_true rfl) dX8_aim_14 (fun H locs hP hD hS => ?_)
  have hP : va_P (dC, dI) vwCl [(x5, .inr (8, [.ref wm, .ref wt, .ref wv, .ref wk, .int 1, .ref we, .ref wf, .int 0, .ref p, .int (w &&& 3), .long 0, .int 4095, .int 0, .int 0, .int 0, .int 0, .int 0]))] H := hP
  have hD : va_D A [(x5, .inr (8, [.ref wm, .ref wt, .ref wv, .ref wk, .int 1, .ref we, .ref wf, .int 0, .ref p, .int (w &&& 3), .long 0, .int 4095, .int 0, .int 0, .int 0, .int 0, .int 0]))] := hD
  refine lv_aload_n hx hb dX8_aim_17 rfl (lv_at hl 0 rfl) ?_
  refine lv_sipush (v := 4095) hx hb dX8_aim_18 (by decide) ?_
  refine lv_iload_n hx hb dX8_aim_21 rfl (lv_at hl 3 rfl) ?_
  refine lv_iconst (v := (-1)) hx hb dX8_aim_22 (by decide) ?_
  refine lv_ixor hx hb dX8_aim_23 ?_
  refine zi (y := (-4096)) (by decide) ?_
  refine lv_iand hx hb dX8_aim_24 ?_
  refine zi (y := 0) (by decide) ?_
  refine va_put (D := (dC, dI)) (ci := 8) (v := .int 0) (ty := .int) (C := RX8) (T := TX8) (N := 17) hx hb hts hiX8 tyX8 tyX8_ok nmX8 hown hK hP hD hS 0 rfl rfl 12 (by decide) (hts (.fieldLink RX8 56 "WatchedPrograms$Watch" "secretCells" "I") (by decide +kernel)) (fun _ h9 => h9) rfl (by decide +kernel) rfl rfl (Nat.le_of_ble_eq_true rfl) dX8_aim_25 (fun H locs hP hD hS => ?_)
  have hP : va_P (dC, dI) vwCl [(x5, .inr (8, [.ref wm, .ref wt, .ref wv, .ref wk, .int 1, .ref we, .ref wf, .int 0, .ref p, .int (w &&& 3), .long 0, .int 4095, .int 0, .int 0, .int 0, .int 0, .int 0]))] H := hP
  have hD : va_D A [(x5, .inr (8, [.ref wm, .ref wt, .ref wv, .ref wk, .int 1, .ref we, .ref wf, .int 0, .ref p, .int (w &&& 3), .long 0, .int 4095, .int 0, .int 0, .int 0, .int 0, .int 0]))] := hD
  refine lv_aload_n hx hb dX8_aim_28 rfl (lv_at hl 0 rfl) ?_
  refine lv_iload_n hx hb dX8_aim_29 rfl (lv_at hl 3 rfl) ?_
  refine lv_iload hx hb dX8_aim_30 (lv_at hl 4 rfl) ?_
  refine lv_iconst (v := 1) hx hb dX8_aim_32 (by decide) ?_
  refine lv_icmp_ne (tgt := 42) hx hb dX8_aim_33 (by decide) (fun _ => ?_) (fun c_1 => absurd c_1 (by decide))
  refine lv_lconst (v := 0) hx hb dX8_aim_42 (by decide) ?_
  refine vp_callSl (va_Run.run (va_runS (As := [.int 4095, .long 0]) (rest := [.ref x5]) ⟨hx, hb, hml, hown, hts⟩ (c_lensOf0 l dC dI cI cJ cS   ) (va_cwS 2 hts gX8_aim_X8_lensOf rfl rfl rfl (by decide +kernel) ⟨Nat.le_of_ble_eq_true rfl, Nat.le_of_ble_eq_true rfl⟩) (preR (hP.sub (ws' := []) [] rfl) hE) rfl rfl hl.1 rfl (lv_room (Nat.le_of_ble_eq_true rfl)) dX8_aim_43 ⟨by decide +kernel, by decide +kernel⟩)) (fun r_2 hr_3 => ?_)
  obtain rfl := hr_3
  refine va_put (D := (dC, dI)) (ci := 8) (v := .long 9007199254740991) (ty := .long) (C := RX8) (T := TX8) (N := 17) hx hb hts hiX8 tyX8 tyX8_ok nmX8 hown hK hP hD hS 0 rfl rfl 10 (by decide) (hts (.fieldLink RX8 65 "WatchedPrograms$Watch" "lens" "J") (by decide +kernel)) (fun _ h9 => h9) rfl (by decide +kernel) rfl rfl (Nat.le_of_ble_eq_true rfl) dX8_aim_46 (fun H locs hP hD hS => ?_)
  have hP : va_P (dC, dI) vwCl [(x5, .inr (8, [.ref wm, .ref wt, .ref wv, .ref wk, .int 1, .ref we, .ref wf, .int 0, .ref p, .int (w &&& 3), .long 9007199254740991, .int 4095, .int 0, .int 0, .int 0, .int 0, .int 0]))] H := hP
  have hD : va_D A [(x5, .inr (8, [.ref wm, .ref wt, .ref wv, .ref wk, .int 1, .ref we, .ref wf, .int 0, .ref p, .int (w &&& 3), .long 9007199254740991, .int 4095, .int 0, .int 0, .int 0, .int 0, .int 0]))] := hD
  have hP9 := hP.sub (ws' := [(x5, .inr (8, [.ref wm, .ref wt, .ref wv, .ref wk, .int 1, .ref we, .ref wf, .int 0, .ref p, .int (w &&& 3), .long 9007199254740991, .int 4095, .int 0, .int 0, .int 0, .int 0, .int 0]))]) [0] rfl
  have hD9 := hD.sub (ws' := [(x5, .inr (8, [.ref wm, .ref wt, .ref wv, .ref wk, .int 1, .ref we, .ref wf, .int 0, .ref p, .int (w &&& 3), .long 9007199254740991, .int 4095, .int 0, .int 0, .int 0, .int 0, .int 0]))]) [0] (by decide) rfl
  exact W.vret hx hb hr (fun tt_ ht hW => ⟨⟨(), rfl, trivial, by rw [ht]; exact hP9, hD9⟩, hS.F ht⟩) hS.2.2 dX8_aim_49
set_option maxHeartbeats 1000000 in
set_option maxRecDepth 100000 in
theorem c_aim1 (l : Launch) (dC : Nat → ClassId) (dI : Nat → Nat → Nat) (cI cJ cS : ClassId) (sz : Nat) (x5 : Nat) (p : Nat) (w : Int32) (wm : Nat) (wt : Nat) (wv : Nat) (wk : Nat) (we : Nat) (wf : Nat) (wp : Nat)  : Met l yX8_aim wsX8_aim ({ frames := 1, cells := 0, slots := 0, locals := 22 }) (va_Pc [.ref x5, .ref p, .int w, .int 4095, .int 1] (PE dC dI cI cJ cS [(x5, .inr (8, [.ref wm, .ref wt, .ref wv, .ref wk, .int 1, .ref we, .ref wf, .int 0, .ref wp, .int 0, .long 0, .int 0, .int 0, .int 0, .int 0, .int 0, .int 0]))] sz)) (va_Qv (fun (_ : Unit) => True) (BE dC dI (va_A [(x5, .inr (8, [.ref wm, .ref wt, .ref wv, .ref wk, .int 1, .ref we, .ref wf, .int 0, .ref wp, .int 0, .long 0, .int 0, .int 0, .int 0, .int 0, .int 0, .int 0]))] sz) (fun (_ : Unit) => [(x5, .inr (8, [.ref wm, .ref wt, .ref wv, .ref wk, .int 1, .ref we, .ref wf, .int 0, .ref p, .int (w &&& 3), .long 4611686018427387903, .int 4095, .int 0, .int 0, .int 0, .int 0, .int 0]))])) (va_A [(x5, .inr (8, [.ref wm, .ref wt, .ref wv, .ref wk, .int 1, .ref we, .ref wf, .int 0, .ref wp, .int 0, .long 0, .int 0, .int 0, .int 0, .int 0, .int 0, .int 0]))] sz)) 0 0 (va_A [(x5, .inr (8, [.ref wm, .ref wt, .ref wv, .ref wk, .int 1, .ref we, .ref wf, .int 0, .ref wp, .int 0, .long 0, .int 0, .int 0, .int 0, .int 0, .int 0, .int 0]))] sz) := by
  refine Met.ofW (cc := cX8_aim) (maxL := 5) (ret := none) (by decide) rfl ?_
  intro pp_ ee_ ss_ mm_ args below meth cc_ s₁ B hml hv
  obtain ⟨rfl, hsz, hP, hE, hD0⟩ := hv
  have hx := B.exec
  have hb := B.bytes
  have hr := B.returns
  have hts := atoms_spec (ws := wsX8_aim) B.pre
  have hown : ss_.vm.findClass RX8 = some mm_.cls := findClass_of_methodNamed B.named
  have hlocks := B.notSynchronized
  have hK := hE.1
  have hiX8 : ∀ w ∈ wsX80, w ∈ wsX8_aim := by decide +kernel
  subst hsz
  have hD := hD0.self (sz := ss_.heap.size)
  generalize hAe : va_A [(x5, .inr (8, [.ref wm, .ref wt, .ref wv, .ref wk, .int 1, .ref we, .ref wf, .int 0, .ref wp, .int 0, .long 0, .int 0, .int 0, .int 0, .int 0, .int 0, .int 0]))] ss_.heap.size = A at hD ⊢
  have hA : ∀ q : Nat, ss_.heap.size ≤ q → A q := fun q h => by rw [← hAe]; exact Or.inr h
  have hS : va_S A ss_.heap ss_.heap [] := va_S.rf
  have hP : va_P (dC, dI) vwCl [(x5, .inr (8, [.ref wm, .ref wt, .ref wv, .ref wk, .int 1, .ref we, .ref wf, .int 0, .ref wp, .int 0, .long 0, .int 0, .int 0, .int 0, .int 0, .int 0, .int 0]))] ss_.heap := hP
  have hl := lv_entry ([.ref x5, .ref p, .int w, .int 4095, .int 1]) (n := 5) (Nat.le_of_ble_eq_true rfl)
  rw [lg_entry_eq]
  generalize (lg_sl ([.ref x5, .ref p, .int w, .int 4095, .int 1]) ++ List.replicate (5 - (lg_sl ([.ref x5, .ref p, .int w, .int 4095, .int 1])).length) Slot.unset).toArray = ls at hl ⊢
  have hl : lv_has ls 5 [(0, .ref x5), (1, .ref p), (2, .int w), (3, .int 4095), (4, .int 1)] := hl
  refine lv_aload_n hx hb dX8_aim_0 rfl (lv_at hl 0 rfl) ?_
  refine lv_aload_n hx hb dX8_aim_1 rfl (lv_at hl 1 rfl) ?_
  refine va_put (D := (dC, dI)) (ci := 8) (v := .ref p) (ty := (.object "WatchedPrograms$Program")) (C := RX8) (T := TX8) (N := 17) hx hb hts hiX8 tyX8 tyX8_ok nmX8 hown hK hP hD hS 0 rfl rfl 8 (by decide) (hts (.fieldLink RX8 46 "WatchedPrograms$Watch" "program" "LWatchedPrograms$Program;") (by decide +kernel)) (fun _ h9 => h9) rfl (by decide +kernel) rfl rfl (Nat.le_of_ble_eq_true rfl) dX8_aim_2 (fun H locs hP hD hS => ?_)
  have hP : va_P (dC, dI) vwCl [(x5, .inr (8, [.ref wm, .ref wt, .ref wv, .ref wk, .int 1, .ref we, .ref wf, .int 0, .ref p, .int 0, .long 0, .int 0, .int 0, .int 0, .int 0, .int 0, .int 0]))] H := hP
  have hD : va_D A [(x5, .inr (8, [.ref wm, .ref wt, .ref wv, .ref wk, .int 1, .ref we, .ref wf, .int 0, .ref p, .int 0, .long 0, .int 0, .int 0, .int 0, .int 0, .int 0, .int 0]))] := hD
  refine lv_aload_n hx hb dX8_aim_5 rfl (lv_at hl 0 rfl) ?_
  refine lv_iload_n hx hb dX8_aim_6 rfl (lv_at hl 2 rfl) ?_
  refine lv_iconst (v := 3) hx hb dX8_aim_7 (by decide) ?_
  refine lv_iand hx hb dX8_aim_8 ?_
  refine va_put (D := (dC, dI)) (ci := 8) (v := .int (w &&& 3)) (ty := .int) (C := RX8) (T := TX8) (N := 17) hx hb hts hiX8 tyX8 tyX8_ok nmX8 hown hK hP hD hS 0 rfl rfl 9 (by decide) (hts (.fieldLink RX8 50 "WatchedPrograms$Watch" "watcher" "I") (by decide +kernel)) (fun _ h9 => h9) rfl (by decide +kernel) rfl rfl (Nat.le_of_ble_eq_true rfl) dX8_aim_9 (fun H locs hP hD hS => ?_)
  have hP : va_P (dC, dI) vwCl [(x5, .inr (8, [.ref wm, .ref wt, .ref wv, .ref wk, .int 1, .ref we, .ref wf, .int 0, .ref p, .int (w &&& 3), .long 0, .int 0, .int 0, .int 0, .int 0, .int 0, .int 0]))] H := hP
  have hD : va_D A [(x5, .inr (8, [.ref wm, .ref wt, .ref wv, .ref wk, .int 1, .ref we, .ref wf, .int 0, .ref p, .int (w &&& 3), .long 0, .int 0, .int 0, .int 0, .int 0, .int 0, .int 0]))] := hD
  refine lv_aload_n hx hb dX8_aim_12 rfl (lv_at hl 0 rfl) ?_
  refine lv_iload_n hx hb dX8_aim_13 rfl (lv_at hl 3 rfl) ?_
  refine va_put (D := (dC, dI)) (ci := 8) (v := .int 4095) (ty := .int) (C := RX8) (T := TX8) (N := 17) hx hb hts hiX8 tyX8 tyX8_ok nmX8 hown hK hP hD hS 0 rfl rfl 11 (by decide) (hts (.fieldLink RX8 53 "WatchedPrograms$Watch" "openCells" "I") (by decide +kernel)) (fun _ h9 => h9) rfl (by decide +kernel) rfl rfl (Nat.le_of_ble_eq_true rfl) dX8_aim_14 (fun H locs hP hD hS => ?_)
  have hP : va_P (dC, dI) vwCl [(x5, .inr (8, [.ref wm, .ref wt, .ref wv, .ref wk, .int 1, .ref we, .ref wf, .int 0, .ref p, .int (w &&& 3), .long 0, .int 4095, .int 0, .int 0, .int 0, .int 0, .int 0]))] H := hP
  have hD : va_D A [(x5, .inr (8, [.ref wm, .ref wt, .ref wv, .ref wk, .int 1, .ref we, .ref wf, .int 0, .ref p, .int (w &&& 3), .long 0, .int 4095, .int 0, .int 0, .int 0, .int 0, .int 0]))] := hD
  refine lv_aload_n hx hb dX8_aim_17 rfl (lv_at hl 0 rfl) ?_
  refine lv_sipush (v := 4095) hx hb dX8_aim_18 (by decide) ?_
  refine lv_iload_n hx hb dX8_aim_21 rfl (lv_at hl 3 rfl) ?_
  refine lv_iconst (v := (-1)) hx hb dX8_aim_22 (by decide) ?_
  refine lv_ixor hx hb dX8_aim_23 ?_
  refine zi (y := (-4096)) (by decide) ?_
  refine lv_iand hx hb dX8_aim_24 ?_
  refine zi (y := 0) (by decide) ?_
  refine va_put (D := (dC, dI)) (ci := 8) (v := .int 0) (ty := .int) (C := RX8) (T := TX8) (N := 17) hx hb hts hiX8 tyX8 tyX8_ok nmX8 hown hK hP hD hS 0 rfl rfl 12 (by decide) (hts (.fieldLink RX8 56 "WatchedPrograms$Watch" "secretCells" "I") (by decide +kernel)) (fun _ h9 => h9) rfl (by decide +kernel) rfl rfl (Nat.le_of_ble_eq_true rfl) dX8_aim_25 (fun H locs hP hD hS => ?_)
  have hP : va_P (dC, dI) vwCl [(x5, .inr (8, [.ref wm, .ref wt, .ref wv, .ref wk, .int 1, .ref we, .ref wf, .int 0, .ref p, .int (w &&& 3), .long 0, .int 4095, .int 0, .int 0, .int 0, .int 0, .int 0]))] H := hP
  have hD : va_D A [(x5, .inr (8, [.ref wm, .ref wt, .ref wv, .ref wk, .int 1, .ref we, .ref wf, .int 0, .ref p, .int (w &&& 3), .long 0, .int 4095, .int 0, .int 0, .int 0, .int 0, .int 0]))] := hD
  refine lv_aload_n hx hb dX8_aim_28 rfl (lv_at hl 0 rfl) ?_
  refine lv_iload_n hx hb dX8_aim_29 rfl (lv_at hl 3 rfl) ?_
  refine lv_iload hx hb dX8_aim_30 (lv_at hl 4 rfl) ?_
  refine lv_iconst (v := 1) hx hb dX8_aim_32 (by decide) ?_
  refine lv_icmp_ne (tgt := 42) hx hb dX8_aim_33 (by decide) (fun c_1 => absurd (by decide) c_1) (fun _ => ?_)
  refine lv_ldc2 (v := 4602678819172646912) hx hb hown (hts (.constantLong RX8 59 (4602678819172646912)) (by decide +kernel)) dX8_aim_36 ?_
  refine lv_goto (tgt := 43) hx hb dX8_aim_39 (by decide) ?_
  refine vp_callSl (va_Run.run (va_runS (As := [.int 4095, .long 4602678819172646912]) (rest := [.ref x5]) ⟨hx, hb, hml, hown, hts⟩ (c_lensOf1 l dC dI cI cJ cS   ) (va_cwS 2 hts gX8_aim_X8_lensOf rfl rfl rfl (by decide +kernel) ⟨Nat.le_of_ble_eq_true rfl, Nat.le_of_ble_eq_true rfl⟩) (preR (hP.sub (ws' := []) [] rfl) hE) rfl rfl hl.1 rfl (lv_room (Nat.le_of_ble_eq_true rfl)) dX8_aim_43 ⟨by decide +kernel, by decide +kernel⟩)) (fun r_2 hr_3 => ?_)
  obtain rfl := hr_3
  refine va_put (D := (dC, dI)) (ci := 8) (v := .long 4611686018427387903) (ty := .long) (C := RX8) (T := TX8) (N := 17) hx hb hts hiX8 tyX8 tyX8_ok nmX8 hown hK hP hD hS 0 rfl rfl 10 (by decide) (hts (.fieldLink RX8 65 "WatchedPrograms$Watch" "lens" "J") (by decide +kernel)) (fun _ h9 => h9) rfl (by decide +kernel) rfl rfl (Nat.le_of_ble_eq_true rfl) dX8_aim_46 (fun H locs hP hD hS => ?_)
  have hP : va_P (dC, dI) vwCl [(x5, .inr (8, [.ref wm, .ref wt, .ref wv, .ref wk, .int 1, .ref we, .ref wf, .int 0, .ref p, .int (w &&& 3), .long 4611686018427387903, .int 4095, .int 0, .int 0, .int 0, .int 0, .int 0]))] H := hP
  have hD : va_D A [(x5, .inr (8, [.ref wm, .ref wt, .ref wv, .ref wk, .int 1, .ref we, .ref wf, .int 0, .ref p, .int (w &&& 3), .long 4611686018427387903, .int 4095, .int 0, .int 0, .int 0, .int 0, .int 0]))] := hD
  have hP9 := hP.sub (ws' := [(x5, .inr (8, [.ref wm, .ref wt, .ref wv, .ref wk, .int 1, .ref we, .ref wf, .int 0, .ref p, .int (w &&& 3), .long 4611686018427387903, .int 4095, .int 0, .int 0, .int 0, .int 0, .int 0]))]) [0] rfl
  have hD9 := hD.sub (ws' := [(x5, .inr (8, [.ref wm, .ref wt, .ref wv, .ref wk, .int 1, .ref we, .ref wf, .int 0, .ref p, .int (w &&& 3), .long 4611686018427387903, .int 4095, .int 0, .int 0, .int 0, .int 0, .int 0]))]) [0] (by decide) rfl
  exact W.vret hx hb hr (fun tt_ ht hW => ⟨⟨(), rfl, trivial, by rw [ht]; exact hP9, hD9⟩, hS.F ht⟩) hS.2.2 dX8_aim_49
set_option maxHeartbeats 1000000 in
set_option maxRecDepth 100000 in
theorem c_viewOf (l : Launch) (dC : Nat → ClassId) (dI : Nat → Nat → Nat) (cI cJ cS : ClassId) (x5 : Nat) (w : Int32) (wm : Nat) (wt : Nat) (wv : Nat) (wk : Nat) (we : Nat) (wf : Nat) (p : Nat) (g : Int32) (ln : Int64) (fo : Int32) (mh : Int32) (na : Nat) (nb : Nat)  : Met l yX8_viewOf wsX8_viewOf ({ frames := 2, cells := 0, slots := 0, locals := 33 }) (va_Pc [.ref x5, .int w] (PR dC dI cI cJ cS [(x5, .inr (8, [.ref wm, .ref wt, .ref wv, .ref wk, .int 1, .ref we, .ref wf, .int 0, .ref p, .int g, .long ln, .int 4095, .int 0, .int fo, .int 0, .int 0, .int mh])), (wm, .inr (2, [.ref na, .ref nb, .int 0, .int 0, .int 0]))])) (vp_Sl (fun r : Int64 => r = 1)) 0 0 (fun _ => False) := by
  refine Met.ofW (cc := cX8_viewOf) (maxL := 6) (ret := (some .long)) (by decide) rfl ?_
  intro pp_ ee_ ss_ mm_ args below meth cc_ s₁ B hml hv
  obtain ⟨rfl, hP, hE⟩ := hv
  have hx := B.exec
  have hb := B.bytes
  have hr := B.returns
  have hts := atoms_spec (ws := wsX8_viewOf) B.pre
  have hown : ss_.vm.findClass RX8 = some mm_.cls := findClass_of_methodNamed B.named
  have hlocks := B.notSynchronized
  have hK := hE.1
  have hiX2 : ∀ w ∈ wsX20, w ∈ wsX8_viewOf := by decide +kernel
  have hiX8 : ∀ w ∈ wsX80, w ∈ wsX8_viewOf := by decide +kernel
  have hP : va_P (dC, dI) vwCl [(x5, .inr (8, [.ref wm, .ref wt, .ref wv, .ref wk, .int 1, .ref we, .ref wf, .int 0, .ref p, .int g, .long ln, .int 4095, .int 0, .int fo, .int 0, .int 0, .int mh])), (wm, .inr (2, [.ref na, .ref nb, .int 0, .int 0, .int 0]))] ss_.heap := hP
  have hl := lv_entry ([.ref x5, .int w]) (n := 6) (Nat.le_of_ble_eq_true rfl)
  rw [lg_entry_eq]
  generalize (lg_sl ([.ref x5, .int w]) ++ List.replicate (6 - (lg_sl ([.ref x5, .int w])).length) Slot.unset).toArray = ls at hl ⊢
  have hl : lv_has ls 6 [(0, .ref x5), (1, .int w)] := hl
  refine lv_lconst (v := 1) hx hb dX8_viewOf_0 (by decide) ?_
  refine lv_lstore_n (lv' := [(2, .long 1), (0, .ref x5), (1, .int w)]) hx hb dX8_viewOf_1 rfl hl (by decide) rfl (fun ls hl => ?_)
  refine lv_aload_n hx hb dX8_viewOf_2 rfl (lv_at hl 1 rfl) ?_
  refine va_get (D := (dC, dI)) (ci := 8) (v := .ref wm) (C := RX8) (T := TX8) (N := 17) hx hb hts hiX8 hown hK hP 0 rfl rfl 0 (by decide) (hts (.fieldLink RX8 14 "WatchedPrograms$Watch" "machine" "LWatchedPrograms$Machine;") (by decide +kernel)) (fun _ h9 => h9) rfl dX8_viewOf_3 ?_
  refine vp_callSi (va_Run.run (va_runV (As := []) (rest := []) ⟨hx, hb, hml, hown, hts⟩ (c_kept l dC dI cI cJ cS  wm na nb 0 0 ) (cwV 0 hts gX8_viewOf_X2_kept rfl rfl rfl (by decide +kernel) ⟨Nat.le_of_ble_eq_true rfl, Nat.le_of_ble_eq_true rfl⟩) (preRV (hP.sub (ws' := [(wm, .inr (2, [.ref na, .ref nb, .int 0, .int 0, .int 0]))]) [1] rfl) hE 0 (ci := 2) rfl rfl) rfl rfl hl.1 rfl (lv_room (Nat.le_of_ble_eq_true rfl)) dX8_viewOf_6 ⟨by decide +kernel, by decide +kernel⟩)) (fun r_1 hr_2 => ?_)
  obtain rfl := hr_2
  refine lv_istore (lv' := [(4, .int 0), (2, .long 1), (0, .ref x5), (1, .int w)]) hx hb dX8_viewOf_9 hl (by decide) rfl (fun ls hl => ?_)
  refine lv_iconst (v := 0) hx hb dX8_viewOf_11 (by decide) ?_
  refine lv_istore (lv' := [(5, .int 0), (4, .int 0), (2, .long 1), (0, .ref x5), (1, .int w)]) hx hb dX8_viewOf_12 hl (by decide) rfl (fun ls hl => ?_)
  refine lv_iload hx hb dX8_viewOf_14 (lv_at hl 0 rfl) ?_
  refine lv_iload hx hb dX8_viewOf_16 (lv_at hl 1 rfl) ?_
  refine lv_icmp_ge (tgt := 60) hx hb dX8_viewOf_18 (by decide) (fun _ => ?_) (fun c_3 => absurd (by decide) c_3)
  refine lv_lload_n hx hb dX8_viewOf_60 rfl (lv_at hl 2 rfl) ?_
  refine lv_aload_n hx hb dX8_viewOf_61 rfl (lv_at hl 3 rfl) ?_
  refine va_get (D := (dC, dI)) (ci := 8) (v := .ref wm) (C := RX8) (T := TX8) (N := 17) hx hb hts hiX8 hown hK hP 0 rfl rfl 0 (by decide) (hts (.fieldLink RX8 14 "WatchedPrograms$Watch" "machine" "LWatchedPrograms$Machine;") (by decide +kernel)) (fun _ h9 => h9) rfl dX8_viewOf_62 ?_
  refine va_get (D := (dC, dI)) (ci := 2) (v := .int 0) (C := RX2) (T := TX2) (N := 5) hx hb hts hiX2 hown hK hP 1 rfl rfl 2 (by decide) (hts (.fieldLink RX8 167 "WatchedPrograms$Machine" "numbers" "I") (by decide +kernel)) (fun _ h9 => h9) rfl dX8_viewOf_65 ?_
  refine lv_i2l (v := 0) hx hb dX8_viewOf_68 (by decide) ?_
  refine lv_bipush (v := 41) hx hb dX8_viewOf_69 (by decide) ?_
  refine lv_lshl (v := 0) hx hb dX8_viewOf_71 (by decide) ?_
  refine lv_lor hx hb dX8_viewOf_72 ?_
  refine zl (y := 1) (by decide) ?_
  refine lv_aload_n hx hb dX8_viewOf_73 rfl (lv_at hl 3 rfl) ?_
  refine va_get (D := (dC, dI)) (ci := 8) (v := .ref wm) (C := RX8) (T := TX8) (N := 17) hx hb hts hiX8 hown hK hP 0 rfl rfl 0 (by decide) (hts (.fieldLink RX8 14 "WatchedPrograms$Watch" "machine" "LWatchedPrograms$Machine;") (by decide +kernel)) (fun _ h9 => h9) rfl dX8_viewOf_74 ?_
  refine va_get (D := (dC, dI)) (ci := 2) (v := .int 0) (C := RX2) (T := TX2) (N := 5) hx hb hts hiX2 hown hK hP 1 rfl rfl 3 (by decide) (hts (.fieldLink RX8 170 "WatchedPrograms$Machine" "steps" "I") (by decide +kernel)) (fun _ h9 => h9) rfl dX8_viewOf_77 ?_
  refine lv_i2l (v := 0) hx hb dX8_viewOf_80 (by decide) ?_
  refine lv_bipush (v := 53) hx hb dX8_viewOf_81 (by decide) ?_
  refine lv_lshl (v := 0) hx hb dX8_viewOf_83 (by decide) ?_
  refine lv_lor hx hb dX8_viewOf_84 ?_
  refine zl (y := 1) (by decide) ?_
  exact W.lret (v := 1) hx hb hr (fun tt_ ht hW => ⟨_, rfl, rfl, ht⟩) (fun _ h => by cases h) dX8_viewOf_85
set_option maxHeartbeats 1000000 in
set_option maxRecDepth 100000 in
theorem c_look1 (l : Launch) (dC : Nat → ClassId) (dI : Nat → Nat → Nat) (cI cJ cS : ClassId) (sz : Nat) (x5 : Nat) (f : Int32) (z : Int32) (wm : Nat) (wt : Nat) (wv : Nat) (wk : Nat) (we : Nat) (wf : Nat) (p : Nat) (g : Int32) (ln : Int64) (fo : Int32) (mh : Int32) (na : Nat) (nb : Nat) (ps : Nat) (pc : Nat)  : Met l yX8_look wsX8_look ({ frames := 3, cells := 0, slots := 0, locals := 58 }) (va_Pc [.ref x5, .int f, .int z, .int 0] (PE dC dI cI cJ cS [(x5, .inr (8, [.ref wm, .ref wt, .ref wv, .ref wk, .int 1, .ref we, .ref wf, .int 0, .ref p, .int g, .long ln, .int 4095, .int 0, .int fo, .int 0, .int 0, .int mh])), (wm, .inr (2, [.ref na, .ref nb, .int 0, .int 0, .int 0])), (p, .inr (4, [.ref ps, .ref pc, .int 0, .int 0, .int 0, .int 0])), (wv, aJ cJ 16384 (fun _ => 0)), (wk, aI cI 4096 (fun _ => 0))] sz)) (va_Ql (fun (r : Int64) (_ : Unit) => r = 1) (BE dC dI (va_A [(x5, .inr (8, [.ref wm, .ref wt, .ref wv, .ref wk, .int 1, .ref we, .ref wf, .int 0, .ref p, .int g, .long ln, .int 4095, .int 0, .int fo, .int 0, .int 0, .int mh])), (wm, .inr (2, [.ref na, .ref nb, .int 0, .int 0, .int 0])), (p, .inr (4, [.ref ps, .ref pc, .int 0, .int 0, .int 0, .int 0])), (wv, aJ cJ 16384 (fun _ => 0)), (wk, aI cI 4096 (fun _ => 0))] sz) (fun (_ : Unit) => [(x5, .inr (8, [.ref wm, .ref wt, .ref wv, .ref wk, .int 1, .ref we, .ref wf, .int 0, .ref p, .int g, .long ln, .int 4095, .int 0, .int fo, .int 0, .int 0, .int mh])), (wv, aJ cJ 16384 (vp_updL (vp_updL (vp_updL (vp_updL (fun _ => 0) 0 1) 4096 1) 8192 1) 12288 1)), (wk, aI cI 4096 (upd (fun _ => 0) 0 1)), (wm, .inr (2, [.ref na, .ref nb, .int 0, .int 0, .int 0])), (p, .inr (4, [.ref ps, .ref pc, .int 0, .int 0, .int 0, .int 0]))])) (va_A [(x5, .inr (8, [.ref wm, .ref wt, .ref wv, .ref wk, .int 1, .ref we, .ref wf, .int 0, .ref p, .int g, .long ln, .int 4095, .int 0, .int fo, .int 0, .int 0, .int mh])), (wm, .inr (2, [.ref na, .ref nb, .int 0, .int 0, .int 0])), (p, .inr (4, [.ref ps, .ref pc, .int 0, .int 0, .int 0, .int 0])), (wv, aJ cJ 16384 (fun _ => 0)), (wk, aI cI 4096 (fun _ => 0))] sz)) 0 0 (va_A [(x5, .inr (8, [.ref wm, .ref wt, .ref wv, .ref wk, .int 1, .ref we, .ref wf, .int 0, .ref p, .int g, .long ln, .int 4095, .int 0, .int fo, .int 0, .int 0, .int mh])), (wm, .inr (2, [.ref na, .ref nb, .int 0, .int 0, .int 0])), (p, .inr (4, [.ref ps, .ref pc, .int 0, .int 0, .int 0, .int 0])), (wv, aJ cJ 16384 (fun _ => 0)), (wk, aI cI 4096 (fun _ => 0))] sz) := by
  refine Met.ofW (cc := cX8_look) (maxL := 6) (ret := (some .long)) (by decide) rfl ?_
  intro pp_ ee_ ss_ mm_ args below meth cc_ s₁ B hml hv
  obtain ⟨rfl, hsz, hP, hE, hD0⟩ := hv
  have hx := B.exec
  have hb := B.bytes
  have hr := B.returns
  have hts := atoms_spec (ws := wsX8_look) B.pre
  have hown : ss_.vm.findClass RX8 = some mm_.cls := findClass_of_methodNamed B.named
  have hlocks := B.notSynchronized
  have hK := hE.1
  have hiX4 : ∀ w ∈ wsX40, w ∈ wsX8_look := by decide +kernel
  have hiX8 : ∀ w ∈ wsX80, w ∈ wsX8_look := by decide +kernel
  subst hsz
  have hD := hD0.self (sz := ss_.heap.size)
  generalize hAe : va_A [(x5, .inr (8, [.ref wm, .ref wt, .ref wv, .ref wk, .int 1, .ref we, .ref wf, .int 0, .ref p, .int g, .long ln, .int 4095, .int 0, .int fo, .int 0, .int 0, .int mh])), (wm, .inr (2, [.ref na, .ref nb, .int 0, .int 0, .int 0])), (p, .inr (4, [.ref ps, .ref pc, .int 0, .int 0, .int 0, .int 0])), (wv, aJ cJ 16384 (fun _ => 0)), (wk, aI cI 4096 (fun _ => 0))] ss_.heap.size = A at hD ⊢
  have hA : ∀ q : Nat, ss_.heap.size ≤ q → A q := fun q h => by rw [← hAe]; exact Or.inr h
  have hS : va_S A ss_.heap ss_.heap [] := va_S.rf
  have hP : va_P (dC, dI) vwCl [(x5, .inr (8, [.ref wm, .ref wt, .ref wv, .ref wk, .int 1, .ref we, .ref wf, .int 0, .ref p, .int g, .long ln, .int 4095, .int 0, .int fo, .int 0, .int 0, .int mh])), (wm, .inr (2, [.ref na, .ref nb, .int 0, .int 0, .int 0])), (p, .inr (4, [.ref ps, .ref pc, .int 0, .int 0, .int 0, .int 0])), (wv, aJ cJ 16384 (fun _ => 0)), (wk, aI cI 4096 (fun _ => 0))] ss_.heap := hP
  have hl := lv_entry ([.ref x5, .int f, .int z, .int 0]) (n := 6) (Nat.le_of_ble_eq_true rfl)
  rw [lg_entry_eq]
  generalize (lg_sl ([.ref x5, .int f, .int z, .int 0]) ++ List.replicate (6 - (lg_sl ([.ref x5, .int f, .int z, .int 0])).length) Slot.unset).toArray = ls at hl ⊢
  have hl : lv_has ls 6 [(0, .ref x5), (1, .int f), (2, .int z), (3, .int 0)] := hl
  refine lv_iload_n hx hb dX8_look_0 rfl (lv_at hl 1 rfl) ?_
  refine lv_aload_n hx hb dX8_look_1 rfl (lv_at hl 0 rfl) ?_
  refine va_get (D := (dC, dI)) (ci := 8) (v := .ref p) (C := RX8) (T := TX8) (N := 17) hx hb hts hiX8 hown hK hP 0 rfl rfl 8 (by decide) (hts (.fieldLink RX8 46 "WatchedPrograms$Watch" "program" "LWatchedPrograms$Program;") (by decide +kernel)) (fun _ h9 => h9) rfl dX8_look_2 ?_
  refine va_get (D := (dC, dI)) (ci := 4) (v := .int 0) (C := RX4) (T := TX4) (N := 6) hx hb hts hiX4 hown hK hP 2 rfl rfl 5 (by decide) (hts (.fieldLink RX8 69 "WatchedPrograms$Program" "used" "I") (by decide +kernel)) (fun _ h9 => h9) rfl dX8_look_5 ?_
  refine lv_iand hx hb dX8_look_8 ?_
  refine zi (y := 0) (Int32.and_zero) ?_
  refine lv_sipush (v := 4095) hx hb dX8_look_9 (by decide) ?_
  refine lv_iand hx hb dX8_look_12 ?_
  refine zi (y := 0) (by decide) ?_
  refine lv_istore (lv' := [(4, .int 0), (0, .ref x5), (1, .int f), (2, .int z), (3, .int 0)]) hx hb dX8_look_13 hl (by decide) rfl (fun ls hl => ?_)
  refine lv_iload_n hx hb dX8_look_15 rfl (lv_at hl 4 rfl) ?_
  refine lv_if_eq (tgt := 39) hx hb dX8_look_16 (by decide) (fun _ => ?_) (fun c_1 => absurd (by decide) c_1)
  refine lv_aload_n hx hb dX8_look_39 rfl (lv_at hl 1 rfl) ?_
  refine va_get (D := (dC, dI)) (ci := 8) (v := .ref wk) (C := RX8) (T := TX8) (N := 17) hx hb hts hiX8 hown hK hP 0 rfl rfl 3 (by decide) (hts (.fieldLink RX8 29 "WatchedPrograms$Watch" "known" "[I") (by decide +kernel)) (fun _ h9 => h9) rfl dX8_look_40 ?_
  refine lv_iload hx hb dX8_look_43 (lv_at hl 0 rfl) ?_
  refine va_iald hx hb hK hP 4 0 rfl rfl (by unfold vp_in; decide) dX8_look_45 ?_
  refine zi (y := 0) (by rfl) ?_
  refine lv_aload_n hx hb dX8_look_46 rfl (lv_at hl 1 rfl) ?_
  refine va_get (D := (dC, dI)) (ci := 8) (v := .int 1) (C := RX8) (T := TX8) (N := 17) hx hb hts hiX8 hown hK hP 0 rfl rfl 4 (by decide) (hts (.fieldLink RX8 33 "WatchedPrograms$Watch" "stamp" "I") (by decide +kernel)) (fun _ h9 => h9) rfl dX8_look_47 ?_
  refine lv_icmp_eq (tgt := 112) hx hb dX8_look_50 (by decide) (fun c_2 => absurd c_2 (by decide)) (fun _ => ?_)
  refine lv_aload_n hx hb dX8_look_53 rfl (lv_at hl 1 rfl) ?_
  refine va_get (D := (dC, dI)) (ci := 8) (v := .ref wm) (C := RX8) (T := TX8) (N := 17) hx hb hts hiX8 hown hK hP 0 rfl rfl 0 (by decide) (hts (.fieldLink RX8 14 "WatchedPrograms$Watch" "machine" "LWatchedPrograms$Machine;") (by decide +kernel)) (fun _ h9 => h9) rfl dX8_look_54 ?_
  refine lv_aload_n hx hb dX8_look_57 rfl (lv_at hl 1 rfl) ?_
  refine va_get (D := (dC, dI)) (ci := 8) (v := .ref p) (C := RX8) (T := TX8) (N := 17) hx hb hts hiX8 hown hK hP 0 rfl rfl 8 (by decide) (hts (.fieldLink RX8 46 "WatchedPrograms$Watch" "program" "LWatchedPrograms$Program;") (by decide +kernel)) (fun _ h9 => h9) rfl dX8_look_58 ?_
  refine lv_iload hx hb dX8_look_61 (lv_at hl 0 rfl) ?_
  refine lv_iconst (v := 0) hx hb dX8_look_63 (by decide) ?_
  have hFc := va_free (wc := [(wm, .inr (2, [.ref na, .ref nb, .int 0, .int 0, .int 0])), (p, .inr (4, [.ref ps, .ref pc, .int 0, .int 0, .int 0, .int 0]))]) hD hS hA [1, 2] rfl
  refine zCv (wr := [(x5, .inr (8, [.ref wm, .ref wt, .ref wv, .ref wk, .int 1, .ref we, .ref wf, .int 0, .ref p, .int g, .long ln, .int 4095, .int 0, .int fo, .int 0, .int 0, .int mh])), (wv, aJ cJ 16384 (fun _ => 0)), (wk, aI cI 4096 (fun _ => 0))]) hP hD hS hFc [1, 2] [0, 3, 4] rfl rfl (by decide) (by decide) (va_runV (As := [.ref p, .int 0, .int 0]) (rest := []) ⟨hx, hb, hml, hown, hts⟩ (c_execute l dC dI cI cJ cS ss_.heap.size wm p 0 0 na nb 0 0 0 ps pc ) (cwV 3 hts gX8_look_X2_execute rfl rfl rfl (by decide +kernel) ⟨Nat.le_of_ble_eq_true rfl, Nat.le_of_ble_eq_true rfl⟩) (preEV (hP.sub (ws' := [(wm, .inr (2, [.ref na, .ref nb, .int 0, .int 0, .int 0])), (p, .inr (4, [.ref ps, .ref pc, .int 0, .int 0, .int 0, .int 0]))]) [1, 2] rfl) hE (hD.sub (ws' := [(wm, .inr (2, [.ref na, .ref nb, .int 0, .int 0, .int 0])), (p, .inr (4, [.ref ps, .ref pc, .int 0, .int 0, .int 0, .int 0]))]) [1, 2] (by decide) rfl) 0 (ci := 2) rfl rfl) rfl rfl hl.1 rfl (lv_room (Nat.le_of_ble_eq_true rfl)) dX8_look_64 ⟨by decide +kernel, by decide +kernel⟩) (fun u_5 H locs hr_4 hP hD hS => ?_)
  try dsimp only at hr_4
  have hP : va_P (dC, dI) vwCl [(x5, .inr (8, [.ref wm, .ref wt, .ref wv, .ref wk, .int 1, .ref we, .ref wf, .int 0, .ref p, .int g, .long ln, .int 4095, .int 0, .int fo, .int 0, .int 0, .int mh])), (wv, aJ cJ 16384 (fun _ => 0)), (wk, aI cI 4096 (fun _ => 0)), (wm, .inr (2, [.ref na, .ref nb, .int 0, .int 0, .int 0])), (p, .inr (4, [.ref ps, .ref pc, .int 0, .int 0, .int 0, .int 0]))] H := hP
  have hD : va_D A [(x5, .inr (8, [.ref wm, .ref wt, .ref wv, .ref wk, .int 1, .ref we, .ref wf, .int 0, .ref p, .int g, .long ln, .int 4095, .int 0, .int fo, .int 0, .int 0, .int mh])), (wv, aJ cJ 16384 (fun _ => 0)), (wk, aI cI 4096 (fun _ => 0)), (wm, .inr (2, [.ref na, .ref nb, .int 0, .int 0, .int 0])), (p, .inr (4, [.ref ps, .ref pc, .int 0, .int 0, .int 0, .int 0]))] := hD
  refine lv_iconst (v := 0) hx hb dX8_look_67 (by decide) ?_
  refine lv_istore (lv' := [(5, .int 0), (4, .int 0), (0, .ref x5), (1, .int f), (2, .int z), (3, .int 0)]) hx hb dX8_look_68 hl (by decide) rfl (fun ls hl => ?_)
  refine lv_iload hx hb dX8_look_70 (lv_at hl 0 rfl) ?_
  refine lv_iconst (v := 4) hx hb dX8_look_72 (by decide) ?_
  refine lv_icmp_ge (tgt := 101) hx hb dX8_look_73 (by decide) (fun c_6 => absurd c_6 (by decide)) (fun _ => ?_)
  refine lv_aload_n hx hb dX8_look_76 rfl (lv_at hl 2 rfl) ?_
  refine va_get (D := (dC, dI)) (ci := 8) (v := .ref wv) (C := RX8) (T := TX8) (N := 17) hx hb hts hiX8 hown hK hP 0 rfl rfl 2 (by decide) (hts (.fieldLink RX8 25 "WatchedPrograms$Watch" "views" "[J") (by decide +kernel)) (fun _ h9 => h9) rfl dX8_look_77 ?_
  refine lv_iload hx hb dX8_look_80 (lv_at hl 0 rfl) ?_
  refine lv_bipush (v := 12) hx hb dX8_look_82 (by decide) ?_
  refine lv_ishl hx hb dX8_look_84 ?_
  refine zi (y := 0) (by decide) ?_
  refine lv_iload hx hb dX8_look_85 (lv_at hl 1 rfl) ?_
  refine lv_ior hx hb dX8_look_87 ?_
  refine zi (y := 0) (by decide) ?_
  refine lv_aload_n hx hb dX8_look_88 rfl (lv_at hl 2 rfl) ?_
  refine lv_iload hx hb dX8_look_89 (lv_at hl 0 rfl) ?_
  refine vp_callSl (va_Run.run (va_runV (As := [.int 0]) (rest := [.int 0, .ref wv]) ⟨hx, hb, hml, hown, hts⟩ (c_viewOf l dC dI cI cJ cS  x5 0 wm wt wv wk we wf p g ln fo mh na nb ) (cwV 1 hts gX8_look_X8_viewOf rfl rfl rfl (by decide +kernel) ⟨Nat.le_of_ble_eq_true rfl, Nat.le_of_ble_eq_true rfl⟩) (preRV (hP.sub (ws' := [(x5, .inr (8, [.ref wm, .ref wt, .ref wv, .ref wk, .int 1, .ref we, .ref wf, .int 0, .ref p, .int g, .long ln, .int 4095, .int 0, .int fo, .int 0, .int 0, .int mh])), (wm, .inr (2, [.ref na, .ref nb, .int 0, .int 0, .int 0]))]) [0, 3] rfl) hE 0 (ci := 8) rfl rfl) rfl rfl hl.1 rfl (lv_room (Nat.le_of_ble_eq_true rfl)) dX8_look_91 ⟨by decide +kernel, by decide +kernel⟩)) (fun r_7 hr_8 => ?_)
  obtain rfl := hr_8
  refine va_last hx hb hK hP hD hS 1 1 rfl rfl (by unfold vp_in; decide) dX8_look_94 (fun H locs hP hD hS => ?_)
  have hP : va_P (dC, dI) vwCl [(x5, .inr (8, [.ref wm, .ref wt, .ref wv, .ref wk, .int 1, .ref we, .ref wf, .int 0, .ref p, .int g, .long ln, .int 4095, .int 0, .int fo, .int 0, .int 0, .int mh])), (wv, aJ cJ 16384 (vp_updL (fun _ => 0) 0 1)), (wk, aI cI 4096 (fun _ => 0)), (wm, .inr (2, [.ref na, .ref nb, .int 0, .int 0, .int 0])), (p, .inr (4, [.ref ps, .ref pc, .int 0, .int 0, .int 0, .int 0]))] H := hP
  have hD : va_D A [(x5, .inr (8, [.ref wm, .ref wt, .ref wv, .ref wk, .int 1, .ref we, .ref wf, .int 0, .ref p, .int g, .long ln, .int 4095, .int 0, .int fo, .int 0, .int 0, .int mh])), (wv, aJ cJ 16384 (vp_updL (fun _ => 0) 0 1)), (wk, aI cI 4096 (fun _ => 0)), (wm, .inr (2, [.ref na, .ref nb, .int 0, .int 0, .int 0])), (p, .inr (4, [.ref ps, .ref pc, .int 0, .int 0, .int 0, .int 0]))] := hD
  refine lv_iinc (v := 1) (lv' := [(5, .int 1), (4, .int 0), (0, .ref x5), (1, .int f), (2, .int z), (3, .int 0)]) hx hb dX8_look_95 hl (k := 0) rfl (by decide) (by decide) rfl (fun ls hl => ?_)
  refine lv_goto (tgt := 70) hx hb dX8_look_98 (by decide) ?_
  refine lv_iload hx hb dX8_look_70 (lv_at hl 0 rfl) ?_
  refine lv_iconst (v := 4) hx hb dX8_look_72 (by decide) ?_
  refine lv_icmp_ge (tgt := 101) hx hb dX8_look_73 (by decide) (fun c_9 => absurd c_9 (by decide)) (fun _ => ?_)
  refine lv_aload_n hx hb dX8_look_76 rfl (lv_at hl 2 rfl) ?_
  refine va_get (D := (dC, dI)) (ci := 8) (v := .ref wv) (C := RX8) (T := TX8) (N := 17) hx hb hts hiX8 hown hK hP 0 rfl rfl 2 (by decide) (hts (.fieldLink RX8 25 "WatchedPrograms$Watch" "views" "[J") (by decide +kernel)) (fun _ h9 => h9) rfl dX8_look_77 ?_
  refine lv_iload hx hb dX8_look_80 (lv_at hl 0 rfl) ?_
  refine lv_bipush (v := 12) hx hb dX8_look_82 (by decide) ?_
  refine lv_ishl hx hb dX8_look_84 ?_
  refine zi (y := 4096) (by decide) ?_
  refine lv_iload hx hb dX8_look_85 (lv_at hl 1 rfl) ?_
  refine lv_ior hx hb dX8_look_87 ?_
  refine zi (y := 4096) (by decide) ?_
  refine lv_aload_n hx hb dX8_look_88 rfl (lv_at hl 2 rfl) ?_
  refine lv_iload hx hb dX8_look_89 (lv_at hl 0 rfl) ?_
  refine vp_callSl (va_Run.run (va_runV (As := [.int 1]) (rest := [.int 4096, .ref wv]) ⟨hx, hb, hml, hown, hts⟩ (c_viewOf l dC dI cI cJ cS  x5 1 wm wt wv wk we wf p g ln fo mh na nb ) (cwV 1 hts gX8_look_X8_viewOf rfl rfl rfl (by decide +kernel) ⟨Nat.le_of_ble_eq_true rfl, Nat.le_of_ble_eq_true rfl⟩) (preRV (hP.sub (ws' := [(x5, .inr (8, [.ref wm, .ref wt, .ref wv, .ref wk, .int 1, .ref we, .ref wf, .int 0, .ref p, .int g, .long ln, .int 4095, .int 0, .int fo, .int 0, .int 0, .int mh])), (wm, .inr (2, [.ref na, .ref nb, .int 0, .int 0, .int 0]))]) [0, 3] rfl) hE 0 (ci := 8) rfl rfl) rfl rfl hl.1 rfl (lv_room (Nat.le_of_ble_eq_true rfl)) dX8_look_91 ⟨by decide +kernel, by decide +kernel⟩)) (fun r_10 hr_11 => ?_)
  obtain rfl := hr_11
  refine va_last hx hb hK hP hD hS 1 1 rfl rfl (by unfold vp_in; decide) dX8_look_94 (fun H locs hP hD hS => ?_)
  have hP : va_P (dC, dI) vwCl [(x5, .inr (8, [.ref wm, .ref wt, .ref wv, .ref wk, .int 1, .ref we, .ref wf, .int 0, .ref p, .int g, .long ln, .int 4095, .int 0, .int fo, .int 0, .int 0, .int mh])), (wv, aJ cJ 16384 (vp_updL (vp_updL (fun _ => 0) 0 1) 4096 1)), (wk, aI cI 4096 (fun _ => 0)), (wm, .inr (2, [.ref na, .ref nb, .int 0, .int 0, .int 0])), (p, .inr (4, [.ref ps, .ref pc, .int 0, .int 0, .int 0, .int 0]))] H := hP
  have hD : va_D A [(x5, .inr (8, [.ref wm, .ref wt, .ref wv, .ref wk, .int 1, .ref we, .ref wf, .int 0, .ref p, .int g, .long ln, .int 4095, .int 0, .int fo, .int 0, .int 0, .int mh])), (wv, aJ cJ 16384 (vp_updL (vp_updL (fun _ => 0) 0 1) 4096 1)), (wk, aI cI 4096 (fun _ => 0)), (wm, .inr (2, [.ref na, .ref nb, .int 0, .int 0, .int 0])), (p, .inr (4, [.ref ps, .ref pc, .int 0, .int 0, .int 0, .int 0]))] := hD
  refine lv_iinc (v := 2) (lv' := [(5, .int 2), (4, .int 0), (0, .ref x5), (1, .int f), (2, .int z), (3, .int 0)]) hx hb dX8_look_95 hl (k := 0) rfl (by decide) (by decide) rfl (fun ls hl => ?_)
  refine lv_goto (tgt := 70) hx hb dX8_look_98 (by decide) ?_
  refine lv_iload hx hb dX8_look_70 (lv_at hl 0 rfl) ?_
  refine lv_iconst (v := 4) hx hb dX8_look_72 (by decide) ?_
  refine lv_icmp_ge (tgt := 101) hx hb dX8_look_73 (by decide) (fun c_12 => absurd c_12 (by decide)) (fun _ => ?_)
  refine lv_aload_n hx hb dX8_look_76 rfl (lv_at hl 2 rfl) ?_
  refine va_get (D := (dC, dI)) (ci := 8) (v := .ref wv) (C := RX8) (T := TX8) (N := 17) hx hb hts hiX8 hown hK hP 0 rfl rfl 2 (by decide) (hts (.fieldLink RX8 25 "WatchedPrograms$Watch" "views" "[J") (by decide +kernel)) (fun _ h9 => h9) rfl dX8_look_77 ?_
  refine lv_iload hx hb dX8_look_80 (lv_at hl 0 rfl) ?_
  refine lv_bipush (v := 12) hx hb dX8_look_82 (by decide) ?_
  refine lv_ishl hx hb dX8_look_84 ?_
  refine zi (y := 8192) (by decide) ?_
  refine lv_iload hx hb dX8_look_85 (lv_at hl 1 rfl) ?_
  refine lv_ior hx hb dX8_look_87 ?_
  refine zi (y := 8192) (by decide) ?_
  refine lv_aload_n hx hb dX8_look_88 rfl (lv_at hl 2 rfl) ?_
  refine lv_iload hx hb dX8_look_89 (lv_at hl 0 rfl) ?_
  refine vp_callSl (va_Run.run (va_runV (As := [.int 2]) (rest := [.int 8192, .ref wv]) ⟨hx, hb, hml, hown, hts⟩ (c_viewOf l dC dI cI cJ cS  x5 2 wm wt wv wk we wf p g ln fo mh na nb ) (cwV 1 hts gX8_look_X8_viewOf rfl rfl rfl (by decide +kernel) ⟨Nat.le_of_ble_eq_true rfl, Nat.le_of_ble_eq_true rfl⟩) (preRV (hP.sub (ws' := [(x5, .inr (8, [.ref wm, .ref wt, .ref wv, .ref wk, .int 1, .ref we, .ref wf, .int 0, .ref p, .int g, .long ln, .int 4095, .int 0, .int fo, .int 0, .int 0, .int mh])), (wm, .inr (2, [.ref na, .ref nb, .int 0, .int 0, .int 0]))]) [0, 3] rfl) hE 0 (ci := 8) rfl rfl) rfl rfl hl.1 rfl (lv_room (Nat.le_of_ble_eq_true rfl)) dX8_look_91 ⟨by decide +kernel, by decide +kernel⟩)) (fun r_13 hr_14 => ?_)
  obtain rfl := hr_14
  refine va_last hx hb hK hP hD hS 1 1 rfl rfl (by unfold vp_in; decide) dX8_look_94 (fun H locs hP hD hS => ?_)
  have hP : va_P (dC, dI) vwCl [(x5, .inr (8, [.ref wm, .ref wt, .ref wv, .ref wk, .int 1, .ref we, .ref wf, .int 0, .ref p, .int g, .long ln, .int 4095, .int 0, .int fo, .int 0, .int 0, .int mh])), (wv, aJ cJ 16384 (vp_updL (vp_updL (vp_updL (fun _ => 0) 0 1) 4096 1) 8192 1)), (wk, aI cI 4096 (fun _ => 0)), (wm, .inr (2, [.ref na, .ref nb, .int 0, .int 0, .int 0])), (p, .inr (4, [.ref ps, .ref pc, .int 0, .int 0, .int 0, .int 0]))] H := hP
  have hD : va_D A [(x5, .inr (8, [.ref wm, .ref wt, .ref wv, .ref wk, .int 1, .ref we, .ref wf, .int 0, .ref p, .int g, .long ln, .int 4095, .int 0, .int fo, .int 0, .int 0, .int mh])), (wv, aJ cJ 16384 (vp_updL (vp_updL (vp_updL (fun _ => 0) 0 1) 4096 1) 8192 1)), (wk, aI cI 4096 (fun _ => 0)), (wm, .inr (2, [.ref na, .ref nb, .int 0, .int 0, .int 0])), (p, .inr (4, [.ref ps, .ref pc, .int 0, .int 0, .int 0, .int 0]))] := hD
  refine lv_iinc (v := 3) (lv' := [(5, .int 3), (4, .int 0), (0, .ref x5), (1, .int f), (2, .int z), (3, .int 0)]) hx hb dX8_look_95 hl (k := 0) rfl (by decide) (by decide) rfl (fun ls hl => ?_)
  refine lv_goto (tgt := 70) hx hb dX8_look_98 (by decide) ?_
  refine lv_iload hx hb dX8_look_70 (lv_at hl 0 rfl) ?_
  refine lv_iconst (v := 4) hx hb dX8_look_72 (by decide) ?_
  refine lv_icmp_ge (tgt := 101) hx hb dX8_look_73 (by decide) (fun c_15 => absurd c_15 (by decide)) (fun _ => ?_)
  refine lv_aload_n hx hb dX8_look_76 rfl (lv_at hl 2 rfl) ?_
  refine va_get (D := (dC, dI)) (ci := 8) (v := .ref wv) (C := RX8) (T := TX8) (N := 17) hx hb hts hiX8 hown hK hP 0 rfl rfl 2 (by decide) (hts (.fieldLink RX8 25 "WatchedPrograms$Watch" "views" "[J") (by decide +kernel)) (fun _ h9 => h9) rfl dX8_look_77 ?_
  refine lv_iload hx hb dX8_look_80 (lv_at hl 0 rfl) ?_
  refine lv_bipush (v := 12) hx hb dX8_look_82 (by decide) ?_
  refine lv_ishl hx hb dX8_look_84 ?_
  refine zi (y := 12288) (by decide) ?_
  refine lv_iload hx hb dX8_look_85 (lv_at hl 1 rfl) ?_
  refine lv_ior hx hb dX8_look_87 ?_
  refine zi (y := 12288) (by decide) ?_
  refine lv_aload_n hx hb dX8_look_88 rfl (lv_at hl 2 rfl) ?_
  refine lv_iload hx hb dX8_look_89 (lv_at hl 0 rfl) ?_
  refine vp_callSl (va_Run.run (va_runV (As := [.int 3]) (rest := [.int 12288, .ref wv]) ⟨hx, hb, hml, hown, hts⟩ (c_viewOf l dC dI cI cJ cS  x5 3 wm wt wv wk we wf p g ln fo mh na nb ) (cwV 1 hts gX8_look_X8_viewOf rfl rfl rfl (by decide +kernel) ⟨Nat.le_of_ble_eq_true rfl, Nat.le_of_ble_eq_true rfl⟩) (preRV (hP.sub (ws' := [(x5, .inr (8, [.ref wm, .ref wt, .ref wv, .ref wk, .int 1, .ref we, .ref wf, .int 0, .ref p, .int g, .long ln, .int 4095, .int 0, .int fo, .int 0, .int 0, .int mh])), (wm, .inr (2, [.ref na, .ref nb, .int 0, .int 0, .int 0]))]) [0, 3] rfl) hE 0 (ci := 8) rfl rfl) rfl rfl hl.1 rfl (lv_room (Nat.le_of_ble_eq_true rfl)) dX8_look_91 ⟨by decide +kernel, by decide +kernel⟩)) (fun r_16 hr_17 => ?_)
  obtain rfl := hr_17
  refine va_last hx hb hK hP hD hS 1 1 rfl rfl (by unfold vp_in; decide) dX8_look_94 (fun H locs hP hD hS => ?_)
  have hP : va_P (dC, dI) vwCl [(x5, .inr (8, [.ref wm, .ref wt, .ref wv, .ref wk, .int 1, .ref we, .ref wf, .int 0, .ref p, .int g, .long ln, .int 4095, .int 0, .int fo, .int 0, .int 0, .int mh])), (wv, aJ cJ 16384 (vp_updL (vp_updL (vp_updL (vp_updL (fun _ => 0) 0 1) 4096 1) 8192 1) 12288 1)), (wk, aI cI 4096 (fun _ => 0)), (wm, .inr (2, [.ref na, .ref nb, .int 0, .int 0, .int 0])), (p, .inr (4, [.ref ps, .ref pc, .int 0, .int 0, .int 0, .int 0]))] H := hP
  have hD : va_D A [(x5, .inr (8, [.ref wm, .ref wt, .ref wv, .ref wk, .int 1, .ref we, .ref wf, .int 0, .ref p, .int g, .long ln, .int 4095, .int 0, .int fo, .int 0, .int 0, .int mh])), (wv, aJ cJ 16384 (vp_updL (vp_updL (vp_updL (vp_updL (fun _ => 0) 0 1) 4096 1) 8192 1) 12288 1)), (wk, aI cI 4096 (fun _ => 0)), (wm, .inr (2, [.ref na, .ref nb, .int 0, .int 0, .int 0])), (p, .inr (4, [.ref ps, .ref pc, .int 0, .int 0, .int 0, .int 0]))] := hD
  refine lv_iinc (v := 4) (lv' := [(5, .int 4), (4, .int 0), (0, .ref x5), (1, .int f), (2, .int z), (3, .int 0)]) hx hb dX8_look_95 hl (k := 0) rfl (by decide) (by decide) rfl (fun ls hl => ?_)
  refine lv_goto (tgt := 70) hx hb dX8_look_98 (by decide) ?_
  refine lv_iload hx hb dX8_look_70 (lv_at hl 0 rfl) ?_
  refine lv_iconst (v := 4) hx hb dX8_look_72 (by decide) ?_
  refine lv_icmp_ge (tgt := 101) hx hb dX8_look_73 (by decide) (fun _ => ?_) (fun c_18 => absurd (by decide) c_18)
  refine lv_aload_n hx hb dX8_look_101 rfl (lv_at hl 2 rfl) ?_
  refine va_get (D := (dC, dI)) (ci := 8) (v := .ref wk) (C := RX8) (T := TX8) (N := 17) hx hb hts hiX8 hown hK hP 0 rfl rfl 3 (by decide) (hts (.fieldLink RX8 29 "WatchedPrograms$Watch" "known" "[I") (by decide +kernel)) (fun _ h9 => h9) rfl dX8_look_102 ?_
  refine lv_iload hx hb dX8_look_105 (lv_at hl 1 rfl) ?_
  refine lv_aload_n hx hb dX8_look_107 rfl (lv_at hl 2 rfl) ?_
  refine va_get (D := (dC, dI)) (ci := 8) (v := .int 1) (C := RX8) (T := TX8) (N := 17) hx hb hts hiX8 hown hK hP 0 rfl rfl 4 (by decide) (hts (.fieldLink RX8 33 "WatchedPrograms$Watch" "stamp" "I") (by decide +kernel)) (fun _ h9 => h9) rfl dX8_look_108 ?_
  refine va_iast hx hb hK hP hD hS 2 0 rfl rfl (by unfold vp_in; decide) dX8_look_111 (fun H locs hP hD hS => ?_)
  have hP : va_P (dC, dI) vwCl [(x5, .inr (8, [.ref wm, .ref wt, .ref wv, .ref wk, .int 1, .ref we, .ref wf, .int 0, .ref p, .int g, .long ln, .int 4095, .int 0, .int fo, .int 0, .int 0, .int mh])), (wv, aJ cJ 16384 (vp_updL (vp_updL (vp_updL (vp_updL (fun _ => 0) 0 1) 4096 1) 8192 1) 12288 1)), (wk, aI cI 4096 (upd (fun _ => 0) 0 1)), (wm, .inr (2, [.ref na, .ref nb, .int 0, .int 0, .int 0])), (p, .inr (4, [.ref ps, .ref pc, .int 0, .int 0, .int 0, .int 0]))] H := hP
  have hD : va_D A [(x5, .inr (8, [.ref wm, .ref wt, .ref wv, .ref wk, .int 1, .ref we, .ref wf, .int 0, .ref p, .int g, .long ln, .int 4095, .int 0, .int fo, .int 0, .int 0, .int mh])), (wv, aJ cJ 16384 (vp_updL (vp_updL (vp_updL (vp_updL (fun _ => 0) 0 1) 4096 1) 8192 1) 12288 1)), (wk, aI cI 4096 (upd (fun _ => 0) 0 1)), (wm, .inr (2, [.ref na, .ref nb, .int 0, .int 0, .int 0])), (p, .inr (4, [.ref ps, .ref pc, .int 0, .int 0, .int 0, .int 0]))] := hD
  refine lv_aload_n hx hb dX8_look_112 rfl (lv_at hl 2 rfl) ?_
  refine va_get (D := (dC, dI)) (ci := 8) (v := .ref wv) (C := RX8) (T := TX8) (N := 17) hx hb hts hiX8 hown hK hP 0 rfl rfl 2 (by decide) (hts (.fieldLink RX8 25 "WatchedPrograms$Watch" "views" "[J") (by decide +kernel)) (fun _ h9 => h9) rfl dX8_look_113 ?_
  refine lv_iload_n hx hb dX8_look_116 rfl (lv_at hl 4 rfl) ?_
  refine lv_iconst (v := 3) hx hb dX8_look_117 (by decide) ?_
  refine lv_iand hx hb dX8_look_118 ?_
  refine lv_bipush (v := 12) hx hb dX8_look_119 (by decide) ?_
  refine lv_ishl hx hb dX8_look_121 ?_
  refine lv_iload hx hb dX8_look_122 (lv_at hl 1 rfl) ?_
  refine lv_ior hx hb dX8_look_124 ?_
  refine zi (y := ((z &&& 3) <<< (12 &&& 31))) Int32.or_zero ?_
  refine va_lald hx hb hK hP 1 1 rfl rfl (view_in z) dX8_look_125 ?_
  refine zl (y := 1) (view_rd z) ?_
  have hP9 := hP.sub (ws' := [(x5, .inr (8, [.ref wm, .ref wt, .ref wv, .ref wk, .int 1, .ref we, .ref wf, .int 0, .ref p, .int g, .long ln, .int 4095, .int 0, .int fo, .int 0, .int 0, .int mh])), (wv, aJ cJ 16384 (vp_updL (vp_updL (vp_updL (vp_updL (fun _ => 0) 0 1) 4096 1) 8192 1) 12288 1)), (wk, aI cI 4096 (upd (fun _ => 0) 0 1)), (wm, .inr (2, [.ref na, .ref nb, .int 0, .int 0, .int 0])), (p, .inr (4, [.ref ps, .ref pc, .int 0, .int 0, .int 0, .int 0]))]) [0, 1, 2, 3, 4] rfl
  have hD9 := hD.sub (ws' := [(x5, .inr (8, [.ref wm, .ref wt, .ref wv, .ref wk, .int 1, .ref we, .ref wf, .int 0, .ref p, .int g, .long ln, .int 4095, .int 0, .int fo, .int 0, .int 0, .int mh])), (wv, aJ cJ 16384 (vp_updL (vp_updL (vp_updL (vp_updL (fun _ => 0) 0 1) 4096 1) 8192 1) 12288 1)), (wk, aI cI 4096 (upd (fun _ => 0) 0 1)), (wm, .inr (2, [.ref na, .ref nb, .int 0, .int 0, .int 0])), (p, .inr (4, [.ref ps, .ref pc, .int 0, .int 0, .int 0, .int 0]))]) [0, 1, 2, 3, 4] (by decide) rfl
  exact W.lret (v := 1) hx hb hr (fun tt_ ht hW => ⟨⟨_, (), rfl, rfl, by rw [ht]; exact hP9, hD9⟩, hS.F ht⟩) hS.2.2 dX8_look_126
set_option maxHeartbeats 1000000 in
set_option maxRecDepth 100000 in
theorem c_look2 (l : Launch) (dC : Nat → ClassId) (dI : Nat → Nat → Nat) (cI cJ cS : ClassId) (sz : Nat) (x5 : Nat) (f : Int32) (z : Int32) (wm : Nat) (wt : Nat) (wv : Nat) (wk : Nat) (we : Nat) (wf : Nat) (p : Nat) (g : Int32) (ln : Int64) (fo : Int32) (mh : Int32) (na : Nat) (nb : Nat) (ps : Nat) (pc : Nat)  : Met l yX8_look wsX8_look ({ frames := 0, cells := 0, slots := 0, locals := 0 }) (va_Pc [.ref x5, .int f, .int z, .int 0] (PE dC dI cI cJ cS [(x5, .inr (8, [.ref wm, .ref wt, .ref wv, .ref wk, .int 1, .ref we, .ref wf, .int 0, .ref p, .int g, .long ln, .int 4095, .int 0, .int fo, .int 0, .int 0, .int mh])), (wv, aJ cJ 16384 (vp_updL (vp_updL (vp_updL (vp_updL (fun _ => 0) 0 1) 4096 1) 8192 1) 12288 1)), (wk, aI cI 4096 (upd (fun _ => 0) 0 1)), (wm, .inr (2, [.ref na, .ref nb, .int 0, .int 0, .int 0])), (p, .inr (4, [.ref ps, .ref pc, .int 0, .int 0, .int 0, .int 0]))] sz)) (va_Ql (fun (r : Int64) (_ : Unit) => r = 1) (BE dC dI (va_A [(x5, .inr (8, [.ref wm, .ref wt, .ref wv, .ref wk, .int 1, .ref we, .ref wf, .int 0, .ref p, .int g, .long ln, .int 4095, .int 0, .int fo, .int 0, .int 0, .int mh])), (wv, aJ cJ 16384 (vp_updL (vp_updL (vp_updL (vp_updL (fun _ => 0) 0 1) 4096 1) 8192 1) 12288 1)), (wk, aI cI 4096 (upd (fun _ => 0) 0 1)), (wm, .inr (2, [.ref na, .ref nb, .int 0, .int 0, .int 0])), (p, .inr (4, [.ref ps, .ref pc, .int 0, .int 0, .int 0, .int 0]))] sz) (fun (_ : Unit) => [(x5, .inr (8, [.ref wm, .ref wt, .ref wv, .ref wk, .int 1, .ref we, .ref wf, .int 0, .ref p, .int g, .long ln, .int 4095, .int 0, .int fo, .int 0, .int 0, .int mh])), (wv, aJ cJ 16384 (vp_updL (vp_updL (vp_updL (vp_updL (fun _ => 0) 0 1) 4096 1) 8192 1) 12288 1)), (wk, aI cI 4096 (upd (fun _ => 0) 0 1)), (wm, .inr (2, [.ref na, .ref nb, .int 0, .int 0, .int 0])), (p, .inr (4, [.ref ps, .ref pc, .int 0, .int 0, .int 0, .int 0]))])) (va_A [(x5, .inr (8, [.ref wm, .ref wt, .ref wv, .ref wk, .int 1, .ref we, .ref wf, .int 0, .ref p, .int g, .long ln, .int 4095, .int 0, .int fo, .int 0, .int 0, .int mh])), (wv, aJ cJ 16384 (vp_updL (vp_updL (vp_updL (vp_updL (fun _ => 0) 0 1) 4096 1) 8192 1) 12288 1)), (wk, aI cI 4096 (upd (fun _ => 0) 0 1)), (wm, .inr (2, [.ref na, .ref nb, .int 0, .int 0, .int 0])), (p, .inr (4, [.ref ps, .ref pc, .int 0, .int 0, .int 0, .int 0]))] sz)) 0 0 (va_A [(x5, .inr (8, [.ref wm, .ref wt, .ref wv, .ref wk, .int 1, .ref we, .ref wf, .int 0, .ref p, .int g, .long ln, .int 4095, .int 0, .int fo, .int 0, .int 0, .int mh])), (wv, aJ cJ 16384 (vp_updL (vp_updL (vp_updL (vp_updL (fun _ => 0) 0 1) 4096 1) 8192 1) 12288 1)), (wk, aI cI 4096 (upd (fun _ => 0) 0 1)), (wm, .inr (2, [.ref na, .ref nb, .int 0, .int 0, .int 0])), (p, .inr (4, [.ref ps, .ref pc, .int 0, .int 0, .int 0, .int 0]))] sz) := by
  refine Met.ofW (cc := cX8_look) (maxL := 6) (ret := (some .long)) (by decide) rfl ?_
  intro pp_ ee_ ss_ mm_ args below meth cc_ s₁ B hml hv
  obtain ⟨rfl, hsz, hP, hE, hD0⟩ := hv
  have hx := B.exec
  have hb := B.bytes
  have hr := B.returns
  have hts := atoms_spec (ws := wsX8_look) B.pre
  have hown : ss_.vm.findClass RX8 = some mm_.cls := findClass_of_methodNamed B.named
  have hlocks := B.notSynchronized
  have hK := hE.1
  have hiX4 : ∀ w ∈ wsX40, w ∈ wsX8_look := by decide +kernel
  have hiX8 : ∀ w ∈ wsX80, w ∈ wsX8_look := by decide +kernel
  subst hsz
  have hD := hD0.self (sz := ss_.heap.size)
  generalize hAe : va_A [(x5, .inr (8, [.ref wm, .ref wt, .ref wv, .ref wk, .int 1, .ref we, .ref wf, .int 0, .ref p, .int g, .long ln, .int 4095, .int 0, .int fo, .int 0, .int 0, .int mh])), (wv, aJ cJ 16384 (vp_updL (vp_updL (vp_updL (vp_updL (fun _ => 0) 0 1) 4096 1) 8192 1) 12288 1)), (wk, aI cI 4096 (upd (fun _ => 0) 0 1)), (wm, .inr (2, [.ref na, .ref nb, .int 0, .int 0, .int 0])), (p, .inr (4, [.ref ps, .ref pc, .int 0, .int 0, .int 0, .int 0]))] ss_.heap.size = A at hD ⊢
  have hA : ∀ q : Nat, ss_.heap.size ≤ q → A q := fun q h => by rw [← hAe]; exact Or.inr h
  have hS : va_S A ss_.heap ss_.heap [] := va_S.rf
  have hP : va_P (dC, dI) vwCl [(x5, .inr (8, [.ref wm, .ref wt, .ref wv, .ref wk, .int 1, .ref we, .ref wf, .int 0, .ref p, .int g, .long ln, .int 4095, .int 0, .int fo, .int 0, .int 0, .int mh])), (wv, aJ cJ 16384 (vp_updL (vp_updL (vp_updL (vp_updL (fun _ => 0) 0 1) 4096 1) 8192 1) 12288 1)), (wk, aI cI 4096 (upd (fun _ => 0) 0 1)), (wm, .inr (2, [.ref na, .ref nb, .int 0, .int 0, .int 0])), (p, .inr (4, [.ref ps, .ref pc, .int 0, .int 0, .int 0, .int 0]))] ss_.heap := hP
  have hl := lv_entry ([.ref x5, .int f, .int z, .int 0]) (n := 6) (Nat.le_of_ble_eq_true rfl)
  rw [lg_entry_eq]
  generalize (lg_sl ([.ref x5, .int f, .int z, .int 0]) ++ List.replicate (6 - (lg_sl ([.ref x5, .int f, .int z, .int 0])).length) Slot.unset).toArray = ls at hl ⊢
  have hl : lv_has ls 6 [(0, .ref x5), (1, .int f), (2, .int z), (3, .int 0)] := hl
  refine lv_iload_n hx hb dX8_look_0 rfl (lv_at hl 1 rfl) ?_
  refine lv_aload_n hx hb dX8_look_1 rfl (lv_at hl 0 rfl) ?_
  refine va_get (D := (dC, dI)) (ci := 8) (v := .ref p) (C := RX8) (T := TX8) (N := 17) hx hb hts hiX8 hown hK hP 0 rfl rfl 8 (by decide) (hts (.fieldLink RX8 46 "WatchedPrograms$Watch" "program" "LWatchedPrograms$Program;") (by decide +kernel)) (fun _ h9 => h9) rfl dX8_look_2 ?_
  refine va_get (D := (dC, dI)) (ci := 4) (v := .int 0) (C := RX4) (T := TX4) (N := 6) hx hb hts hiX4 hown hK hP 4 rfl rfl 5 (by decide) (hts (.fieldLink RX8 69 "WatchedPrograms$Program" "used" "I") (by decide +kernel)) (fun _ h9 => h9) rfl dX8_look_5 ?_
  refine lv_iand hx hb dX8_look_8 ?_
  refine zi (y := 0) (Int32.and_zero) ?_
  refine lv_sipush (v := 4095) hx hb dX8_look_9 (by decide) ?_
  refine lv_iand hx hb dX8_look_12 ?_
  refine zi (y := 0) (by decide) ?_
  refine lv_istore (lv' := [(4, .int 0), (0, .ref x5), (1, .int f), (2, .int z), (3, .int 0)]) hx hb dX8_look_13 hl (by decide) rfl (fun ls hl => ?_)
  refine lv_iload_n hx hb dX8_look_15 rfl (lv_at hl 4 rfl) ?_
  refine lv_if_eq (tgt := 39) hx hb dX8_look_16 (by decide) (fun _ => ?_) (fun c_1 => absurd (by decide) c_1)
  refine lv_aload_n hx hb dX8_look_39 rfl (lv_at hl 1 rfl) ?_
  refine va_get (D := (dC, dI)) (ci := 8) (v := .ref wk) (C := RX8) (T := TX8) (N := 17) hx hb hts hiX8 hown hK hP 0 rfl rfl 3 (by decide) (hts (.fieldLink RX8 29 "WatchedPrograms$Watch" "known" "[I") (by decide +kernel)) (fun _ h9 => h9) rfl dX8_look_40 ?_
  refine lv_iload hx hb dX8_look_43 (lv_at hl 0 rfl) ?_
  refine va_iald hx hb hK hP 2 0 rfl rfl (by unfold vp_in; decide) dX8_look_45 ?_
  refine zi (y := 1) (by rfl) ?_
  refine lv_aload_n hx hb dX8_look_46 rfl (lv_at hl 1 rfl) ?_
  refine va_get (D := (dC, dI)) (ci := 8) (v := .int 1) (C := RX8) (T := TX8) (N := 17) hx hb hts hiX8 hown hK hP 0 rfl rfl 4 (by decide) (hts (.fieldLink RX8 33 "WatchedPrograms$Watch" "stamp" "I") (by decide +kernel)) (fun _ h9 => h9) rfl dX8_look_47 ?_
  refine lv_icmp_eq (tgt := 112) hx hb dX8_look_50 (by decide) (fun _ => ?_) (fun c_2 => absurd (by decide) c_2)
  refine lv_aload_n hx hb dX8_look_112 rfl (lv_at hl 1 rfl) ?_
  refine va_get (D := (dC, dI)) (ci := 8) (v := .ref wv) (C := RX8) (T := TX8) (N := 17) hx hb hts hiX8 hown hK hP 0 rfl rfl 2 (by decide) (hts (.fieldLink RX8 25 "WatchedPrograms$Watch" "views" "[J") (by decide +kernel)) (fun _ h9 => h9) rfl dX8_look_113 ?_
  refine lv_iload_n hx hb dX8_look_116 rfl (lv_at hl 3 rfl) ?_
  refine lv_iconst (v := 3) hx hb dX8_look_117 (by decide) ?_
  refine lv_iand hx hb dX8_look_118 ?_
  refine lv_bipush (v := 12) hx hb dX8_look_119 (by decide) ?_
  refine lv_ishl hx hb dX8_look_121 ?_
  refine lv_iload hx hb dX8_look_122 (lv_at hl 0 rfl) ?_
  refine lv_ior hx hb dX8_look_124 ?_
  refine zi (y := ((z &&& 3) <<< (12 &&& 31))) Int32.or_zero ?_
  refine va_lald hx hb hK hP 1 1 rfl rfl (view_in z) dX8_look_125 ?_
  refine zl (y := 1) (view_rd z) ?_
  have hP9 := hP.sub (ws' := [(x5, .inr (8, [.ref wm, .ref wt, .ref wv, .ref wk, .int 1, .ref we, .ref wf, .int 0, .ref p, .int g, .long ln, .int 4095, .int 0, .int fo, .int 0, .int 0, .int mh])), (wv, aJ cJ 16384 (vp_updL (vp_updL (vp_updL (vp_updL (fun _ => 0) 0 1) 4096 1) 8192 1) 12288 1)), (wk, aI cI 4096 (upd (fun _ => 0) 0 1)), (wm, .inr (2, [.ref na, .ref nb, .int 0, .int 0, .int 0])), (p, .inr (4, [.ref ps, .ref pc, .int 0, .int 0, .int 0, .int 0]))]) [0, 1, 2, 3, 4] rfl
  have hD9 := hD.sub (ws' := [(x5, .inr (8, [.ref wm, .ref wt, .ref wv, .ref wk, .int 1, .ref we, .ref wf, .int 0, .ref p, .int g, .long ln, .int 4095, .int 0, .int fo, .int 0, .int 0, .int mh])), (wv, aJ cJ 16384 (vp_updL (vp_updL (vp_updL (vp_updL (fun _ => 0) 0 1) 4096 1) 8192 1) 12288 1)), (wk, aI cI 4096 (upd (fun _ => 0) 0 1)), (wm, .inr (2, [.ref na, .ref nb, .int 0, .int 0, .int 0])), (p, .inr (4, [.ref ps, .ref pc, .int 0, .int 0, .int 0, .int 0]))]) [0, 1, 2, 3, 4] (by decide) rfl
  exact W.lret (v := 1) hx hb hr (fun tt_ ht hW => ⟨⟨_, (), rfl, rfl, by rw [ht]; exact hP9, hD9⟩, hS.F ht⟩) hS.2.2 dX8_look_126
set_option maxHeartbeats 1000000 in
set_option maxRecDepth 100000 in
theorem c_tbegin (l : Launch) (dC : Nat → ClassId) (dI : Nat → Nat → Nat) (cI cJ cS : ClassId) (sz : Nat) (wt : Nat) (ta : Nat) (tb : Nat) (tc : Nat) (td : Nat)  : Met l yX1_begin wsX1_begin ({ frames := 1, cells := 0, slots := 0, locals := 13 }) (va_Pc [.ref wt, .int 1] (PE dC dI cI cJ cS [(wt, .inr (1, [.ref ta, .ref tb, .ref tc, .ref td, .int 0, .int 0, .int 0])), (td, aI cI 8192 (fun _ => 0))] sz)) (va_Qv (fun (_ : Unit) => True) (BE dC dI (va_A [(wt, .inr (1, [.ref ta, .ref tb, .ref tc, .ref td, .int 0, .int 0, .int 0])), (td, aI cI 8192 (fun _ => 0))] sz) (fun (_ : Unit) => [(wt, .inr (1, [.ref ta, .ref tb, .ref tc, .ref td, .int 1, .int 0, .int 0])), (td, aI cI 8192 (upd (upd (fun _ => 0) 0 0) 1 0))])) (va_A [(wt, .inr (1, [.ref ta, .ref tb, .ref tc, .ref td, .int 0, .int 0, .int 0])), (td, aI cI 8192 (fun _ => 0))] sz)) 0 0 (va_A [(wt, .inr (1, [.ref ta, .ref tb, .ref tc, .ref td, .int 0, .int 0, .int 0])), (td, aI cI 8192 (fun _ => 0))] sz) := by
  refine Met.ofW (cc := cX1_begin) (maxL := 4) (ret := none) (by decide) rfl ?_
  intro pp_ ee_ ss_ mm_ args below meth cc_ s₁ B hml hv
  obtain ⟨rfl, hsz, hP, hE, hD0⟩ := hv
  have hx := B.exec
  have hb := B.bytes
  have hr := B.returns
  have hts := atoms_spec (ws := wsX1_begin) B.pre
  have hown : ss_.vm.findClass RX1 = some mm_.cls := findClass_of_methodNamed B.named
  have hlocks := B.notSynchronized
  have hK := hE.1
  have hiX1 : ∀ w ∈ wsX10, w ∈ wsX1_begin := by decide +kernel
  subst hsz
  have hD := hD0.self (sz := ss_.heap.size)
  generalize hAe : va_A [(wt, .inr (1, [.ref ta, .ref tb, .ref tc, .ref td, .int 0, .int 0, .int 0])), (td, aI cI 8192 (fun _ => 0))] ss_.heap.size = A at hD ⊢
  have hA : ∀ q : Nat, ss_.heap.size ≤ q → A q := fun q h => by rw [← hAe]; exact Or.inr h
  have hS : va_S A ss_.heap ss_.heap [] := va_S.rf
  have hP : va_P (dC, dI) vwCl [(wt, .inr (1, [.ref ta, .ref tb, .ref tc, .ref td, .int 0, .int 0, .int 0])), (td, aI cI 8192 (fun _ => 0))] ss_.heap := hP
  have hl := lv_entry ([.ref wt, .int 1]) (n := 4) (Nat.le_of_ble_eq_true rfl)
  rw [lg_entry_eq]
  generalize (lg_sl ([.ref wt, .int 1]) ++ List.replicate (4 - (lg_sl ([.ref wt, .int 1])).length) Slot.unset).toArray = ls at hl ⊢
  have hl : lv_has ls 4 [(0, .ref wt), (1, .int 1)] := hl
  refine lv_iconst (v := 2) hx hb dX1_begin_0 (by decide) ?_
  refine lv_iload_n hx hb dX1_begin_1 rfl (lv_at hl 1 rfl) ?_
  refine lv_imul hx hb dX1_begin_2 ?_
  refine zi (y := 2) (by decide) ?_
  refine lv_aload_n hx hb dX1_begin_3 rfl (lv_at hl 0 rfl) ?_
  refine va_get (D := (dC, dI)) (ci := 1) (v := .ref td) (C := RX1) (T := TX1) (N := 7) hx hb hts hiX1 hown hK hP 0 rfl rfl 3 (by decide) (hts (.fieldLink RX1 22 "WatchedPrograms$HeapTable" "slots" "[I") (by decide +kernel)) (fun _ h9 => h9) rfl dX1_begin_4 ?_
  refine va_alen hx hb hK hP 1 0 rfl rfl (v := 8192) rfl dX1_begin_7 ?_
  refine va_mmin hx hb (hml.trans hl.1.symm) hown (hts (.methodLink RX1 25 Lib.Math.min.name) (by decide +kernel)) (hts (.static Lib.Math.min.name) (by decide +kernel)) (hts (.initialized "java/lang/Math") (by decide +kernel)) (hts (.code Lib.Math.min.name Lib.Math.min.code 2 (some .int)) (by decide +kernel)) (Nat.le_of_ble_eq_true rfl) (Nat.le_of_ble_eq_true rfl) (Nat.le_of_ble_eq_true rfl) (Nat.le_of_ble_eq_true rfl) dX1_begin_8 ?_
  refine zi (y := 2) (by decide) ?_
  refine lv_istore_n (lv' := [(2, .int 2), (0, .ref wt), (1, .int 1)]) hx hb dX1_begin_11 rfl hl (by decide) rfl (fun ls hl => ?_)
  refine lv_iconst (v := 0) hx hb dX1_begin_12 (by decide) ?_
  refine lv_istore_n (lv' := [(3, .int 0), (2, .int 2), (0, .ref wt), (1, .int 1)]) hx hb dX1_begin_13 rfl hl (by decide) rfl (fun ls hl => ?_)
  refine lv_iload_n hx hb dX1_begin_14 rfl (lv_at hl 0 rfl) ?_
  refine lv_iload_n hx hb dX1_begin_15 rfl (lv_at hl 1 rfl) ?_
  refine lv_icmp_ge (tgt := 32) hx hb dX1_begin_16 (by decide) (fun c_1 => absurd c_1 (by decide)) (fun _ => ?_)
  refine lv_aload_n hx hb dX1_begin_19 rfl (lv_at hl 2 rfl) ?_
  refine va_get (D := (dC, dI)) (ci := 1) (v := .ref td) (C := RX1) (T := TX1) (N := 7) hx hb hts hiX1 hown hK hP 0 rfl rfl 3 (by decide) (hts (.fieldLink RX1 22 "WatchedPrograms$HeapTable" "slots" "[I") (by decide +kernel)) (fun _ h9 => h9) rfl dX1_begin_20 ?_
  refine lv_iload_n hx hb dX1_begin_23 rfl (lv_at hl 0 rfl) ?_
  refine lv_iconst (v := 0) hx hb dX1_begin_24 (by decide) ?_
  refine va_iast hx hb hK hP hD hS 1 0 rfl rfl (by unfold vp_in; decide) dX1_begin_25 (fun H locs hP hD hS => ?_)
  have hP : va_P (dC, dI) vwCl [(wt, .inr (1, [.ref ta, .ref tb, .ref tc, .ref td, .int 0, .int 0, .int 0])), (td, aI cI 8192 (upd (fun _ => 0) 0 0))] H := hP
  have hD : va_D A [(wt, .inr (1, [.ref ta, .ref tb, .ref tc, .ref td, .int 0, .int 0, .int 0])), (td, aI cI 8192 (upd (fun _ => 0) 0 0))] := hD
  refine lv_iinc (v := 1) (lv' := [(3, .int 1), (2, .int 2), (0, .ref wt), (1, .int 1)]) hx hb dX1_begin_26 hl (k := 0) rfl (by decide) (by decide) rfl (fun ls hl => ?_)
  refine lv_goto (tgt := 14) hx hb dX1_begin_29 (by decide) ?_
  refine lv_iload_n hx hb dX1_begin_14 rfl (lv_at hl 0 rfl) ?_
  refine lv_iload_n hx hb dX1_begin_15 rfl (lv_at hl 1 rfl) ?_
  refine lv_icmp_ge (tgt := 32) hx hb dX1_begin_16 (by decide) (fun c_2 => absurd c_2 (by decide)) (fun _ => ?_)
  refine lv_aload_n hx hb dX1_begin_19 rfl (lv_at hl 2 rfl) ?_
  refine va_get (D := (dC, dI)) (ci := 1) (v := .ref td) (C := RX1) (T := TX1) (N := 7) hx hb hts hiX1 hown hK hP 0 rfl rfl 3 (by decide) (hts (.fieldLink RX1 22 "WatchedPrograms$HeapTable" "slots" "[I") (by decide +kernel)) (fun _ h9 => h9) rfl dX1_begin_20 ?_
  refine lv_iload_n hx hb dX1_begin_23 rfl (lv_at hl 0 rfl) ?_
  refine lv_iconst (v := 0) hx hb dX1_begin_24 (by decide) ?_
  refine va_iast hx hb hK hP hD hS 1 0 rfl rfl (by unfold vp_in; decide) dX1_begin_25 (fun H locs hP hD hS => ?_)
  have hP : va_P (dC, dI) vwCl [(wt, .inr (1, [.ref ta, .ref tb, .ref tc, .ref td, .int 0, .int 0, .int 0])), (td, aI cI 8192 (upd (upd (fun _ => 0) 0 0) 1 0))] H := hP
  have hD : va_D A [(wt, .inr (1, [.ref ta, .ref tb, .ref tc, .ref td, .int 0, .int 0, .int 0])), (td, aI cI 8192 (upd (upd (fun _ => 0) 0 0) 1 0))] := hD
  refine lv_iinc (v := 2) (lv' := [(3, .int 2), (2, .int 2), (0, .ref wt), (1, .int 1)]) hx hb dX1_begin_26 hl (k := 0) rfl (by decide) (by decide) rfl (fun ls hl => ?_)
  refine lv_goto (tgt := 14) hx hb dX1_begin_29 (by decide) ?_
  refine lv_iload_n hx hb dX1_begin_14 rfl (lv_at hl 0 rfl) ?_
  refine lv_iload_n hx hb dX1_begin_15 rfl (lv_at hl 1 rfl) ?_
  refine lv_icmp_ge (tgt := 32) hx hb dX1_begin_16 (by decide) (fun _ => ?_) (fun c_3 => absurd (by decide) c_3)
  refine lv_aload_n hx hb dX1_begin_32 rfl (lv_at hl 2 rfl) ?_
  refine lv_iload_n hx hb dX1_begin_33 rfl (lv_at hl 1 rfl) ?_
  refine lv_iconst (v := 1) hx hb dX1_begin_34 (by decide) ?_
  refine lv_isub hx hb dX1_begin_35 ?_
  refine zi (y := 1) (by decide) ?_
  refine va_put (D := (dC, dI)) (ci := 1) (v := .int 1) (ty := .int) (C := RX1) (T := TX1) (N := 7) hx hb hts hiX1 tyX1 tyX1_ok nmX1 hown hK hP hD hS 0 rfl rfl 4 (by decide) (hts (.fieldLink RX1 31 "WatchedPrograms$HeapTable" "slotMask" "I") (by decide +kernel)) (fun _ h9 => h9) rfl (by decide +kernel) rfl rfl (Nat.le_of_ble_eq_true rfl) dX1_begin_36 (fun H locs hP hD hS => ?_)
  have hP : va_P (dC, dI) vwCl [(wt, .inr (1, [.ref ta, .ref tb, .ref tc, .ref td, .int 1, .int 0, .int 0])), (td, aI cI 8192 (upd (upd (fun _ => 0) 0 0) 1 0))] H := hP
  have hD : va_D A [(wt, .inr (1, [.ref ta, .ref tb, .ref tc, .ref td, .int 1, .int 0, .int 0])), (td, aI cI 8192 (upd (upd (fun _ => 0) 0 0) 1 0))] := hD
  refine lv_aload_n hx hb dX1_begin_39 rfl (lv_at hl 2 rfl) ?_
  refine lv_iconst (v := 0) hx hb dX1_begin_40 (by decide) ?_
  refine va_put (D := (dC, dI)) (ci := 1) (v := .int 0) (ty := .int) (C := RX1) (T := TX1) (N := 7) hx hb hts hiX1 tyX1 tyX1_ok nmX1 hown hK hP hD hS 0 rfl rfl 5 (by decide) (hts (.fieldLink RX1 35 "WatchedPrograms$HeapTable" "many" "I") (by decide +kernel)) (fun _ h9 => h9) rfl (by decide +kernel) rfl rfl (Nat.le_of_ble_eq_true rfl) dX1_begin_41 (fun H locs hP hD hS => ?_)
  have hP : va_P (dC, dI) vwCl [(wt, .inr (1, [.ref ta, .ref tb, .ref tc, .ref td, .int 1, .int 0, .int 0])), (td, aI cI 8192 (upd (upd (fun _ => 0) 0 0) 1 0))] H := hP
  have hD : va_D A [(wt, .inr (1, [.ref ta, .ref tb, .ref tc, .ref td, .int 1, .int 0, .int 0])), (td, aI cI 8192 (upd (upd (fun _ => 0) 0 0) 1 0))] := hD
  refine lv_aload_n hx hb dX1_begin_44 rfl (lv_at hl 2 rfl) ?_
  refine lv_iconst (v := 0) hx hb dX1_begin_45 (by decide) ?_
  refine va_put (D := (dC, dI)) (ci := 1) (v := .int 0) (ty := .int) (C := RX1) (T := TX1) (N := 7) hx hb hts hiX1 tyX1 tyX1_ok nmX1 hown hK hP hD hS 0 rfl rfl 6 (by decide) (hts (.fieldLink RX1 38 "WatchedPrograms$HeapTable" "greatest" "I") (by decide +kernel)) (fun _ h9 => h9) rfl (by decide +kernel) rfl rfl (Nat.le_of_ble_eq_true rfl) dX1_begin_46 (fun H locs hP hD hS => ?_)
  have hP : va_P (dC, dI) vwCl [(wt, .inr (1, [.ref ta, .ref tb, .ref tc, .ref td, .int 1, .int 0, .int 0])), (td, aI cI 8192 (upd (upd (fun _ => 0) 0 0) 1 0))] H := hP
  have hD : va_D A [(wt, .inr (1, [.ref ta, .ref tb, .ref tc, .ref td, .int 1, .int 0, .int 0])), (td, aI cI 8192 (upd (upd (fun _ => 0) 0 0) 1 0))] := hD
  have hP9 := hP.sub (ws' := [(wt, .inr (1, [.ref ta, .ref tb, .ref tc, .ref td, .int 1, .int 0, .int 0])), (td, aI cI 8192 (upd (upd (fun _ => 0) 0 0) 1 0))]) [0, 1] rfl
  have hD9 := hD.sub (ws' := [(wt, .inr (1, [.ref ta, .ref tb, .ref tc, .ref td, .int 1, .int 0, .int 0])), (td, aI cI 8192 (upd (upd (fun _ => 0) 0 0) 1 0))]) [0, 1] (by decide) rfl
  exact W.vret hx hb hr (fun tt_ ht hW => ⟨⟨(), rfl, trivial, by rw [ht]; exact hP9, hD9⟩, hS.F ht⟩) hS.2.2 dX1_begin_49
set_option maxHeartbeats 1000000 in
set_option maxRecDepth 100000 in
theorem c_topen0 (l : Launch) (dC : Nat → ClassId) (dI : Nat → Nat → Nat) (cI cJ cS : ClassId) (sz : Nat) (wt : Nat) (ta : Nat) (tb : Nat) (tc : Nat) (td : Nat)  : Met l yX1_open wsX1_open ({ frames := 1, cells := 0, slots := 0, locals := 13 }) (va_Pc [.ref wt, .int 1, .long 1, .long 0] (PE dC dI cI cJ cS [(wt, .inr (1, [.ref ta, .ref tb, .ref tc, .ref td, .int 1, .int 0, .int 0])), (td, aI cI 8192 (upd (upd (fun _ => 0) 0 0) 1 0)), (ta, aJ cJ 4096 (fun _ => 0)), (tb, aJ cJ 4096 (fun _ => 0)), (tc, aI cI 4096 (fun _ => 0))] sz)) (va_Qi (fun (r : Int32) (_ : Unit) => r = 0) (BE dC dI (va_A [(wt, .inr (1, [.ref ta, .ref tb, .ref tc, .ref td, .int 1, .int 0, .int 0])), (td, aI cI 8192 (upd (upd (fun _ => 0) 0 0) 1 0)), (ta, aJ cJ 4096 (fun _ => 0)), (tb, aJ cJ 4096 (fun _ => 0)), (tc, aI cI 4096 (fun _ => 0))] sz) (fun (_ : Unit) => [(wt, .inr (1, [.ref ta, .ref tb, .ref tc, .ref td, .int 1, .int 1, .int 0])), (td, aI cI 8192 (upd (upd (upd (fun _ => 0) 0 0) 1 0) 1 1)), (ta, aJ cJ 4096 (vp_updL (fun _ => 0) 0 1)), (tb, aJ cJ 4096 (vp_updL (fun _ => 0) 0 0)), (tc, aI cI 4096 (upd (fun _ => 0) 0 0))])) (va_A [(wt, .inr (1, [.ref ta, .ref tb, .ref tc, .ref td, .int 1, .int 0, .int 0])), (td, aI cI 8192 (upd (upd (fun _ => 0) 0 0) 1 0)), (ta, aJ cJ 4096 (fun _ => 0)), (tb, aJ cJ 4096 (fun _ => 0)), (tc, aI cI 4096 (fun _ => 0))] sz)) 0 0 (va_A [(wt, .inr (1, [.ref ta, .ref tb, .ref tc, .ref td, .int 1, .int 0, .int 0])), (td, aI cI 8192 (upd (upd (fun _ => 0) 0 0) 1 0)), (ta, aJ cJ 4096 (fun _ => 0)), (tb, aJ cJ 4096 (fun _ => 0)), (tc, aI cI 4096 (fun _ => 0))] sz) := by
  refine Met.ofW (cc := cX1_open) (maxL := 7) (ret := (some .int)) (by decide) rfl ?_
  intro pp_ ee_ ss_ mm_ args below meth cc_ s₁ B hml hv
  obtain ⟨rfl, hsz, hP, hE, hD0⟩ := hv
  have hx := B.exec
  have hb := B.bytes
  have hr := B.returns
  have hts := atoms_spec (ws := wsX1_open) B.pre
  have hown : ss_.vm.findClass RX1 = some mm_.cls := findClass_of_methodNamed B.named
  have hlocks := B.notSynchronized
  have hK := hE.1
  have hiX1 : ∀ w ∈ wsX10, w ∈ wsX1_open := by decide +kernel
  subst hsz
  have hD := hD0.self (sz := ss_.heap.size)
  generalize hAe : va_A [(wt, .inr (1, [.ref ta, .ref tb, .ref tc, .ref td, .int 1, .int 0, .int 0])), (td, aI cI 8192 (upd (upd (fun _ => 0) 0 0) 1 0)), (ta, aJ cJ 4096 (fun _ => 0)), (tb, aJ cJ 4096 (fun _ => 0)), (tc, aI cI 4096 (fun _ => 0))] ss_.heap.size = A at hD ⊢
  have hA : ∀ q : Nat, ss_.heap.size ≤ q → A q := fun q h => by rw [← hAe]; exact Or.inr h
  have hS : va_S A ss_.heap ss_.heap [] := va_S.rf
  have hP : va_P (dC, dI) vwCl [(wt, .inr (1, [.ref ta, .ref tb, .ref tc, .ref td, .int 1, .int 0, .int 0])), (td, aI cI 8192 (upd (upd (fun _ => 0) 0 0) 1 0)), (ta, aJ cJ 4096 (fun _ => 0)), (tb, aJ cJ 4096 (fun _ => 0)), (tc, aI cI 4096 (fun _ => 0))] ss_.heap := hP
  have hl := lv_entry ([.ref wt, .int 1, .long 1, .long 0]) (n := 7) (Nat.le_of_ble_eq_true rfl)
  rw [lg_entry_eq]
  generalize (lg_sl ([.ref wt, .int 1, .long 1, .long 0]) ++ List.replicate (7 - (lg_sl ([.ref wt, .int 1, .long 1, .long 0])).length) Slot.unset).toArray = ls at hl ⊢
  have hl : lv_has ls 7 [(0, .ref wt), (1, .int 1), (2, .long 1), (4, .long 0)] := hl
  refine lv_aload_n hx hb dX1_open_0 rfl (lv_at hl 0 rfl) ?_
  refine va_get (D := (dC, dI)) (ci := 1) (v := .int 0) (C := RX1) (T := TX1) (N := 7) hx hb hts hiX1 hown hK hP 0 rfl rfl 5 (by decide) (hts (.fieldLink RX1 35 "WatchedPrograms$HeapTable" "many" "I") (by decide +kernel)) (fun _ h9 => h9) rfl dX1_open_1 ?_
  refine lv_sipush (v := 4095) hx hb dX1_open_4 (by decide) ?_
  refine va_mmin hx hb (hml.trans hl.1.symm) hown (hts (.methodLink RX1 25 Lib.Math.min.name) (by decide +kernel)) (hts (.static Lib.Math.min.name) (by decide +kernel)) (hts (.initialized "java/lang/Math") (by decide +kernel)) (hts (.code Lib.Math.min.name Lib.Math.min.code 2 (some .int)) (by decide +kernel)) (Nat.le_of_ble_eq_true rfl) (Nat.le_of_ble_eq_true rfl) (Nat.le_of_ble_eq_true rfl) (Nat.le_of_ble_eq_true rfl) dX1_open_7 ?_
  refine zi (y := 0) (by decide) ?_
  refine lv_istore (lv' := [(6, .int 0), (0, .ref wt), (1, .int 1), (2, .long 1), (4, .long 0)]) hx hb dX1_open_10 hl (by decide) rfl (fun ls hl => ?_)
  refine lv_aload_n hx hb dX1_open_12 rfl (lv_at hl 1 rfl) ?_
  refine lv_iload hx hb dX1_open_13 (lv_at hl 0 rfl) ?_
  refine lv_iconst (v := 1) hx hb dX1_open_15 (by decide) ?_
  refine lv_iadd hx hb dX1_open_16 ?_
  refine zi (y := 1) (by decide) ?_
  refine va_put (D := (dC, dI)) (ci := 1) (v := .int 1) (ty := .int) (C := RX1) (T := TX1) (N := 7) hx hb hts hiX1 tyX1 tyX1_ok nmX1 hown hK hP hD hS 0 rfl rfl 5 (by decide) (hts (.fieldLink RX1 35 "WatchedPrograms$HeapTable" "many" "I") (by decide +kernel)) (fun _ h9 => h9) rfl (by decide +kernel) rfl rfl (Nat.le_of_ble_eq_true rfl) dX1_open_17 (fun H locs hP hD hS => ?_)
  have hP : va_P (dC, dI) vwCl [(wt, .inr (1, [.ref ta, .ref tb, .ref tc, .ref td, .int 1, .int 1, .int 0])), (td, aI cI 8192 (upd (upd (fun _ => 0) 0 0) 1 0)), (ta, aJ cJ 4096 (fun _ => 0)), (tb, aJ cJ 4096 (fun _ => 0)), (tc, aI cI 4096 (fun _ => 0))] H := hP
  have hD : va_D A [(wt, .inr (1, [.ref ta, .ref tb, .ref tc, .ref td, .int 1, .int 1, .int 0])), (td, aI cI 8192 (upd (upd (fun _ => 0) 0 0) 1 0)), (ta, aJ cJ 4096 (fun _ => 0)), (tb, aJ cJ 4096 (fun _ => 0)), (tc, aI cI 4096 (fun _ => 0))] := hD
  refine lv_aload_n hx hb dX1_open_20 rfl (lv_at hl 1 rfl) ?_
  refine va_get (D := (dC, dI)) (ci := 1) (v := .ref td) (C := RX1) (T := TX1) (N := 7) hx hb hts hiX1 hown hK hP 0 rfl rfl 3 (by decide) (hts (.fieldLink RX1 22 "WatchedPrograms$HeapTable" "slots" "[I") (by decide +kernel)) (fun _ h9 => h9) rfl dX1_open_21 ?_
  refine lv_iload_n hx hb dX1_open_24 rfl (lv_at hl 2 rfl) ?_
  refine lv_aload_n hx hb dX1_open_25 rfl (lv_at hl 1 rfl) ?_
  refine va_get (D := (dC, dI)) (ci := 1) (v := .int 1) (C := RX1) (T := TX1) (N := 7) hx hb hts hiX1 hown hK hP 0 rfl rfl 5 (by decide) (hts (.fieldLink RX1 35 "WatchedPrograms$HeapTable" "many" "I") (by decide +kernel)) (fun _ h9 => h9) rfl dX1_open_26 ?_
  refine va_iast hx hb hK hP hD hS 1 0 rfl rfl (by unfold vp_in; decide) dX1_open_29 (fun H locs hP hD hS => ?_)
  have hP : va_P (dC, dI) vwCl [(wt, .inr (1, [.ref ta, .ref tb, .ref tc, .ref td, .int 1, .int 1, .int 0])), (td, aI cI 8192 (upd (upd (upd (fun _ => 0) 0 0) 1 0) 1 1)), (ta, aJ cJ 4096 (fun _ => 0)), (tb, aJ cJ 4096 (fun _ => 0)), (tc, aI cI 4096 (fun _ => 0))] H := hP
  have hD : va_D A [(wt, .inr (1, [.ref ta, .ref tb, .ref tc, .ref td, .int 1, .int 1, .int 0])), (td, aI cI 8192 (upd (upd (upd (fun _ => 0) 0 0) 1 0) 1 1)), (ta, aJ cJ 4096 (fun _ => 0)), (tb, aJ cJ 4096 (fun _ => 0)), (tc, aI cI 4096 (fun _ => 0))] := hD
  refine lv_aload_n hx hb dX1_open_30 rfl (lv_at hl 1 rfl) ?_
  refine va_get (D := (dC, dI)) (ci := 1) (v := .ref ta) (C := RX1) (T := TX1) (N := 7) hx hb hts hiX1 hown hK hP 0 rfl rfl 0 (by decide) (hts (.fieldLink RX1 11 "WatchedPrograms$HeapTable" "firsts" "[J") (by decide +kernel)) (fun _ h9 => h9) rfl dX1_open_31 ?_
  refine lv_iload hx hb dX1_open_34 (lv_at hl 0 rfl) ?_
  refine lv_lload_n hx hb dX1_open_36 rfl (lv_at hl 3 rfl) ?_
  refine va_last hx hb hK hP hD hS 2 1 rfl rfl (by unfold vp_in; decide) dX1_open_37 (fun H locs hP hD hS => ?_)
  have hP : va_P (dC, dI) vwCl [(wt, .inr (1, [.ref ta, .ref tb, .ref tc, .ref td, .int 1, .int 1, .int 0])), (td, aI cI 8192 (upd (upd (upd (fun _ => 0) 0 0) 1 0) 1 1)), (ta, aJ cJ 4096 (vp_updL (fun _ => 0) 0 1)), (tb, aJ cJ 4096 (fun _ => 0)), (tc, aI cI 4096 (fun _ => 0))] H := hP
  have hD : va_D A [(wt, .inr (1, [.ref ta, .ref tb, .ref tc, .ref td, .int 1, .int 1, .int 0])), (td, aI cI 8192 (upd (upd (upd (fun _ => 0) 0 0) 1 0) 1 1)), (ta, aJ cJ 4096 (vp_updL (fun _ => 0) 0 1)), (tb, aJ cJ 4096 (fun _ => 0)), (tc, aI cI 4096 (fun _ => 0))] := hD
  refine lv_aload_n hx hb dX1_open_38 rfl (lv_at hl 1 rfl) ?_
  refine va_get (D := (dC, dI)) (ci := 1) (v := .ref tb) (C := RX1) (T := TX1) (N := 7) hx hb hts hiX1 hown hK hP 0 rfl rfl 1 (by decide) (hts (.fieldLink RX1 15 "WatchedPrograms$HeapTable" "seconds" "[J") (by decide +kernel)) (fun _ h9 => h9) rfl dX1_open_39 ?_
  refine lv_iload hx hb dX1_open_42 (lv_at hl 0 rfl) ?_
  refine lv_lload hx hb dX1_open_44 (lv_at hl 4 rfl) ?_
  refine va_last hx hb hK hP hD hS 3 1 rfl rfl (by unfold vp_in; decide) dX1_open_46 (fun H locs hP hD hS => ?_)
  have hP : va_P (dC, dI) vwCl [(wt, .inr (1, [.ref ta, .ref tb, .ref tc, .ref td, .int 1, .int 1, .int 0])), (td, aI cI 8192 (upd (upd (upd (fun _ => 0) 0 0) 1 0) 1 1)), (ta, aJ cJ 4096 (vp_updL (fun _ => 0) 0 1)), (tb, aJ cJ 4096 (vp_updL (fun _ => 0) 0 0)), (tc, aI cI 4096 (fun _ => 0))] H := hP
  have hD : va_D A [(wt, .inr (1, [.ref ta, .ref tb, .ref tc, .ref td, .int 1, .int 1, .int 0])), (td, aI cI 8192 (upd (upd (upd (fun _ => 0) 0 0) 1 0) 1 1)), (ta, aJ cJ 4096 (vp_updL (fun _ => 0) 0 1)), (tb, aJ cJ 4096 (vp_updL (fun _ => 0) 0 0)), (tc, aI cI 4096 (fun _ => 0))] := hD
  refine lv_aload_n hx hb dX1_open_47 rfl (lv_at hl 1 rfl) ?_
  refine va_get (D := (dC, dI)) (ci := 1) (v := .ref tc) (C := RX1) (T := TX1) (N := 7) hx hb hts hiX1 hown hK hP 0 rfl rfl 2 (by decide) (hts (.fieldLink RX1 18 "WatchedPrograms$HeapTable" "sizes" "[I") (by decide +kernel)) (fun _ h9 => h9) rfl dX1_open_48 ?_
  refine lv_iload hx hb dX1_open_51 (lv_at hl 0 rfl) ?_
  refine lv_iconst (v := 0) hx hb dX1_open_53 (by decide) ?_
  refine va_iast hx hb hK hP hD hS 4 0 rfl rfl (by unfold vp_in; decide) dX1_open_54 (fun H locs hP hD hS => ?_)
  have hP : va_P (dC, dI) vwCl [(wt, .inr (1, [.ref ta, .ref tb, .ref tc, .ref td, .int 1, .int 1, .int 0])), (td, aI cI 8192 (upd (upd (upd (fun _ => 0) 0 0) 1 0) 1 1)), (ta, aJ cJ 4096 (vp_updL (fun _ => 0) 0 1)), (tb, aJ cJ 4096 (vp_updL (fun _ => 0) 0 0)), (tc, aI cI 4096 (upd (fun _ => 0) 0 0))] H := hP
  have hD : va_D A [(wt, .inr (1, [.ref ta, .ref tb, .ref tc, .ref td, .int 1, .int 1, .int 0])), (td, aI cI 8192 (upd (upd (upd (fun _ => 0) 0 0) 1 0) 1 1)), (ta, aJ cJ 4096 (vp_updL (fun _ => 0) 0 1)), (tb, aJ cJ 4096 (vp_updL (fun _ => 0) 0 0)), (tc, aI cI 4096 (upd (fun _ => 0) 0 0))] := hD
  refine lv_iload hx hb dX1_open_55 (lv_at hl 0 rfl) ?_
  have hP9 := hP.sub (ws' := [(wt, .inr (1, [.ref ta, .ref tb, .ref tc, .ref td, .int 1, .int 1, .int 0])), (td, aI cI 8192 (upd (upd (upd (fun _ => 0) 0 0) 1 0) 1 1)), (ta, aJ cJ 4096 (vp_updL (fun _ => 0) 0 1)), (tb, aJ cJ 4096 (vp_updL (fun _ => 0) 0 0)), (tc, aI cI 4096 (upd (fun _ => 0) 0 0))]) [0, 1, 2, 3, 4] rfl
  have hD9 := hD.sub (ws' := [(wt, .inr (1, [.ref ta, .ref tb, .ref tc, .ref td, .int 1, .int 1, .int 0])), (td, aI cI 8192 (upd (upd (upd (fun _ => 0) 0 0) 1 0) 1 1)), (ta, aJ cJ 4096 (vp_updL (fun _ => 0) 0 1)), (tb, aJ cJ 4096 (vp_updL (fun _ => 0) 0 0)), (tc, aI cI 4096 (upd (fun _ => 0) 0 0))]) [0, 1, 2, 3, 4] (by decide) rfl
  exact W.iret (v := 0) hx hb hr (fun tt_ ht hW => ⟨⟨_, (), rfl, rfl, by rw [ht]; exact hP9, hD9⟩, hS.F ht⟩) hS.2.2 dX1_open_57
set_option maxHeartbeats 1000000 in
set_option maxRecDepth 100000 in
theorem c_tgrow0 (l : Launch) (dC : Nat → ClassId) (dI : Nat → Nat → Nat) (cI cJ cS : ClassId) (sz : Nat) (wt : Nat) (ta : Nat) (tb : Nat) (tc : Nat) (td : Nat)  : Met l yX1_grow wsX1_grow ({ frames := 1, cells := 0, slots := 0, locals := 14 }) (va_Pc [.ref wt, .int 0] (PE dC dI cI cJ cS [(wt, .inr (1, [.ref ta, .ref tb, .ref tc, .ref td, .int 1, .int 1, .int 0])), (tc, aI cI 4096 (upd (fun _ => 0) 0 0))] sz)) (va_Qv (fun (_ : Unit) => True) (BE dC dI (va_A [(wt, .inr (1, [.ref ta, .ref tb, .ref tc, .ref td, .int 1, .int 1, .int 0])), (tc, aI cI 4096 (upd (fun _ => 0) 0 0))] sz) (fun (_ : Unit) => [(wt, .inr (1, [.ref ta, .ref tb, .ref tc, .ref td, .int 1, .int 1, .int 1])), (tc, aI cI 4096 (upd (upd (fun _ => 0) 0 0) 0 1))])) (va_A [(wt, .inr (1, [.ref ta, .ref tb, .ref tc, .ref td, .int 1, .int 1, .int 0])), (tc, aI cI 4096 (upd (fun _ => 0) 0 0))] sz)) 0 0 (va_A [(wt, .inr (1, [.ref ta, .ref tb, .ref tc, .ref td, .int 1, .int 1, .int 0])), (tc, aI cI 4096 (upd (fun _ => 0) 0 0))] sz) := by
  refine Met.ofW (cc := cX1_grow) (maxL := 2) (ret := none) (by decide) rfl ?_
  intro pp_ ee_ ss_ mm_ args below meth cc_ s₁ B hml hv
  obtain ⟨rfl, hsz, hP, hE, hD0⟩ := hv
  have hx := B.exec
  have hb := B.bytes
  have hr := B.returns
  have hts := atoms_spec (ws := wsX1_grow) B.pre
  have hown : ss_.vm.findClass RX1 = some mm_.cls := findClass_of_methodNamed B.named
  have hlocks := B.notSynchronized
  have hK := hE.1
  have hiX1 : ∀ w ∈ wsX10, w ∈ wsX1_grow := by decide +kernel
  subst hsz
  have hD := hD0.self (sz := ss_.heap.size)
  generalize hAe : va_A [(wt, .inr (1, [.ref ta, .ref tb, .ref tc, .ref td, .int 1, .int 1, .int 0])), (tc, aI cI 4096 (upd (fun _ => 0) 0 0))] ss_.heap.size = A at hD ⊢
  have hA : ∀ q : Nat, ss_.heap.size ≤ q → A q := fun q h => by rw [← hAe]; exact Or.inr h
  have hS : va_S A ss_.heap ss_.heap [] := va_S.rf
  have hP : va_P (dC, dI) vwCl [(wt, .inr (1, [.ref ta, .ref tb, .ref tc, .ref td, .int 1, .int 1, .int 0])), (tc, aI cI 4096 (upd (fun _ => 0) 0 0))] ss_.heap := hP
  have hl := lv_entry ([.ref wt, .int 0]) (n := 2) (Nat.le_of_ble_eq_true rfl)
  rw [lg_entry_eq]
  generalize (lg_sl ([.ref wt, .int 0]) ++ List.replicate (2 - (lg_sl ([.ref wt, .int 0])).length) Slot.unset).toArray = ls at hl ⊢
  have hl : lv_has ls 2 [(0, .ref wt), (1, .int 0)] := hl
  refine lv_aload_n hx hb dX1_grow_0 rfl (lv_at hl 0 rfl) ?_
  refine va_get (D := (dC, dI)) (ci := 1) (v := .ref tc) (C := RX1) (T := TX1) (N := 7) hx hb hts hiX1 hown hK hP 0 rfl rfl 2 (by decide) (hts (.fieldLink RX1 18 "WatchedPrograms$HeapTable" "sizes" "[I") (by decide +kernel)) (fun _ h9 => h9) rfl dX1_grow_1 ?_
  refine lv_iload_n hx hb dX1_grow_4 rfl (lv_at hl 1 rfl) ?_
  refine lv_dup2_11 hx hb dX1_grow_5 rfl rfl ?_
  refine va_iald hx hb hK hP 1 0 rfl rfl (by unfold vp_in; decide) dX1_grow_6 ?_
  refine zi (y := 0) (by rfl) ?_
  refine lv_iconst (v := 1) hx hb dX1_grow_7 (by decide) ?_
  refine lv_iadd hx hb dX1_grow_8 ?_
  refine zi (y := 1) (by decide) ?_
  refine va_iast hx hb hK hP hD hS 1 0 rfl rfl (by unfold vp_in; decide) dX1_grow_9 (fun H locs hP hD hS => ?_)
  have hP : va_P (dC, dI) vwCl [(wt, .inr (1, [.ref ta, .ref tb, .ref tc, .ref td, .int 1, .int 1, .int 0])), (tc, aI cI 4096 (upd (upd (fun _ => 0) 0 0) 0 1))] H := hP
  have hD : va_D A [(wt, .inr (1, [.ref ta, .ref tb, .ref tc, .ref td, .int 1, .int 1, .int 0])), (tc, aI cI 4096 (upd (upd (fun _ => 0) 0 0) 0 1))] := hD
  refine lv_aload_n hx hb dX1_grow_10 rfl (lv_at hl 0 rfl) ?_
  refine lv_aload_n hx hb dX1_grow_11 rfl (lv_at hl 0 rfl) ?_
  refine va_get (D := (dC, dI)) (ci := 1) (v := .int 0) (C := RX1) (T := TX1) (N := 7) hx hb hts hiX1 hown hK hP 0 rfl rfl 6 (by decide) (hts (.fieldLink RX1 38 "WatchedPrograms$HeapTable" "greatest" "I") (by decide +kernel)) (fun _ h9 => h9) rfl dX1_grow_12 ?_
  refine lv_aload_n hx hb dX1_grow_15 rfl (lv_at hl 0 rfl) ?_
  refine va_get (D := (dC, dI)) (ci := 1) (v := .ref tc) (C := RX1) (T := TX1) (N := 7) hx hb hts hiX1 hown hK hP 0 rfl rfl 2 (by decide) (hts (.fieldLink RX1 18 "WatchedPrograms$HeapTable" "sizes" "[I") (by decide +kernel)) (fun _ h9 => h9) rfl dX1_grow_16 ?_
  refine lv_iload_n hx hb dX1_grow_19 rfl (lv_at hl 1 rfl) ?_
  refine va_iald hx hb hK hP 1 0 rfl rfl (by unfold vp_in; decide) dX1_grow_20 ?_
  refine zi (y := 1) (by rfl) ?_
  refine va_mmax hx hb (hml.trans hl.1.symm) hown (hts (.methodLink RX1 53 Lib.Math.max.name) (by decide +kernel)) (hts (.static Lib.Math.max.name) (by decide +kernel)) (hts (.initialized "java/lang/Math") (by decide +kernel)) (hts (.code Lib.Math.max.name Lib.Math.max.code 2 (some .int)) (by decide +kernel)) (Nat.le_of_ble_eq_true rfl) (Nat.le_of_ble_eq_true rfl) (Nat.le_of_ble_eq_true rfl) (Nat.le_of_ble_eq_true rfl) dX1_grow_21 ?_
  refine zi (y := 1) (by decide) ?_
  refine va_put (D := (dC, dI)) (ci := 1) (v := .int 1) (ty := .int) (C := RX1) (T := TX1) (N := 7) hx hb hts hiX1 tyX1 tyX1_ok nmX1 hown hK hP hD hS 0 rfl rfl 6 (by decide) (hts (.fieldLink RX1 38 "WatchedPrograms$HeapTable" "greatest" "I") (by decide +kernel)) (fun _ h9 => h9) rfl (by decide +kernel) rfl rfl (Nat.le_of_ble_eq_true rfl) dX1_grow_24 (fun H locs hP hD hS => ?_)
  have hP : va_P (dC, dI) vwCl [(wt, .inr (1, [.ref ta, .ref tb, .ref tc, .ref td, .int 1, .int 1, .int 1])), (tc, aI cI 4096 (upd (upd (fun _ => 0) 0 0) 0 1))] H := hP
  have hD : va_D A [(wt, .inr (1, [.ref ta, .ref tb, .ref tc, .ref td, .int 1, .int 1, .int 1])), (tc, aI cI 4096 (upd (upd (fun _ => 0) 0 0) 0 1))] := hD
  have hP9 := hP.sub (ws' := [(wt, .inr (1, [.ref ta, .ref tb, .ref tc, .ref td, .int 1, .int 1, .int 1])), (tc, aI cI 4096 (upd (upd (fun _ => 0) 0 0) 0 1))]) [0, 1] rfl
  have hD9 := hD.sub (ws' := [(wt, .inr (1, [.ref ta, .ref tb, .ref tc, .ref td, .int 1, .int 1, .int 1])), (tc, aI cI 4096 (upd (upd (fun _ => 0) 0 0) 0 1))]) [0, 1] (by decide) rfl
  exact W.vret hx hb hr (fun tt_ ht hW => ⟨⟨(), rfl, trivial, by rw [ht]; exact hP9, hD9⟩, hS.F ht⟩) hS.2.2 dX1_grow_27
set_option maxHeartbeats 1000000 in
set_option maxRecDepth 100000 in
theorem c_tput0 (l : Launch) (dC : Nat → ClassId) (dI : Nat → Nat → Nat) (cI cJ cS : ClassId) (sz : Nat) (wt : Nat) (ta : Nat) (tb : Nat) (tc : Nat) (td : Nat)  : Met l yX1_put wsX1_put ({ frames := 2, cells := 0, slots := 0, locals := 39 }) (va_Pc [.ref wt, .long 1, .long 0] (PE dC dI cI cJ cS [(wt, .inr (1, [.ref ta, .ref tb, .ref tc, .ref td, .int 1, .int 0, .int 0])), (td, aI cI 8192 (upd (upd (fun _ => 0) 0 0) 1 0)), (ta, aJ cJ 4096 (fun _ => 0)), (tb, aJ cJ 4096 (fun _ => 0)), (tc, aI cI 4096 (fun _ => 0))] sz)) (va_Qv (fun (_ : Unit) => True) (BE dC dI (va_A [(wt, .inr (1, [.ref ta, .ref tb, .ref tc, .ref td, .int 1, .int 0, .int 0])), (td, aI cI 8192 (upd (upd (fun _ => 0) 0 0) 1 0)), (ta, aJ cJ 4096 (fun _ => 0)), (tb, aJ cJ 4096 (fun _ => 0)), (tc, aI cI 4096 (fun _ => 0))] sz) (fun (_ : Unit) => [(td, aI cI 8192 (upd (upd (upd (fun _ => 0) 0 0) 1 0) 1 1)), (ta, aJ cJ 4096 (vp_updL (fun _ => 0) 0 1)), (tb, aJ cJ 4096 (vp_updL (fun _ => 0) 0 0)), (wt, .inr (1, [.ref ta, .ref tb, .ref tc, .ref td, .int 1, .int 1, .int 1])), (tc, aI cI 4096 (upd (upd (fun _ => 0) 0 0) 0 1))])) (va_A [(wt, .inr (1, [.ref ta, .ref tb, .ref tc, .ref td, .int 1, .int 0, .int 0])), (td, aI cI 8192 (upd (upd (fun _ => 0) 0 0) 1 0)), (ta, aJ cJ 4096 (fun _ => 0)), (tb, aJ cJ 4096 (fun _ => 0)), (tc, aI cI 4096 (fun _ => 0))] sz)) 0 0 (va_A [(wt, .inr (1, [.ref ta, .ref tb, .ref tc, .ref td, .int 1, .int 0, .int 0])), (td, aI cI 8192 (upd (upd (fun _ => 0) 0 0) 1 0)), (ta, aJ cJ 4096 (fun _ => 0)), (tb, aJ cJ 4096 (fun _ => 0)), (tc, aI cI 4096 (fun _ => 0))] sz) := by
  refine Met.ofW (cc := cX1_put) (maxL := 10) (ret := none) (by decide) rfl ?_
  intro pp_ ee_ ss_ mm_ args below meth cc_ s₁ B hml hv
  obtain ⟨rfl, hsz, hP, hE, hD0⟩ := hv
  have hx := B.exec
  have hb := B.bytes
  have hr := B.returns
  have hts := atoms_spec (ws := wsX1_put) B.pre
  have hown : ss_.vm.findClass RX1 = some mm_.cls := findClass_of_methodNamed B.named
  have hlocks := B.notSynchronized
  have hK := hE.1
  have hiX1 : ∀ w ∈ wsX10, w ∈ wsX1_put := by decide +kernel
  subst hsz
  have hD := hD0.self (sz := ss_.heap.size)
  generalize hAe : va_A [(wt, .inr (1, [.ref ta, .ref tb, .ref tc, .ref td, .int 1, .int 0, .int 0])), (td, aI cI 8192 (upd (upd (fun _ => 0) 0 0) 1 0)), (ta, aJ cJ 4096 (fun _ => 0)), (tb, aJ cJ 4096 (fun _ => 0)), (tc, aI cI 4096 (fun _ => 0))] ss_.heap.size = A at hD ⊢
  have hA : ∀ q : Nat, ss_.heap.size ≤ q → A q := fun q h => by rw [← hAe]; exact Or.inr h
  have hS : va_S A ss_.heap ss_.heap [] := va_S.rf
  have hP : va_P (dC, dI) vwCl [(wt, .inr (1, [.ref ta, .ref tb, .ref tc, .ref td, .int 1, .int 0, .int 0])), (td, aI cI 8192 (upd (upd (fun _ => 0) 0 0) 1 0)), (ta, aJ cJ 4096 (fun _ => 0)), (tb, aJ cJ 4096 (fun _ => 0)), (tc, aI cI 4096 (fun _ => 0))] ss_.heap := hP
  have hl := lv_entry ([.ref wt, .long 1, .long 0]) (n := 10) (Nat.le_of_ble_eq_true rfl)
  rw [lg_entry_eq]
  generalize (lg_sl ([.ref wt, .long 1, .long 0]) ++ List.replicate (10 - (lg_sl ([.ref wt, .long 1, .long 0])).length) Slot.unset).toArray = ls at hl ⊢
  have hl : lv_has ls 10 [(0, .ref wt), (1, .long 1), (3, .long 0)] := hl
  refine lv_lload_n hx hb dX1_put_0 rfl (lv_at hl 1 rfl) ?_
  refine lv_lload_n hx hb dX1_put_1 rfl (lv_at hl 1 rfl) ?_
  refine lv_bipush (v := 32) hx hb dX1_put_2 (by decide) ?_
  refine lv_lushr (v := 0) hx hb dX1_put_4 (by decide) ?_
  refine lv_lxor hx hb dX1_put_5 ?_
  refine zl (y := 1) (by decide) ?_
  refine lv_ldc2 (v := (-7046029254386353131)) hx hb hown (hts (.constantLong RX1 41 (-7046029254386353131)) (by decide +kernel)) dX1_put_6 ?_
  refine lv_lmul hx hb dX1_put_9 ?_
  refine zl (y := (-7046029254386353131)) (by decide) ?_
  refine lv_lload_n hx hb dX1_put_10 rfl (lv_at hl 2 rfl) ?_
  refine lv_lload_n hx hb dX1_put_11 rfl (lv_at hl 2 rfl) ?_
  refine lv_bipush (v := 32) hx hb dX1_put_12 (by decide) ?_
  refine lv_lushr (v := 0) hx hb dX1_put_14 (by decide) ?_
  refine lv_lxor hx hb dX1_put_15 ?_
  refine zl (y := 0) (by decide) ?_
  refine lv_ldc2 (v := (-4417276706812531889)) hx hb hown (hts (.constantLong RX1 43 (-4417276706812531889)) (by decide +kernel)) dX1_put_16 ?_
  refine lv_lmul hx hb dX1_put_19 ?_
  refine zl (y := 0) (by decide) ?_
  refine lv_ladd hx hb dX1_put_20 ?_
  refine zl (y := (-7046029254386353131)) (by decide) ?_
  refine lv_lstore (lv' := [(5, .long (-7046029254386353131)), (0, .ref wt), (1, .long 1), (3, .long 0)]) hx hb dX1_put_21 hl (by decide) rfl (fun ls hl => ?_)
  refine lv_lload hx hb dX1_put_23 (lv_at hl 0 rfl) ?_
  refine lv_bipush (v := 40) hx hb dX1_put_25 (by decide) ?_
  refine lv_lushr (v := 10368889) hx hb dX1_put_27 (by decide) ?_
  refine lv_l2i (v := 10368889) hx hb dX1_put_28 (by decide) ?_
  refine lv_aload_n hx hb dX1_put_29 rfl (lv_at hl 1 rfl) ?_
  refine va_get (D := (dC, dI)) (ci := 1) (v := .int 1) (C := RX1) (T := TX1) (N := 7) hx hb hts hiX1 hown hK hP 0 rfl rfl 4 (by decide) (hts (.fieldLink RX1 31 "WatchedPrograms$HeapTable" "slotMask" "I") (by decide +kernel)) (fun _ h9 => h9) rfl dX1_put_30 ?_
  refine lv_iand hx hb dX1_put_33 ?_
  refine zi (y := 1) (by decide) ?_
  refine lv_istore (lv' := [(7, .int 1), (5, .long (-7046029254386353131)), (0, .ref wt), (1, .long 1), (3, .long 0)]) hx hb dX1_put_34 hl (by decide) rfl (fun ls hl => ?_)
  refine lv_iconst (v := 0) hx hb dX1_put_36 (by decide) ?_
  refine lv_istore (lv' := [(8, .int 0), (7, .int 1), (5, .long (-7046029254386353131)), (0, .ref wt), (1, .long 1), (3, .long 0)]) hx hb dX1_put_37 hl (by decide) rfl (fun ls hl => ?_)
  refine lv_iload hx hb dX1_put_39 (lv_at hl 0 rfl) ?_
  refine lv_aload_n hx hb dX1_put_41 rfl (lv_at hl 3 rfl) ?_
  refine va_get (D := (dC, dI)) (ci := 1) (v := .int 1) (C := RX1) (T := TX1) (N := 7) hx hb hts hiX1 hown hK hP 0 rfl rfl 4 (by decide) (hts (.fieldLink RX1 31 "WatchedPrograms$HeapTable" "slotMask" "I") (by decide +kernel)) (fun _ h9 => h9) rfl dX1_put_42 ?_
  refine lv_icmp_gt (tgt := 122) hx hb dX1_put_45 (by decide) (fun c_1 => absurd c_1 (by decide)) (fun _ => ?_)
  refine lv_aload_n hx hb dX1_put_48 rfl (lv_at hl 3 rfl) ?_
  refine va_get (D := (dC, dI)) (ci := 1) (v := .ref td) (C := RX1) (T := TX1) (N := 7) hx hb hts hiX1 hown hK hP 0 rfl rfl 3 (by decide) (hts (.fieldLink RX1 22 "WatchedPrograms$HeapTable" "slots" "[I") (by decide +kernel)) (fun _ h9 => h9) rfl dX1_put_49 ?_
  refine lv_iload hx hb dX1_put_52 (lv_at hl 1 rfl) ?_
  refine va_iald hx hb hK hP 1 0 rfl rfl (by unfold vp_in; decide) dX1_put_54 ?_
  refine zi (y := 0) (by rfl) ?_
  refine lv_iconst (v := 1) hx hb dX1_put_55 (by decide) ?_
  refine lv_isub hx hb dX1_put_56 ?_
  refine zi (y := (-1)) (by decide) ?_
  refine lv_istore (lv' := [(9, .int (-1)), (8, .int 0), (7, .int 1), (5, .long (-7046029254386353131)), (0, .ref wt), (1, .long 1), (3, .long 0)]) hx hb dX1_put_57 hl (by decide) rfl (fun ls hl => ?_)
  refine lv_iload hx hb dX1_put_59 (lv_at hl 0 rfl) ?_
  refine lv_if_ge (tgt := 74) hx hb dX1_put_61 (by decide) (fun c_2 => absurd c_2 (by decide)) (fun _ => ?_)
  refine lv_aload_n hx hb dX1_put_64 rfl (lv_at hl 4 rfl) ?_
  refine lv_iload hx hb dX1_put_65 (lv_at hl 2 rfl) ?_
  refine lv_lload_n hx hb dX1_put_67 rfl (lv_at hl 5 rfl) ?_
  refine lv_lload_n hx hb dX1_put_68 rfl (lv_at hl 6 rfl) ?_
  have hFc := va_free (wc := [(wt, .inr (1, [.ref ta, .ref tb, .ref tc, .ref td, .int 1, .int 0, .int 0])), (td, aI cI 8192 (upd (upd (fun _ => 0) 0 0) 1 0)), (ta, aJ cJ 4096 (fun _ => 0)), (tb, aJ cJ 4096 (fun _ => 0)), (tc, aI cI 4096 (fun _ => 0))]) hD hS hA [0, 1, 2, 3, 4] rfl
  refine zCi (wr := []) hP hD hS hFc [0, 1, 2, 3, 4] [] rfl rfl (by decide) (by decide) (va_runV (As := [.int 1, .long 1, .long 0]) (rest := []) ⟨hx, hb, hml, hown, hts⟩ (c_topen0 l dC dI cI cJ cS ss_.heap.size wt ta tb tc td ) (cwV 3 hts gX1_put_X1_open rfl rfl rfl (by decide +kernel) ⟨Nat.le_of_ble_eq_true rfl, Nat.le_of_ble_eq_true rfl⟩) (preEV (hP.sub (ws' := [(wt, .inr (1, [.ref ta, .ref tb, .ref tc, .ref td, .int 1, .int 0, .int 0])), (td, aI cI 8192 (upd (upd (fun _ => 0) 0 0) 1 0)), (ta, aJ cJ 4096 (fun _ => 0)), (tb, aJ cJ 4096 (fun _ => 0)), (tc, aI cI 4096 (fun _ => 0))]) [0, 1, 2, 3, 4] rfl) hE (hD.sub (ws' := [(wt, .inr (1, [.ref ta, .ref tb, .ref tc, .ref td, .int 1, .int 0, .int 0])), (td, aI cI 8192 (upd (upd (fun _ => 0) 0 0) 1 0)), (ta, aJ cJ 4096 (fun _ => 0)), (tb, aJ cJ 4096 (fun _ => 0)), (tc, aI cI 4096 (fun _ => 0))]) [0, 1, 2, 3, 4] (by decide) rfl) 0 (ci := 1) rfl rfl) rfl rfl hl.1 rfl (lv_room (Nat.le_of_ble_eq_true rfl)) dX1_put_69 ⟨by decide +kernel, by decide +kernel⟩) (fun r_3 u_5 H locs hr_4 hP hD hS => ?_)
  try dsimp only at hr_4
  have hP : va_P (dC, dI) vwCl [(wt, .inr (1, [.ref ta, .ref tb, .ref tc, .ref td, .int 1, .int 1, .int 0])), (td, aI cI 8192 (upd (upd (upd (fun _ => 0) 0 0) 1 0) 1 1)), (ta, aJ cJ 4096 (vp_updL (fun _ => 0) 0 1)), (tb, aJ cJ 4096 (vp_updL (fun _ => 0) 0 0)), (tc, aI cI 4096 (upd (fun _ => 0) 0 0))] H := hP
  have hD : va_D A [(wt, .inr (1, [.ref ta, .ref tb, .ref tc, .ref td, .int 1, .int 1, .int 0])), (td, aI cI 8192 (upd (upd (upd (fun _ => 0) 0 0) 1 0) 1 1)), (ta, aJ cJ 4096 (vp_updL (fun _ => 0) 0 1)), (tb, aJ cJ 4096 (vp_updL (fun _ => 0) 0 0)), (tc, aI cI 4096 (upd (fun _ => 0) 0 0))] := hD
  obtain rfl := hr_4
  refine lv_istore (lv' := [(9, .int 0), (8, .int 0), (7, .int 1), (5, .long (-7046029254386353131)), (0, .ref wt), (1, .long 1), (3, .long 0)]) hx hb dX1_put_72 hl (by decide) rfl (fun ls hl => ?_)
  refine lv_aload_n hx hb dX1_put_74 rfl (lv_at hl 4 rfl) ?_
  refine va_get (D := (dC, dI)) (ci := 1) (v := .ref ta) (C := RX1) (T := TX1) (N := 7) hx hb hts hiX1 hown hK hP 0 rfl rfl 0 (by decide) (hts (.fieldLink RX1 11 "WatchedPrograms$HeapTable" "firsts" "[J") (by decide +kernel)) (fun _ h9 => h9) rfl dX1_put_75 ?_
  refine lv_iload hx hb dX1_put_78 (lv_at hl 0 rfl) ?_
  refine va_lald hx hb hK hP 2 1 rfl rfl (by unfold vp_in; decide) dX1_put_80 ?_
  refine zl (y := 1) (by rfl) ?_
  refine lv_lload_n hx hb dX1_put_81 rfl (lv_at hl 5 rfl) ?_
  refine W.lcmp hx hb dX1_put_82 ?_
  refine zi (y := 0) (by decide) ?_
  refine lv_if_ne (tgt := 105) hx hb dX1_put_83 (by decide) (fun c_6 => absurd (by decide) c_6) (fun _ => ?_)
  refine lv_aload_n hx hb dX1_put_86 rfl (lv_at hl 4 rfl) ?_
  refine va_get (D := (dC, dI)) (ci := 1) (v := .ref tb) (C := RX1) (T := TX1) (N := 7) hx hb hts hiX1 hown hK hP 0 rfl rfl 1 (by decide) (hts (.fieldLink RX1 15 "WatchedPrograms$HeapTable" "seconds" "[J") (by decide +kernel)) (fun _ h9 => h9) rfl dX1_put_87 ?_
  refine lv_iload hx hb dX1_put_90 (lv_at hl 0 rfl) ?_
  refine va_lald hx hb hK hP 3 1 rfl rfl (by unfold vp_in; decide) dX1_put_92 ?_
  refine zl (y := 0) (by rfl) ?_
  refine lv_lload_n hx hb dX1_put_93 rfl (lv_at hl 6 rfl) ?_
  refine W.lcmp hx hb dX1_put_94 ?_
  refine zi (y := 0) (by decide) ?_
  refine lv_if_ne (tgt := 105) hx hb dX1_put_95 (by decide) (fun c_7 => absurd (by decide) c_7) (fun _ => ?_)
  refine lv_aload_n hx hb dX1_put_98 rfl (lv_at hl 4 rfl) ?_
  refine lv_iload hx hb dX1_put_99 (lv_at hl 0 rfl) ?_
  have hFc := va_free (wc := [(wt, .inr (1, [.ref ta, .ref tb, .ref tc, .ref td, .int 1, .int 1, .int 0])), (tc, aI cI 4096 (upd (fun _ => 0) 0 0))]) hD hS hA [0, 4] rfl
  refine zCv (wr := [(td, aI cI 8192 (upd (upd (upd (fun _ => 0) 0 0) 1 0) 1 1)), (ta, aJ cJ 4096 (vp_updL (fun _ => 0) 0 1)), (tb, aJ cJ 4096 (vp_updL (fun _ => 0) 0 0))]) hP hD hS hFc [0, 4] [1, 2, 3] rfl rfl (by decide) (by decide) (va_runV (As := [.int 0]) (rest := []) ⟨hx, hb, hml, hown, hts⟩ (c_tgrow0 l dC dI cI cJ cS H.size wt ta tb tc td ) (cwV 1 hts gX1_put_X1_grow rfl rfl rfl (by decide +kernel) ⟨Nat.le_of_ble_eq_true rfl, Nat.le_of_ble_eq_true rfl⟩) (preEV (hP.sub (ws' := [(wt, .inr (1, [.ref ta, .ref tb, .ref tc, .ref td, .int 1, .int 1, .int 0])), (tc, aI cI 4096 (upd (fun _ => 0) 0 0))]) [0, 4] rfl) hE (hD.sub (ws' := [(wt, .inr (1, [.ref ta, .ref tb, .ref tc, .ref td, .int 1, .int 1, .int 0])), (tc, aI cI 4096 (upd (fun _ => 0) 0 0))]) [0, 4] (by decide) rfl) 0 (ci := 1) rfl rfl) rfl rfl hl.1 rfl (lv_room (Nat.le_of_ble_eq_true rfl)) dX1_put_101 ⟨by decide +kernel, by decide +kernel⟩) (fun u_10 H locs hr_9 hP hD hS => ?_)
  try dsimp only at hr_9
  have hP : va_P (dC, dI) vwCl [(td, aI cI 8192 (upd (upd (upd (fun _ => 0) 0 0) 1 0) 1 1)), (ta, aJ cJ 4096 (vp_updL (fun _ => 0) 0 1)), (tb, aJ cJ 4096 (vp_updL (fun _ => 0) 0 0)), (wt, .inr (1, [.ref ta, .ref tb, .ref tc, .ref td, .int 1, .int 1, .int 1])), (tc, aI cI 4096 (upd (upd (fun _ => 0) 0 0) 0 1))] H := hP
  have hD : va_D A [(td, aI cI 8192 (upd (upd (upd (fun _ => 0) 0 0) 1 0) 1 1)), (ta, aJ cJ 4096 (vp_updL (fun _ => 0) 0 1)), (tb, aJ cJ 4096 (vp_updL (fun _ => 0) 0 0)), (wt, .inr (1, [.ref ta, .ref tb, .ref tc, .ref td, .int 1, .int 1, .int 1])), (tc, aI cI 4096 (upd (upd (fun _ => 0) 0 0) 0 1))] := hD
  have hP9 := hP.sub (ws' := [(td, aI cI 8192 (upd (upd (upd (fun _ => 0) 0 0) 1 0) 1 1)), (ta, aJ cJ 4096 (vp_updL (fun _ => 0) 0 1)), (tb, aJ cJ 4096 (vp_updL (fun _ => 0) 0 0)), (wt, .inr (1, [.ref ta, .ref tb, .ref tc, .ref td, .int 1, .int 1, .int 1])), (tc, aI cI 4096 (upd (upd (fun _ => 0) 0 0) 0 1))]) [0, 1, 2, 3, 4] rfl
  have hD9 := hD.sub (ws' := [(td, aI cI 8192 (upd (upd (upd (fun _ => 0) 0 0) 1 0) 1 1)), (ta, aJ cJ 4096 (vp_updL (fun _ => 0) 0 1)), (tb, aJ cJ 4096 (vp_updL (fun _ => 0) 0 0)), (wt, .inr (1, [.ref ta, .ref tb, .ref tc, .ref td, .int 1, .int 1, .int 1])), (tc, aI cI 4096 (upd (upd (fun _ => 0) 0 0) 0 1))]) [0, 1, 2, 3, 4] (by decide) rfl
  exact W.vret hx hb hr (fun tt_ ht hW => ⟨⟨(), rfl, trivial, by rw [ht]; exact hP9, hD9⟩, hS.F ht⟩) hS.2.2 dX1_put_104
set_option maxHeartbeats 1000000 in
set_option maxRecDepth 100000 in
theorem c_topen1 (l : Launch) (dC : Nat → ClassId) (dI : Nat → Nat → Nat) (cI cJ cS : ClassId) (sz : Nat) (wt : Nat) (ta : Nat) (tb : Nat) (tc : Nat) (td : Nat)  : Met l yX1_open wsX1_open ({ frames := 1, cells := 0, slots := 0, locals := 13 }) (va_Pc [.ref wt, .int 1, .long 1, .long 1] (PE dC dI cI cJ cS [(wt, .inr (1, [.ref ta, .ref tb, .ref tc, .ref td, .int 1, .int 0, .int 0])), (td, aI cI 8192 (upd (upd (fun _ => 0) 0 0) 1 0)), (ta, aJ cJ 4096 (fun _ => 0)), (tb, aJ cJ 4096 (fun _ => 0)), (tc, aI cI 4096 (fun _ => 0))] sz)) (va_Qi (fun (r : Int32) (_ : Unit) => r = 0) (BE dC dI (va_A [(wt, .inr (1, [.ref ta, .ref tb, .ref tc, .ref td, .int 1, .int 0, .int 0])), (td, aI cI 8192 (upd (upd (fun _ => 0) 0 0) 1 0)), (ta, aJ cJ 4096 (fun _ => 0)), (tb, aJ cJ 4096 (fun _ => 0)), (tc, aI cI 4096 (fun _ => 0))] sz) (fun (_ : Unit) => [(wt, .inr (1, [.ref ta, .ref tb, .ref tc, .ref td, .int 1, .int 1, .int 0])), (td, aI cI 8192 (upd (upd (upd (fun _ => 0) 0 0) 1 0) 1 1)), (ta, aJ cJ 4096 (vp_updL (fun _ => 0) 0 1)), (tb, aJ cJ 4096 (vp_updL (fun _ => 0) 0 1)), (tc, aI cI 4096 (upd (fun _ => 0) 0 0))])) (va_A [(wt, .inr (1, [.ref ta, .ref tb, .ref tc, .ref td, .int 1, .int 0, .int 0])), (td, aI cI 8192 (upd (upd (fun _ => 0) 0 0) 1 0)), (ta, aJ cJ 4096 (fun _ => 0)), (tb, aJ cJ 4096 (fun _ => 0)), (tc, aI cI 4096 (fun _ => 0))] sz)) 0 0 (va_A [(wt, .inr (1, [.ref ta, .ref tb, .ref tc, .ref td, .int 1, .int 0, .int 0])), (td, aI cI 8192 (upd (upd (fun _ => 0) 0 0) 1 0)), (ta, aJ cJ 4096 (fun _ => 0)), (tb, aJ cJ 4096 (fun _ => 0)), (tc, aI cI 4096 (fun _ => 0))] sz) := by
  refine Met.ofW (cc := cX1_open) (maxL := 7) (ret := (some .int)) (by decide) rfl ?_
  intro pp_ ee_ ss_ mm_ args below meth cc_ s₁ B hml hv
  obtain ⟨rfl, hsz, hP, hE, hD0⟩ := hv
  have hx := B.exec
  have hb := B.bytes
  have hr := B.returns
  have hts := atoms_spec (ws := wsX1_open) B.pre
  have hown : ss_.vm.findClass RX1 = some mm_.cls := findClass_of_methodNamed B.named
  have hlocks := B.notSynchronized
  have hK := hE.1
  have hiX1 : ∀ w ∈ wsX10, w ∈ wsX1_open := by decide +kernel
  subst hsz
  have hD := hD0.self (sz := ss_.heap.size)
  generalize hAe : va_A [(wt, .inr (1, [.ref ta, .ref tb, .ref tc, .ref td, .int 1, .int 0, .int 0])), (td, aI cI 8192 (upd (upd (fun _ => 0) 0 0) 1 0)), (ta, aJ cJ 4096 (fun _ => 0)), (tb, aJ cJ 4096 (fun _ => 0)), (tc, aI cI 4096 (fun _ => 0))] ss_.heap.size = A at hD ⊢
  have hA : ∀ q : Nat, ss_.heap.size ≤ q → A q := fun q h => by rw [← hAe]; exact Or.inr h
  have hS : va_S A ss_.heap ss_.heap [] := va_S.rf
  have hP : va_P (dC, dI) vwCl [(wt, .inr (1, [.ref ta, .ref tb, .ref tc, .ref td, .int 1, .int 0, .int 0])), (td, aI cI 8192 (upd (upd (fun _ => 0) 0 0) 1 0)), (ta, aJ cJ 4096 (fun _ => 0)), (tb, aJ cJ 4096 (fun _ => 0)), (tc, aI cI 4096 (fun _ => 0))] ss_.heap := hP
  have hl := lv_entry ([.ref wt, .int 1, .long 1, .long 1]) (n := 7) (Nat.le_of_ble_eq_true rfl)
  rw [lg_entry_eq]
  generalize (lg_sl ([.ref wt, .int 1, .long 1, .long 1]) ++ List.replicate (7 - (lg_sl ([.ref wt, .int 1, .long 1, .long 1])).length) Slot.unset).toArray = ls at hl ⊢
  have hl : lv_has ls 7 [(0, .ref wt), (1, .int 1), (2, .long 1), (4, .long 1)] := hl
  refine lv_aload_n hx hb dX1_open_0 rfl (lv_at hl 0 rfl) ?_
  refine va_get (D := (dC, dI)) (ci := 1) (v := .int 0) (C := RX1) (T := TX1) (N := 7) hx hb hts hiX1 hown hK hP 0 rfl rfl 5 (by decide) (hts (.fieldLink RX1 35 "WatchedPrograms$HeapTable" "many" "I") (by decide +kernel)) (fun _ h9 => h9) rfl dX1_open_1 ?_
  refine lv_sipush (v := 4095) hx hb dX1_open_4 (by decide) ?_
  refine va_mmin hx hb (hml.trans hl.1.symm) hown (hts (.methodLink RX1 25 Lib.Math.min.name) (by decide +kernel)) (hts (.static Lib.Math.min.name) (by decide +kernel)) (hts (.initialized "java/lang/Math") (by decide +kernel)) (hts (.code Lib.Math.min.name Lib.Math.min.code 2 (some .int)) (by decide +kernel)) (Nat.le_of_ble_eq_true rfl) (Nat.le_of_ble_eq_true rfl) (Nat.le_of_ble_eq_true rfl) (Nat.le_of_ble_eq_true rfl) dX1_open_7 ?_
  refine zi (y := 0) (by decide) ?_
  refine lv_istore (lv' := [(6, .int 0), (0, .ref wt), (1, .int 1), (2, .long 1), (4, .long 1)]) hx hb dX1_open_10 hl (by decide) rfl (fun ls hl => ?_)
  refine lv_aload_n hx hb dX1_open_12 rfl (lv_at hl 1 rfl) ?_
  refine lv_iload hx hb dX1_open_13 (lv_at hl 0 rfl) ?_
  refine lv_iconst (v := 1) hx hb dX1_open_15 (by decide) ?_
  refine lv_iadd hx hb dX1_open_16 ?_
  refine zi (y := 1) (by decide) ?_
  refine va_put (D := (dC, dI)) (ci := 1) (v := .int 1) (ty := .int) (C := RX1) (T := TX1) (N := 7) hx hb hts hiX1 tyX1 tyX1_ok nmX1 hown hK hP hD hS 0 rfl rfl 5 (by decide) (hts (.fieldLink RX1 35 "WatchedPrograms$HeapTable" "many" "I") (by decide +kernel)) (fun _ h9 => h9) rfl (by decide +kernel) rfl rfl (Nat.le_of_ble_eq_true rfl) dX1_open_17 (fun H locs hP hD hS => ?_)
  have hP : va_P (dC, dI) vwCl [(wt, .inr (1, [.ref ta, .ref tb, .ref tc, .ref td, .int 1, .int 1, .int 0])), (td, aI cI 8192 (upd (upd (fun _ => 0) 0 0) 1 0)), (ta, aJ cJ 4096 (fun _ => 0)), (tb, aJ cJ 4096 (fun _ => 0)), (tc, aI cI 4096 (fun _ => 0))] H := hP
  have hD : va_D A [(wt, .inr (1, [.ref ta, .ref tb, .ref tc, .ref td, .int 1, .int 1, .int 0])), (td, aI cI 8192 (upd (upd (fun _ => 0) 0 0) 1 0)), (ta, aJ cJ 4096 (fun _ => 0)), (tb, aJ cJ 4096 (fun _ => 0)), (tc, aI cI 4096 (fun _ => 0))] := hD
  refine lv_aload_n hx hb dX1_open_20 rfl (lv_at hl 1 rfl) ?_
  refine va_get (D := (dC, dI)) (ci := 1) (v := .ref td) (C := RX1) (T := TX1) (N := 7) hx hb hts hiX1 hown hK hP 0 rfl rfl 3 (by decide) (hts (.fieldLink RX1 22 "WatchedPrograms$HeapTable" "slots" "[I") (by decide +kernel)) (fun _ h9 => h9) rfl dX1_open_21 ?_
  refine lv_iload_n hx hb dX1_open_24 rfl (lv_at hl 2 rfl) ?_
  refine lv_aload_n hx hb dX1_open_25 rfl (lv_at hl 1 rfl) ?_
  refine va_get (D := (dC, dI)) (ci := 1) (v := .int 1) (C := RX1) (T := TX1) (N := 7) hx hb hts hiX1 hown hK hP 0 rfl rfl 5 (by decide) (hts (.fieldLink RX1 35 "WatchedPrograms$HeapTable" "many" "I") (by decide +kernel)) (fun _ h9 => h9) rfl dX1_open_26 ?_
  refine va_iast hx hb hK hP hD hS 1 0 rfl rfl (by unfold vp_in; decide) dX1_open_29 (fun H locs hP hD hS => ?_)
  have hP : va_P (dC, dI) vwCl [(wt, .inr (1, [.ref ta, .ref tb, .ref tc, .ref td, .int 1, .int 1, .int 0])), (td, aI cI 8192 (upd (upd (upd (fun _ => 0) 0 0) 1 0) 1 1)), (ta, aJ cJ 4096 (fun _ => 0)), (tb, aJ cJ 4096 (fun _ => 0)), (tc, aI cI 4096 (fun _ => 0))] H := hP
  have hD : va_D A [(wt, .inr (1, [.ref ta, .ref tb, .ref tc, .ref td, .int 1, .int 1, .int 0])), (td, aI cI 8192 (upd (upd (upd (fun _ => 0) 0 0) 1 0) 1 1)), (ta, aJ cJ 4096 (fun _ => 0)), (tb, aJ cJ 4096 (fun _ => 0)), (tc, aI cI 4096 (fun _ => 0))] := hD
  refine lv_aload_n hx hb dX1_open_30 rfl (lv_at hl 1 rfl) ?_
  refine va_get (D := (dC, dI)) (ci := 1) (v := .ref ta) (C := RX1) (T := TX1) (N := 7) hx hb hts hiX1 hown hK hP 0 rfl rfl 0 (by decide) (hts (.fieldLink RX1 11 "WatchedPrograms$HeapTable" "firsts" "[J") (by decide +kernel)) (fun _ h9 => h9) rfl dX1_open_31 ?_
  refine lv_iload hx hb dX1_open_34 (lv_at hl 0 rfl) ?_
  refine lv_lload_n hx hb dX1_open_36 rfl (lv_at hl 3 rfl) ?_
  refine va_last hx hb hK hP hD hS 2 1 rfl rfl (by unfold vp_in; decide) dX1_open_37 (fun H locs hP hD hS => ?_)
  have hP : va_P (dC, dI) vwCl [(wt, .inr (1, [.ref ta, .ref tb, .ref tc, .ref td, .int 1, .int 1, .int 0])), (td, aI cI 8192 (upd (upd (upd (fun _ => 0) 0 0) 1 0) 1 1)), (ta, aJ cJ 4096 (vp_updL (fun _ => 0) 0 1)), (tb, aJ cJ 4096 (fun _ => 0)), (tc, aI cI 4096 (fun _ => 0))] H := hP
  have hD : va_D A [(wt, .inr (1, [.ref ta, .ref tb, .ref tc, .ref td, .int 1, .int 1, .int 0])), (td, aI cI 8192 (upd (upd (upd (fun _ => 0) 0 0) 1 0) 1 1)), (ta, aJ cJ 4096 (vp_updL (fun _ => 0) 0 1)), (tb, aJ cJ 4096 (fun _ => 0)), (tc, aI cI 4096 (fun _ => 0))] := hD
  refine lv_aload_n hx hb dX1_open_38 rfl (lv_at hl 1 rfl) ?_
  refine va_get (D := (dC, dI)) (ci := 1) (v := .ref tb) (C := RX1) (T := TX1) (N := 7) hx hb hts hiX1 hown hK hP 0 rfl rfl 1 (by decide) (hts (.fieldLink RX1 15 "WatchedPrograms$HeapTable" "seconds" "[J") (by decide +kernel)) (fun _ h9 => h9) rfl dX1_open_39 ?_
  refine lv_iload hx hb dX1_open_42 (lv_at hl 0 rfl) ?_
  refine lv_lload hx hb dX1_open_44 (lv_at hl 4 rfl) ?_
  refine va_last hx hb hK hP hD hS 3 1 rfl rfl (by unfold vp_in; decide) dX1_open_46 (fun H locs hP hD hS => ?_)
  have hP : va_P (dC, dI) vwCl [(wt, .inr (1, [.ref ta, .ref tb, .ref tc, .ref td, .int 1, .int 1, .int 0])), (td, aI cI 8192 (upd (upd (upd (fun _ => 0) 0 0) 1 0) 1 1)), (ta, aJ cJ 4096 (vp_updL (fun _ => 0) 0 1)), (tb, aJ cJ 4096 (vp_updL (fun _ => 0) 0 1)), (tc, aI cI 4096 (fun _ => 0))] H := hP
  have hD : va_D A [(wt, .inr (1, [.ref ta, .ref tb, .ref tc, .ref td, .int 1, .int 1, .int 0])), (td, aI cI 8192 (upd (upd (upd (fun _ => 0) 0 0) 1 0) 1 1)), (ta, aJ cJ 4096 (vp_updL (fun _ => 0) 0 1)), (tb, aJ cJ 4096 (vp_updL (fun _ => 0) 0 1)), (tc, aI cI 4096 (fun _ => 0))] := hD
  refine lv_aload_n hx hb dX1_open_47 rfl (lv_at hl 1 rfl) ?_
  refine va_get (D := (dC, dI)) (ci := 1) (v := .ref tc) (C := RX1) (T := TX1) (N := 7) hx hb hts hiX1 hown hK hP 0 rfl rfl 2 (by decide) (hts (.fieldLink RX1 18 "WatchedPrograms$HeapTable" "sizes" "[I") (by decide +kernel)) (fun _ h9 => h9) rfl dX1_open_48 ?_
  refine lv_iload hx hb dX1_open_51 (lv_at hl 0 rfl) ?_
  refine lv_iconst (v := 0) hx hb dX1_open_53 (by decide) ?_
  refine va_iast hx hb hK hP hD hS 4 0 rfl rfl (by unfold vp_in; decide) dX1_open_54 (fun H locs hP hD hS => ?_)
  have hP : va_P (dC, dI) vwCl [(wt, .inr (1, [.ref ta, .ref tb, .ref tc, .ref td, .int 1, .int 1, .int 0])), (td, aI cI 8192 (upd (upd (upd (fun _ => 0) 0 0) 1 0) 1 1)), (ta, aJ cJ 4096 (vp_updL (fun _ => 0) 0 1)), (tb, aJ cJ 4096 (vp_updL (fun _ => 0) 0 1)), (tc, aI cI 4096 (upd (fun _ => 0) 0 0))] H := hP
  have hD : va_D A [(wt, .inr (1, [.ref ta, .ref tb, .ref tc, .ref td, .int 1, .int 1, .int 0])), (td, aI cI 8192 (upd (upd (upd (fun _ => 0) 0 0) 1 0) 1 1)), (ta, aJ cJ 4096 (vp_updL (fun _ => 0) 0 1)), (tb, aJ cJ 4096 (vp_updL (fun _ => 0) 0 1)), (tc, aI cI 4096 (upd (fun _ => 0) 0 0))] := hD
  refine lv_iload hx hb dX1_open_55 (lv_at hl 0 rfl) ?_
  have hP9 := hP.sub (ws' := [(wt, .inr (1, [.ref ta, .ref tb, .ref tc, .ref td, .int 1, .int 1, .int 0])), (td, aI cI 8192 (upd (upd (upd (fun _ => 0) 0 0) 1 0) 1 1)), (ta, aJ cJ 4096 (vp_updL (fun _ => 0) 0 1)), (tb, aJ cJ 4096 (vp_updL (fun _ => 0) 0 1)), (tc, aI cI 4096 (upd (fun _ => 0) 0 0))]) [0, 1, 2, 3, 4] rfl
  have hD9 := hD.sub (ws' := [(wt, .inr (1, [.ref ta, .ref tb, .ref tc, .ref td, .int 1, .int 1, .int 0])), (td, aI cI 8192 (upd (upd (upd (fun _ => 0) 0 0) 1 0) 1 1)), (ta, aJ cJ 4096 (vp_updL (fun _ => 0) 0 1)), (tb, aJ cJ 4096 (vp_updL (fun _ => 0) 0 1)), (tc, aI cI 4096 (upd (fun _ => 0) 0 0))]) [0, 1, 2, 3, 4] (by decide) rfl
  exact W.iret (v := 0) hx hb hr (fun tt_ ht hW => ⟨⟨_, (), rfl, rfl, by rw [ht]; exact hP9, hD9⟩, hS.F ht⟩) hS.2.2 dX1_open_57
set_option maxHeartbeats 1000000 in
set_option maxRecDepth 100000 in
theorem c_tgrow1 (l : Launch) (dC : Nat → ClassId) (dI : Nat → Nat → Nat) (cI cJ cS : ClassId) (sz : Nat) (wt : Nat) (ta : Nat) (tb : Nat) (tc : Nat) (td : Nat)  : Met l yX1_grow wsX1_grow ({ frames := 1, cells := 0, slots := 0, locals := 14 }) (va_Pc [.ref wt, .int 0] (PE dC dI cI cJ cS [(wt, .inr (1, [.ref ta, .ref tb, .ref tc, .ref td, .int 1, .int 1, .int 0])), (tc, aI cI 4096 (upd (fun _ => 0) 0 0))] sz)) (va_Qv (fun (_ : Unit) => True) (BE dC dI (va_A [(wt, .inr (1, [.ref ta, .ref tb, .ref tc, .ref td, .int 1, .int 1, .int 0])), (tc, aI cI 4096 (upd (fun _ => 0) 0 0))] sz) (fun (_ : Unit) => [(wt, .inr (1, [.ref ta, .ref tb, .ref tc, .ref td, .int 1, .int 1, .int 1])), (tc, aI cI 4096 (upd (upd (fun _ => 0) 0 0) 0 1))])) (va_A [(wt, .inr (1, [.ref ta, .ref tb, .ref tc, .ref td, .int 1, .int 1, .int 0])), (tc, aI cI 4096 (upd (fun _ => 0) 0 0))] sz)) 0 0 (va_A [(wt, .inr (1, [.ref ta, .ref tb, .ref tc, .ref td, .int 1, .int 1, .int 0])), (tc, aI cI 4096 (upd (fun _ => 0) 0 0))] sz) := by
  refine Met.ofW (cc := cX1_grow) (maxL := 2) (ret := none) (by decide) rfl ?_
  intro pp_ ee_ ss_ mm_ args below meth cc_ s₁ B hml hv
  obtain ⟨rfl, hsz, hP, hE, hD0⟩ := hv
  have hx := B.exec
  have hb := B.bytes
  have hr := B.returns
  have hts := atoms_spec (ws := wsX1_grow) B.pre
  have hown : ss_.vm.findClass RX1 = some mm_.cls := findClass_of_methodNamed B.named
  have hlocks := B.notSynchronized
  have hK := hE.1
  have hiX1 : ∀ w ∈ wsX10, w ∈ wsX1_grow := by decide +kernel
  subst hsz
  have hD := hD0.self (sz := ss_.heap.size)
  generalize hAe : va_A [(wt, .inr (1, [.ref ta, .ref tb, .ref tc, .ref td, .int 1, .int 1, .int 0])), (tc, aI cI 4096 (upd (fun _ => 0) 0 0))] ss_.heap.size = A at hD ⊢
  have hA : ∀ q : Nat, ss_.heap.size ≤ q → A q := fun q h => by rw [← hAe]; exact Or.inr h
  have hS : va_S A ss_.heap ss_.heap [] := va_S.rf
  have hP : va_P (dC, dI) vwCl [(wt, .inr (1, [.ref ta, .ref tb, .ref tc, .ref td, .int 1, .int 1, .int 0])), (tc, aI cI 4096 (upd (fun _ => 0) 0 0))] ss_.heap := hP
  have hl := lv_entry ([.ref wt, .int 0]) (n := 2) (Nat.le_of_ble_eq_true rfl)
  rw [lg_entry_eq]
  generalize (lg_sl ([.ref wt, .int 0]) ++ List.replicate (2 - (lg_sl ([.ref wt, .int 0])).length) Slot.unset).toArray = ls at hl ⊢
  have hl : lv_has ls 2 [(0, .ref wt), (1, .int 0)] := hl
  refine lv_aload_n hx hb dX1_grow_0 rfl (lv_at hl 0 rfl) ?_
  refine va_get (D := (dC, dI)) (ci := 1) (v := .ref tc) (C := RX1) (T := TX1) (N := 7) hx hb hts hiX1 hown hK hP 0 rfl rfl 2 (by decide) (hts (.fieldLink RX1 18 "WatchedPrograms$HeapTable" "sizes" "[I") (by decide +kernel)) (fun _ h9 => h9) rfl dX1_grow_1 ?_
  refine lv_iload_n hx hb dX1_grow_4 rfl (lv_at hl 1 rfl) ?_
  refine lv_dup2_11 hx hb dX1_grow_5 rfl rfl ?_
  refine va_iald hx hb hK hP 1 0 rfl rfl (by unfold vp_in; decide) dX1_grow_6 ?_
  refine zi (y := 0) (by rfl) ?_
  refine lv_iconst (v := 1) hx hb dX1_grow_7 (by decide) ?_
  refine lv_iadd hx hb dX1_grow_8 ?_
  refine zi (y := 1) (by decide) ?_
  refine va_iast hx hb hK hP hD hS 1 0 rfl rfl (by unfold vp_in; decide) dX1_grow_9 (fun H locs hP hD hS => ?_)
  have hP : va_P (dC, dI) vwCl [(wt, .inr (1, [.ref ta, .ref tb, .ref tc, .ref td, .int 1, .int 1, .int 0])), (tc, aI cI 4096 (upd (upd (fun _ => 0) 0 0) 0 1))] H := hP
  have hD : va_D A [(wt, .inr (1, [.ref ta, .ref tb, .ref tc, .ref td, .int 1, .int 1, .int 0])), (tc, aI cI 4096 (upd (upd (fun _ => 0) 0 0) 0 1))] := hD
  refine lv_aload_n hx hb dX1_grow_10 rfl (lv_at hl 0 rfl) ?_
  refine lv_aload_n hx hb dX1_grow_11 rfl (lv_at hl 0 rfl) ?_
  refine va_get (D := (dC, dI)) (ci := 1) (v := .int 0) (C := RX1) (T := TX1) (N := 7) hx hb hts hiX1 hown hK hP 0 rfl rfl 6 (by decide) (hts (.fieldLink RX1 38 "WatchedPrograms$HeapTable" "greatest" "I") (by decide +kernel)) (fun _ h9 => h9) rfl dX1_grow_12 ?_
  refine lv_aload_n hx hb dX1_grow_15 rfl (lv_at hl 0 rfl) ?_
  refine va_get (D := (dC, dI)) (ci := 1) (v := .ref tc) (C := RX1) (T := TX1) (N := 7) hx hb hts hiX1 hown hK hP 0 rfl rfl 2 (by decide) (hts (.fieldLink RX1 18 "WatchedPrograms$HeapTable" "sizes" "[I") (by decide +kernel)) (fun _ h9 => h9) rfl dX1_grow_16 ?_
  refine lv_iload_n hx hb dX1_grow_19 rfl (lv_at hl 1 rfl) ?_
  refine va_iald hx hb hK hP 1 0 rfl rfl (by unfold vp_in; decide) dX1_grow_20 ?_
  refine zi (y := 1) (by rfl) ?_
  refine va_mmax hx hb (hml.trans hl.1.symm) hown (hts (.methodLink RX1 53 Lib.Math.max.name) (by decide +kernel)) (hts (.static Lib.Math.max.name) (by decide +kernel)) (hts (.initialized "java/lang/Math") (by decide +kernel)) (hts (.code Lib.Math.max.name Lib.Math.max.code 2 (some .int)) (by decide +kernel)) (Nat.le_of_ble_eq_true rfl) (Nat.le_of_ble_eq_true rfl) (Nat.le_of_ble_eq_true rfl) (Nat.le_of_ble_eq_true rfl) dX1_grow_21 ?_
  refine zi (y := 1) (by decide) ?_
  refine va_put (D := (dC, dI)) (ci := 1) (v := .int 1) (ty := .int) (C := RX1) (T := TX1) (N := 7) hx hb hts hiX1 tyX1 tyX1_ok nmX1 hown hK hP hD hS 0 rfl rfl 6 (by decide) (hts (.fieldLink RX1 38 "WatchedPrograms$HeapTable" "greatest" "I") (by decide +kernel)) (fun _ h9 => h9) rfl (by decide +kernel) rfl rfl (Nat.le_of_ble_eq_true rfl) dX1_grow_24 (fun H locs hP hD hS => ?_)
  have hP : va_P (dC, dI) vwCl [(wt, .inr (1, [.ref ta, .ref tb, .ref tc, .ref td, .int 1, .int 1, .int 1])), (tc, aI cI 4096 (upd (upd (fun _ => 0) 0 0) 0 1))] H := hP
  have hD : va_D A [(wt, .inr (1, [.ref ta, .ref tb, .ref tc, .ref td, .int 1, .int 1, .int 1])), (tc, aI cI 4096 (upd (upd (fun _ => 0) 0 0) 0 1))] := hD
  have hP9 := hP.sub (ws' := [(wt, .inr (1, [.ref ta, .ref tb, .ref tc, .ref td, .int 1, .int 1, .int 1])), (tc, aI cI 4096 (upd (upd (fun _ => 0) 0 0) 0 1))]) [0, 1] rfl
  have hD9 := hD.sub (ws' := [(wt, .inr (1, [.ref ta, .ref tb, .ref tc, .ref td, .int 1, .int 1, .int 1])), (tc, aI cI 4096 (upd (upd (fun _ => 0) 0 0) 0 1))]) [0, 1] (by decide) rfl
  exact W.vret hx hb hr (fun tt_ ht hW => ⟨⟨(), rfl, trivial, by rw [ht]; exact hP9, hD9⟩, hS.F ht⟩) hS.2.2 dX1_grow_27
set_option maxHeartbeats 1000000 in
set_option maxRecDepth 100000 in
theorem c_tput1 (l : Launch) (dC : Nat → ClassId) (dI : Nat → Nat → Nat) (cI cJ cS : ClassId) (sz : Nat) (wt : Nat) (ta : Nat) (tb : Nat) (tc : Nat) (td : Nat)  : Met l yX1_put wsX1_put ({ frames := 2, cells := 0, slots := 0, locals := 39 }) (va_Pc [.ref wt, .long 1, .long 1] (PE dC dI cI cJ cS [(wt, .inr (1, [.ref ta, .ref tb, .ref tc, .ref td, .int 1, .int 0, .int 0])), (td, aI cI 8192 (upd (upd (fun _ => 0) 0 0) 1 0)), (ta, aJ cJ 4096 (fun _ => 0)), (tb, aJ cJ 4096 (fun _ => 0)), (tc, aI cI 4096 (fun _ => 0))] sz)) (va_Qv (fun (_ : Unit) => True) (BE dC dI (va_A [(wt, .inr (1, [.ref ta, .ref tb, .ref tc, .ref td, .int 1, .int 0, .int 0])), (td, aI cI 8192 (upd (upd (fun _ => 0) 0 0) 1 0)), (ta, aJ cJ 4096 (fun _ => 0)), (tb, aJ cJ 4096 (fun _ => 0)), (tc, aI cI 4096 (fun _ => 0))] sz) (fun (_ : Unit) => [(td, aI cI 8192 (upd (upd (upd (fun _ => 0) 0 0) 1 0) 1 1)), (ta, aJ cJ 4096 (vp_updL (fun _ => 0) 0 1)), (tb, aJ cJ 4096 (vp_updL (fun _ => 0) 0 1)), (wt, .inr (1, [.ref ta, .ref tb, .ref tc, .ref td, .int 1, .int 1, .int 1])), (tc, aI cI 4096 (upd (upd (fun _ => 0) 0 0) 0 1))])) (va_A [(wt, .inr (1, [.ref ta, .ref tb, .ref tc, .ref td, .int 1, .int 0, .int 0])), (td, aI cI 8192 (upd (upd (fun _ => 0) 0 0) 1 0)), (ta, aJ cJ 4096 (fun _ => 0)), (tb, aJ cJ 4096 (fun _ => 0)), (tc, aI cI 4096 (fun _ => 0))] sz)) 0 0 (va_A [(wt, .inr (1, [.ref ta, .ref tb, .ref tc, .ref td, .int 1, .int 0, .int 0])), (td, aI cI 8192 (upd (upd (fun _ => 0) 0 0) 1 0)), (ta, aJ cJ 4096 (fun _ => 0)), (tb, aJ cJ 4096 (fun _ => 0)), (tc, aI cI 4096 (fun _ => 0))] sz) := by
  refine Met.ofW (cc := cX1_put) (maxL := 10) (ret := none) (by decide) rfl ?_
  intro pp_ ee_ ss_ mm_ args below meth cc_ s₁ B hml hv
  obtain ⟨rfl, hsz, hP, hE, hD0⟩ := hv
  have hx := B.exec
  have hb := B.bytes
  have hr := B.returns
  have hts := atoms_spec (ws := wsX1_put) B.pre
  have hown : ss_.vm.findClass RX1 = some mm_.cls := findClass_of_methodNamed B.named
  have hlocks := B.notSynchronized
  have hK := hE.1
  have hiX1 : ∀ w ∈ wsX10, w ∈ wsX1_put := by decide +kernel
  subst hsz
  have hD := hD0.self (sz := ss_.heap.size)
  generalize hAe : va_A [(wt, .inr (1, [.ref ta, .ref tb, .ref tc, .ref td, .int 1, .int 0, .int 0])), (td, aI cI 8192 (upd (upd (fun _ => 0) 0 0) 1 0)), (ta, aJ cJ 4096 (fun _ => 0)), (tb, aJ cJ 4096 (fun _ => 0)), (tc, aI cI 4096 (fun _ => 0))] ss_.heap.size = A at hD ⊢
  have hA : ∀ q : Nat, ss_.heap.size ≤ q → A q := fun q h => by rw [← hAe]; exact Or.inr h
  have hS : va_S A ss_.heap ss_.heap [] := va_S.rf
  have hP : va_P (dC, dI) vwCl [(wt, .inr (1, [.ref ta, .ref tb, .ref tc, .ref td, .int 1, .int 0, .int 0])), (td, aI cI 8192 (upd (upd (fun _ => 0) 0 0) 1 0)), (ta, aJ cJ 4096 (fun _ => 0)), (tb, aJ cJ 4096 (fun _ => 0)), (tc, aI cI 4096 (fun _ => 0))] ss_.heap := hP
  have hl := lv_entry ([.ref wt, .long 1, .long 1]) (n := 10) (Nat.le_of_ble_eq_true rfl)
  rw [lg_entry_eq]
  generalize (lg_sl ([.ref wt, .long 1, .long 1]) ++ List.replicate (10 - (lg_sl ([.ref wt, .long 1, .long 1])).length) Slot.unset).toArray = ls at hl ⊢
  have hl : lv_has ls 10 [(0, .ref wt), (1, .long 1), (3, .long 1)] := hl
  refine lv_lload_n hx hb dX1_put_0 rfl (lv_at hl 1 rfl) ?_
  refine lv_lload_n hx hb dX1_put_1 rfl (lv_at hl 1 rfl) ?_
  refine lv_bipush (v := 32) hx hb dX1_put_2 (by decide) ?_
  refine lv_lushr (v := 0) hx hb dX1_put_4 (by decide) ?_
  refine lv_lxor hx hb dX1_put_5 ?_
  refine zl (y := 1) (by decide) ?_
  refine lv_ldc2 (v := (-7046029254386353131)) hx hb hown (hts (.constantLong RX1 41 (-7046029254386353131)) (by decide +kernel)) dX1_put_6 ?_
  refine lv_lmul hx hb dX1_put_9 ?_
  refine zl (y := (-7046029254386353131)) (by decide) ?_
  refine lv_lload_n hx hb dX1_put_10 rfl (lv_at hl 2 rfl) ?_
  refine lv_lload_n hx hb dX1_put_11 rfl (lv_at hl 2 rfl) ?_
  refine lv_bipush (v := 32) hx hb dX1_put_12 (by decide) ?_
  refine lv_lushr (v := 0) hx hb dX1_put_14 (by decide) ?_
  refine lv_lxor hx hb dX1_put_15 ?_
  refine zl (y := 1) (by decide) ?_
  refine lv_ldc2 (v := (-4417276706812531889)) hx hb hown (hts (.constantLong RX1 43 (-4417276706812531889)) (by decide +kernel)) dX1_put_16 ?_
  refine lv_lmul hx hb dX1_put_19 ?_
  refine zl (y := (-4417276706812531889)) (by decide) ?_
  refine lv_ladd hx hb dX1_put_20 ?_
  refine zl (y := 6983438112510666596) (by decide) ?_
  refine lv_lstore (lv' := [(5, .long 6983438112510666596), (0, .ref wt), (1, .long 1), (3, .long 1)]) hx hb dX1_put_21 hl (by decide) rfl (fun ls hl => ?_)
  refine lv_lload hx hb dX1_put_23 (lv_at hl 0 rfl) ?_
  refine lv_bipush (v := 40) hx hb dX1_put_25 (by decide) ?_
  refine lv_lushr (v := 6351399) hx hb dX1_put_27 (by decide) ?_
  refine lv_l2i (v := 6351399) hx hb dX1_put_28 (by decide) ?_
  refine lv_aload_n hx hb dX1_put_29 rfl (lv_at hl 1 rfl) ?_
  refine va_get (D := (dC, dI)) (ci := 1) (v := .int 1) (C := RX1) (T := TX1) (N := 7) hx hb hts hiX1 hown hK hP 0 rfl rfl 4 (by decide) (hts (.fieldLink RX1 31 "WatchedPrograms$HeapTable" "slotMask" "I") (by decide +kernel)) (fun _ h9 => h9) rfl dX1_put_30 ?_
  refine lv_iand hx hb dX1_put_33 ?_
  refine zi (y := 1) (by decide) ?_
  refine lv_istore (lv' := [(7, .int 1), (5, .long 6983438112510666596), (0, .ref wt), (1, .long 1), (3, .long 1)]) hx hb dX1_put_34 hl (by decide) rfl (fun ls hl => ?_)
  refine lv_iconst (v := 0) hx hb dX1_put_36 (by decide) ?_
  refine lv_istore (lv' := [(8, .int 0), (7, .int 1), (5, .long 6983438112510666596), (0, .ref wt), (1, .long 1), (3, .long 1)]) hx hb dX1_put_37 hl (by decide) rfl (fun ls hl => ?_)
  refine lv_iload hx hb dX1_put_39 (lv_at hl 0 rfl) ?_
  refine lv_aload_n hx hb dX1_put_41 rfl (lv_at hl 3 rfl) ?_
  refine va_get (D := (dC, dI)) (ci := 1) (v := .int 1) (C := RX1) (T := TX1) (N := 7) hx hb hts hiX1 hown hK hP 0 rfl rfl 4 (by decide) (hts (.fieldLink RX1 31 "WatchedPrograms$HeapTable" "slotMask" "I") (by decide +kernel)) (fun _ h9 => h9) rfl dX1_put_42 ?_
  refine lv_icmp_gt (tgt := 122) hx hb dX1_put_45 (by decide) (fun c_1 => absurd c_1 (by decide)) (fun _ => ?_)
  refine lv_aload_n hx hb dX1_put_48 rfl (lv_at hl 3 rfl) ?_
  refine va_get (D := (dC, dI)) (ci := 1) (v := .ref td) (C := RX1) (T := TX1) (N := 7) hx hb hts hiX1 hown hK hP 0 rfl rfl 3 (by decide) (hts (.fieldLink RX1 22 "WatchedPrograms$HeapTable" "slots" "[I") (by decide +kernel)) (fun _ h9 => h9) rfl dX1_put_49 ?_
  refine lv_iload hx hb dX1_put_52 (lv_at hl 1 rfl) ?_
  refine va_iald hx hb hK hP 1 0 rfl rfl (by unfold vp_in; decide) dX1_put_54 ?_
  refine zi (y := 0) (by rfl) ?_
  refine lv_iconst (v := 1) hx hb dX1_put_55 (by decide) ?_
  refine lv_isub hx hb dX1_put_56 ?_
  refine zi (y := (-1)) (by decide) ?_
  refine lv_istore (lv' := [(9, .int (-1)), (8, .int 0), (7, .int 1), (5, .long 6983438112510666596), (0, .ref wt), (1, .long 1), (3, .long 1)]) hx hb dX1_put_57 hl (by decide) rfl (fun ls hl => ?_)
  refine lv_iload hx hb dX1_put_59 (lv_at hl 0 rfl) ?_
  refine lv_if_ge (tgt := 74) hx hb dX1_put_61 (by decide) (fun c_2 => absurd c_2 (by decide)) (fun _ => ?_)
  refine lv_aload_n hx hb dX1_put_64 rfl (lv_at hl 4 rfl) ?_
  refine lv_iload hx hb dX1_put_65 (lv_at hl 2 rfl) ?_
  refine lv_lload_n hx hb dX1_put_67 rfl (lv_at hl 5 rfl) ?_
  refine lv_lload_n hx hb dX1_put_68 rfl (lv_at hl 6 rfl) ?_
  have hFc := va_free (wc := [(wt, .inr (1, [.ref ta, .ref tb, .ref tc, .ref td, .int 1, .int 0, .int 0])), (td, aI cI 8192 (upd (upd (fun _ => 0) 0 0) 1 0)), (ta, aJ cJ 4096 (fun _ => 0)), (tb, aJ cJ 4096 (fun _ => 0)), (tc, aI cI 4096 (fun _ => 0))]) hD hS hA [0, 1, 2, 3, 4] rfl
  refine zCi (wr := []) hP hD hS hFc [0, 1, 2, 3, 4] [] rfl rfl (by decide) (by decide) (va_runV (As := [.int 1, .long 1, .long 1]) (rest := []) ⟨hx, hb, hml, hown, hts⟩ (c_topen1 l dC dI cI cJ cS ss_.heap.size wt ta tb tc td ) (cwV 3 hts gX1_put_X1_open rfl rfl rfl (by decide +kernel) ⟨Nat.le_of_ble_eq_true rfl, Nat.le_of_ble_eq_true rfl⟩) (preEV (hP.sub (ws' := [(wt, .inr (1, [.ref ta, .ref tb, .ref tc, .ref td, .int 1, .int 0, .int 0])), (td, aI cI 8192 (upd (upd (fun _ => 0) 0 0) 1 0)), (ta, aJ cJ 4096 (fun _ => 0)), (tb, aJ cJ 4096 (fun _ => 0)), (tc, aI cI 4096 (fun _ => 0))]) [0, 1, 2, 3, 4] rfl) hE (hD.sub (ws' := [(wt, .inr (1, [.ref ta, .ref tb, .ref tc, .ref td, .int 1, .int 0, .int 0])), (td, aI cI 8192 (upd (upd (fun _ => 0) 0 0) 1 0)), (ta, aJ cJ 4096 (fun _ => 0)), (tb, aJ cJ 4096 (fun _ => 0)), (tc, aI cI 4096 (fun _ => 0))]) [0, 1, 2, 3, 4] (by decide) rfl) 0 (ci := 1) rfl rfl) rfl rfl hl.1 rfl (lv_room (Nat.le_of_ble_eq_true rfl)) dX1_put_69 ⟨by decide +kernel, by decide +kernel⟩) (fun r_3 u_5 H locs hr_4 hP hD hS => ?_)
  try dsimp only at hr_4
  have hP : va_P (dC, dI) vwCl [(wt, .inr (1, [.ref ta, .ref tb, .ref tc, .ref td, .int 1, .int 1, .int 0])), (td, aI cI 8192 (upd (upd (upd (fun _ => 0) 0 0) 1 0) 1 1)), (ta, aJ cJ 4096 (vp_updL (fun _ => 0) 0 1)), (tb, aJ cJ 4096 (vp_updL (fun _ => 0) 0 1)), (tc, aI cI 4096 (upd (fun _ => 0) 0 0))] H := hP
  have hD : va_D A [(wt, .inr (1, [.ref ta, .ref tb, .ref tc, .ref td, .int 1, .int 1, .int 0])), (td, aI cI 8192 (upd (upd (upd (fun _ => 0) 0 0) 1 0) 1 1)), (ta, aJ cJ 4096 (vp_updL (fun _ => 0) 0 1)), (tb, aJ cJ 4096 (vp_updL (fun _ => 0) 0 1)), (tc, aI cI 4096 (upd (fun _ => 0) 0 0))] := hD
  obtain rfl := hr_4
  refine lv_istore (lv' := [(9, .int 0), (8, .int 0), (7, .int 1), (5, .long 6983438112510666596), (0, .ref wt), (1, .long 1), (3, .long 1)]) hx hb dX1_put_72 hl (by decide) rfl (fun ls hl => ?_)
  refine lv_aload_n hx hb dX1_put_74 rfl (lv_at hl 4 rfl) ?_
  refine va_get (D := (dC, dI)) (ci := 1) (v := .ref ta) (C := RX1) (T := TX1) (N := 7) hx hb hts hiX1 hown hK hP 0 rfl rfl 0 (by decide) (hts (.fieldLink RX1 11 "WatchedPrograms$HeapTable" "firsts" "[J") (by decide +kernel)) (fun _ h9 => h9) rfl dX1_put_75 ?_
  refine lv_iload hx hb dX1_put_78 (lv_at hl 0 rfl) ?_
  refine va_lald hx hb hK hP 2 1 rfl rfl (by unfold vp_in; decide) dX1_put_80 ?_
  refine zl (y := 1) (by rfl) ?_
  refine lv_lload_n hx hb dX1_put_81 rfl (lv_at hl 5 rfl) ?_
  refine W.lcmp hx hb dX1_put_82 ?_
  refine zi (y := 0) (by decide) ?_
  refine lv_if_ne (tgt := 105) hx hb dX1_put_83 (by decide) (fun c_6 => absurd (by decide) c_6) (fun _ => ?_)
  refine lv_aload_n hx hb dX1_put_86 rfl (lv_at hl 4 rfl) ?_
  refine va_get (D := (dC, dI)) (ci := 1) (v := .ref tb) (C := RX1) (T := TX1) (N := 7) hx hb hts hiX1 hown hK hP 0 rfl rfl 1 (by decide) (hts (.fieldLink RX1 15 "WatchedPrograms$HeapTable" "seconds" "[J") (by decide +kernel)) (fun _ h9 => h9) rfl dX1_put_87 ?_
  refine lv_iload hx hb dX1_put_90 (lv_at hl 0 rfl) ?_
  refine va_lald hx hb hK hP 3 1 rfl rfl (by unfold vp_in; decide) dX1_put_92 ?_
  refine zl (y := 1) (by rfl) ?_
  refine lv_lload_n hx hb dX1_put_93 rfl (lv_at hl 6 rfl) ?_
  refine W.lcmp hx hb dX1_put_94 ?_
  refine zi (y := 0) (by decide) ?_
  refine lv_if_ne (tgt := 105) hx hb dX1_put_95 (by decide) (fun c_7 => absurd (by decide) c_7) (fun _ => ?_)
  refine lv_aload_n hx hb dX1_put_98 rfl (lv_at hl 4 rfl) ?_
  refine lv_iload hx hb dX1_put_99 (lv_at hl 0 rfl) ?_
  have hFc := va_free (wc := [(wt, .inr (1, [.ref ta, .ref tb, .ref tc, .ref td, .int 1, .int 1, .int 0])), (tc, aI cI 4096 (upd (fun _ => 0) 0 0))]) hD hS hA [0, 4] rfl
  refine zCv (wr := [(td, aI cI 8192 (upd (upd (upd (fun _ => 0) 0 0) 1 0) 1 1)), (ta, aJ cJ 4096 (vp_updL (fun _ => 0) 0 1)), (tb, aJ cJ 4096 (vp_updL (fun _ => 0) 0 1))]) hP hD hS hFc [0, 4] [1, 2, 3] rfl rfl (by decide) (by decide) (va_runV (As := [.int 0]) (rest := []) ⟨hx, hb, hml, hown, hts⟩ (c_tgrow0 l dC dI cI cJ cS H.size wt ta tb tc td ) (cwV 1 hts gX1_put_X1_grow rfl rfl rfl (by decide +kernel) ⟨Nat.le_of_ble_eq_true rfl, Nat.le_of_ble_eq_true rfl⟩) (preEV (hP.sub (ws' := [(wt, .inr (1, [.ref ta, .ref tb, .ref tc, .ref td, .int 1, .int 1, .int 0])), (tc, aI cI 4096 (upd (fun _ => 0) 0 0))]) [0, 4] rfl) hE (hD.sub (ws' := [(wt, .inr (1, [.ref ta, .ref tb, .ref tc, .ref td, .int 1, .int 1, .int 0])), (tc, aI cI 4096 (upd (fun _ => 0) 0 0))]) [0, 4] (by decide) rfl) 0 (ci := 1) rfl rfl) rfl rfl hl.1 rfl (lv_room (Nat.le_of_ble_eq_true rfl)) dX1_put_101 ⟨by decide +kernel, by decide +kernel⟩) (fun u_10 H locs hr_9 hP hD hS => ?_)
  try dsimp only at hr_9
  have hP : va_P (dC, dI) vwCl [(td, aI cI 8192 (upd (upd (upd (fun _ => 0) 0 0) 1 0) 1 1)), (ta, aJ cJ 4096 (vp_updL (fun _ => 0) 0 1)), (tb, aJ cJ 4096 (vp_updL (fun _ => 0) 0 1)), (wt, .inr (1, [.ref ta, .ref tb, .ref tc, .ref td, .int 1, .int 1, .int 1])), (tc, aI cI 4096 (upd (upd (fun _ => 0) 0 0) 0 1))] H := hP
  have hD : va_D A [(td, aI cI 8192 (upd (upd (upd (fun _ => 0) 0 0) 1 0) 1 1)), (ta, aJ cJ 4096 (vp_updL (fun _ => 0) 0 1)), (tb, aJ cJ 4096 (vp_updL (fun _ => 0) 0 1)), (wt, .inr (1, [.ref ta, .ref tb, .ref tc, .ref td, .int 1, .int 1, .int 1])), (tc, aI cI 4096 (upd (upd (fun _ => 0) 0 0) 0 1))] := hD
  have hP9 := hP.sub (ws' := [(td, aI cI 8192 (upd (upd (upd (fun _ => 0) 0 0) 1 0) 1 1)), (ta, aJ cJ 4096 (vp_updL (fun _ => 0) 0 1)), (tb, aJ cJ 4096 (vp_updL (fun _ => 0) 0 1)), (wt, .inr (1, [.ref ta, .ref tb, .ref tc, .ref td, .int 1, .int 1, .int 1])), (tc, aI cI 4096 (upd (upd (fun _ => 0) 0 0) 0 1))]) [0, 1, 2, 3, 4] rfl
  have hD9 := hD.sub (ws' := [(td, aI cI 8192 (upd (upd (upd (fun _ => 0) 0 0) 1 0) 1 1)), (ta, aJ cJ 4096 (vp_updL (fun _ => 0) 0 1)), (tb, aJ cJ 4096 (vp_updL (fun _ => 0) 0 1)), (wt, .inr (1, [.ref ta, .ref tb, .ref tc, .ref td, .int 1, .int 1, .int 1])), (tc, aI cI 4096 (upd (upd (fun _ => 0) 0 0) 0 1))]) [0, 1, 2, 3, 4] (by decide) rfl
  exact W.vret hx hb hr (fun tt_ ht hW => ⟨⟨(), rfl, trivial, by rw [ht]; exact hP9, hD9⟩, hS.F ht⟩) hS.2.2 dX1_put_104
set_option maxHeartbeats 1000000 in
set_option maxRecDepth 100000 in
theorem c_countHeaps0 (l : Launch) (dC : Nat → ClassId) (dI : Nat → Nat → Nat) (cI cJ cS : ClassId) (sz : Nat) (x5 : Nat) (o : Int32) (wm : Nat) (wt : Nat) (wv : Nat) (wk : Nat) (we : Nat) (wf : Nat) (p : Nat) (g : Int32) (na : Nat) (nb : Nat) (ps : Nat) (pc : Nat) (ta : Nat) (tb : Nat) (tc : Nat) (td : Nat)  : Met l yX8_countHeaps wsX8_countHeaps ({ frames := 4, cells := 0, slots := 0, locals := 83 }) (va_Pc [.ref x5, .int o] (PE dC dI cI cJ cS [(x5, .inr (8, [.ref wm, .ref wt, .ref wv, .ref wk, .int 1, .ref we, .ref wf, .int 0, .ref p, .int g, .long 9007199254740991, .int 4095, .int 0, .int 0, .int 0, .int 0, .int 0])), (wm, .inr (2, [.ref na, .ref nb, .int 0, .int 0, .int 0])), (p, .inr (4, [.ref ps, .ref pc, .int 0, .int 0, .int 0, .int 0])), (wv, aJ cJ 16384 (fun _ => 0)), (wk, aI cI 4096 (fun _ => 0)), (wt, .inr (1, [.ref ta, .ref tb, .ref tc, .ref td, .int 0, .int 0, .int 0])), (td, aI cI 8192 (fun _ => 0)), (ta, aJ cJ 4096 (fun _ => 0)), (tb, aJ cJ 4096 (fun _ => 0)), (tc, aI cI 4096 (fun _ => 0))] sz)) (va_Qi (fun (r : Int32) (_ : Unit) => r = 1) (BE dC dI (va_A [(x5, .inr (8, [.ref wm, .ref wt, .ref wv, .ref wk, .int 1, .ref we, .ref wf, .int 0, .ref p, .int g, .long 9007199254740991, .int 4095, .int 0, .int 0, .int 0, .int 0, .int 0])), (wm, .inr (2, [.ref na, .ref nb, .int 0, .int 0, .int 0])), (p, .inr (4, [.ref ps, .ref pc, .int 0, .int 0, .int 0, .int 0])), (wv, aJ cJ 16384 (fun _ => 0)), (wk, aI cI 4096 (fun _ => 0)), (wt, .inr (1, [.ref ta, .ref tb, .ref tc, .ref td, .int 0, .int 0, .int 0])), (td, aI cI 8192 (fun _ => 0)), (ta, aJ cJ 4096 (fun _ => 0)), (tb, aJ cJ 4096 (fun _ => 0)), (tc, aI cI 4096 (fun _ => 0))] sz) (fun (_ : Unit) => [(x5, .inr (8, [.ref wm, .ref wt, .ref wv, .ref wk, .int 1, .ref we, .ref wf, .int 0, .ref p, .int g, .long 9007199254740991, .int 4095, .int 0, .int 0, .int 0, .int 0, .int 0])), (wv, aJ cJ 16384 (vp_updL (vp_updL (vp_updL (vp_updL (fun _ => 0) 0 1) 4096 1) 8192 1) 12288 1)), (wk, aI cI 4096 (upd (fun _ => 0) 0 1)), (wm, .inr (2, [.ref na, .ref nb, .int 0, .int 0, .int 0])), (p, .inr (4, [.ref ps, .ref pc, .int 0, .int 0, .int 0, .int 0])), (td, aI cI 8192 (upd (upd (upd (fun _ => 0) 0 0) 1 0) 1 1)), (ta, aJ cJ 4096 (vp_updL (fun _ => 0) 0 1)), (tb, aJ cJ 4096 (vp_updL (fun _ => 0) 0 0)), (wt, .inr (1, [.ref ta, .ref tb, .ref tc, .ref td, .int 1, .int 1, .int 1])), (tc, aI cI 4096 (upd (upd (fun _ => 0) 0 0) 0 1))])) (va_A [(x5, .inr (8, [.ref wm, .ref wt, .ref wv, .ref wk, .int 1, .ref we, .ref wf, .int 0, .ref p, .int g, .long 9007199254740991, .int 4095, .int 0, .int 0, .int 0, .int 0, .int 0])), (wm, .inr (2, [.ref na, .ref nb, .int 0, .int 0, .int 0])), (p, .inr (4, [.ref ps, .ref pc, .int 0, .int 0, .int 0, .int 0])), (wv, aJ cJ 16384 (fun _ => 0)), (wk, aI cI 4096 (fun _ => 0)), (wt, .inr (1, [.ref ta, .ref tb, .ref tc, .ref td, .int 0, .int 0, .int 0])), (td, aI cI 8192 (fun _ => 0)), (ta, aJ cJ 4096 (fun _ => 0)), (tb, aJ cJ 4096 (fun _ => 0)), (tc, aI cI 4096 (fun _ => 0))] sz)) 0 0 (va_A [(x5, .inr (8, [.ref wm, .ref wt, .ref wv, .ref wk, .int 1, .ref we, .ref wf, .int 0, .ref p, .int g, .long 9007199254740991, .int 4095, .int 0, .int 0, .int 0, .int 0, .int 0])), (wm, .inr (2, [.ref na, .ref nb, .int 0, .int 0, .int 0])), (p, .inr (4, [.ref ps, .ref pc, .int 0, .int 0, .int 0, .int 0])), (wv, aJ cJ 16384 (fun _ => 0)), (wk, aI cI 4096 (fun _ => 0)), (wt, .inr (1, [.ref ta, .ref tb, .ref tc, .ref td, .int 0, .int 0, .int 0])), (td, aI cI 8192 (fun _ => 0)), (ta, aJ cJ 4096 (fun _ => 0)), (tb, aJ cJ 4096 (fun _ => 0)), (tc, aI cI 4096 (fun _ => 0))] sz) := by
  refine Met.ofW (cc := cX8_countHeaps) (maxL := 6) (ret := (some .int)) (by decide) rfl ?_
  intro pp_ ee_ ss_ mm_ args below meth cc_ s₁ B hml hv
  obtain ⟨rfl, hsz, hP, hE, hD0⟩ := hv
  have hx := B.exec
  have hb := B.bytes
  have hr := B.returns
  have hts := atoms_spec (ws := wsX8_countHeaps) B.pre
  have hown : ss_.vm.findClass RX8 = some mm_.cls := findClass_of_methodNamed B.named
  have hlocks := B.notSynchronized
  have hK := hE.1
  have hiX1 : ∀ w ∈ wsX10, w ∈ wsX8_countHeaps := by decide +kernel
  have hiX4 : ∀ w ∈ wsX40, w ∈ wsX8_countHeaps := by decide +kernel
  have hiX8 : ∀ w ∈ wsX80, w ∈ wsX8_countHeaps := by decide +kernel
  subst hsz
  have hD := hD0.self (sz := ss_.heap.size)
  generalize hAe : va_A [(x5, .inr (8, [.ref wm, .ref wt, .ref wv, .ref wk, .int 1, .ref we, .ref wf, .int 0, .ref p, .int g, .long 9007199254740991, .int 4095, .int 0, .int 0, .int 0, .int 0, .int 0])), (wm, .inr (2, [.ref na, .ref nb, .int 0, .int 0, .int 0])), (p, .inr (4, [.ref ps, .ref pc, .int 0, .int 0, .int 0, .int 0])), (wv, aJ cJ 16384 (fun _ => 0)), (wk, aI cI 4096 (fun _ => 0)), (wt, .inr (1, [.ref ta, .ref tb, .ref tc, .ref td, .int 0, .int 0, .int 0])), (td, aI cI 8192 (fun _ => 0)), (ta, aJ cJ 4096 (fun _ => 0)), (tb, aJ cJ 4096 (fun _ => 0)), (tc, aI cI 4096 (fun _ => 0))] ss_.heap.size = A at hD ⊢
  have hA : ∀ q : Nat, ss_.heap.size ≤ q → A q := fun q h => by rw [← hAe]; exact Or.inr h
  have hS : va_S A ss_.heap ss_.heap [] := va_S.rf
  have hP : va_P (dC, dI) vwCl [(x5, .inr (8, [.ref wm, .ref wt, .ref wv, .ref wk, .int 1, .ref we, .ref wf, .int 0, .ref p, .int g, .long 9007199254740991, .int 4095, .int 0, .int 0, .int 0, .int 0, .int 0])), (wm, .inr (2, [.ref na, .ref nb, .int 0, .int 0, .int 0])), (p, .inr (4, [.ref ps, .ref pc, .int 0, .int 0, .int 0, .int 0])), (wv, aJ cJ 16384 (fun _ => 0)), (wk, aI cI 4096 (fun _ => 0)), (wt, .inr (1, [.ref ta, .ref tb, .ref tc, .ref td, .int 0, .int 0, .int 0])), (td, aI cI 8192 (fun _ => 0)), (ta, aJ cJ 4096 (fun _ => 0)), (tb, aJ cJ 4096 (fun _ => 0)), (tc, aI cI 4096 (fun _ => 0))] ss_.heap := hP
  have hl := lv_entry ([.ref x5, .int o]) (n := 6) (Nat.le_of_ble_eq_true rfl)
  rw [lg_entry_eq]
  generalize (lg_sl ([.ref x5, .int o]) ++ List.replicate (6 - (lg_sl ([.ref x5, .int o])).length) Slot.unset).toArray = ls at hl ⊢
  have hl : lv_has ls 6 [(0, .ref x5), (1, .int o)] := hl
  refine lv_aload_n hx hb dX8_countHeaps_0 rfl (lv_at hl 0 rfl) ?_
  refine va_get (D := (dC, dI)) (ci := 8) (v := .int 0) (C := RX8) (T := TX8) (N := 17) hx hb hts hiX8 hown hK hP 0 rfl rfl 12 (by decide) (hts (.fieldLink RX8 56 "WatchedPrograms$Watch" "secretCells" "I") (by decide +kernel)) (fun _ h9 => h9) rfl dX8_countHeaps_1 ?_
  refine lv_aload_n hx hb dX8_countHeaps_4 rfl (lv_at hl 0 rfl) ?_
  refine va_get (D := (dC, dI)) (ci := 8) (v := .ref p) (C := RX8) (T := TX8) (N := 17) hx hb hts hiX8 hown hK hP 0 rfl rfl 8 (by decide) (hts (.fieldLink RX8 46 "WatchedPrograms$Watch" "program" "LWatchedPrograms$Program;") (by decide +kernel)) (fun _ h9 => h9) rfl dX8_countHeaps_5 ?_
  refine va_get (D := (dC, dI)) (ci := 4) (v := .int 0) (C := RX4) (T := TX4) (N := 6) hx hb hts hiX4 hown hK hP 2 rfl rfl 5 (by decide) (hts (.fieldLink RX8 69 "WatchedPrograms$Program" "used" "I") (by decide +kernel)) (fun _ h9 => h9) rfl dX8_countHeaps_8 ?_
  refine lv_iand hx hb dX8_countHeaps_11 ?_
  refine zi (y := 0) (by decide) ?_
  refine lv_istore_n (lv' := [(2, .int 0), (0, .ref x5), (1, .int o)]) hx hb dX8_countHeaps_12 rfl hl (by decide) rfl (fun ls hl => ?_)
  refine lv_iload_n hx hb dX8_countHeaps_13 rfl (lv_at hl 0 rfl) ?_
  refine vp_callSi (va_Run.run (va_runSN (As := [.int 0]) (rest := []) ⟨hx, hb, hml, hown, hts⟩ (c_nOf0 l dC dI cI cJ cS   ) ⟨va_cnB 1 hts gX8_countHeaps_X9_numbersOf_n72 rfl rfl rfl hE.2.2.2.2.2.2.2.2.2.2.1 (hts (.initialized RX9) (by decide +kernel)) (by decide +kernel) ⟨Nat.le_of_ble_eq_true rfl, Nat.le_of_ble_eq_true rfl⟩, (hts (.static yX9_numbersOf) (by decide +kernel)), trivial⟩ (preR (hP.sub (ws' := []) [] rfl) hE) rfl rfl hl.1 rfl (lv_room (Nat.le_of_ble_eq_true rfl)) dX8_countHeaps_14 ⟨by decide +kernel, by decide +kernel⟩)) (fun r_1 hr_2 => ?_)
  obtain rfl := hr_2
  refine lv_istore_n (lv' := [(3, .int 1), (2, .int 0), (0, .ref x5), (1, .int o)]) hx hb dX8_countHeaps_17 rfl hl (by decide) rfl (fun ls hl => ?_)
  refine lv_aload_n hx hb dX8_countHeaps_18 rfl (lv_at hl 2 rfl) ?_
  refine va_get (D := (dC, dI)) (ci := 8) (v := .ref wt) (C := RX8) (T := TX8) (N := 17) hx hb hts hiX8 hown hK hP 0 rfl rfl 1 (by decide) (hts (.fieldLink RX8 21 "WatchedPrograms$Watch" "table" "LWatchedPrograms$HeapTable;") (by decide +kernel)) (fun _ h9 => h9) rfl dX8_countHeaps_19 ?_
  refine lv_iload_n hx hb dX8_countHeaps_22 rfl (lv_at hl 0 rfl) ?_
  have hFc := va_free (wc := [(wt, .inr (1, [.ref ta, .ref tb, .ref tc, .ref td, .int 0, .int 0, .int 0])), (td, aI cI 8192 (fun _ => 0))]) hD hS hA [5, 6] rfl
  refine zCv (wr := [(x5, .inr (8, [.ref wm, .ref wt, .ref wv, .ref wk, .int 1, .ref we, .ref wf, .int 0, .ref p, .int g, .long 9007199254740991, .int 4095, .int 0, .int 0, .int 0, .int 0, .int 0])), (wm, .inr (2, [.ref na, .ref nb, .int 0, .int 0, .int 0])), (p, .inr (4, [.ref ps, .ref pc, .int 0, .int 0, .int 0, .int 0])), (wv, aJ cJ 16384 (fun _ => 0)), (wk, aI cI 4096 (fun _ => 0)), (ta, aJ cJ 4096 (fun _ => 0)), (tb, aJ cJ 4096 (fun _ => 0)), (tc, aI cI 4096 (fun _ => 0))]) hP hD hS hFc [5, 6] [0, 1, 2, 3, 4, 7, 8, 9] rfl rfl (by decide) (by decide) (va_runV (As := [.int 1]) (rest := []) ⟨hx, hb, hml, hown, hts⟩ (c_tbegin l dC dI cI cJ cS ss_.heap.size wt ta tb tc td ) (cwV 1 hts gX8_countHeaps_X1_begin rfl rfl rfl (by decide +kernel) ⟨Nat.le_of_ble_eq_true rfl, Nat.le_of_ble_eq_true rfl⟩) (preEV (hP.sub (ws' := [(wt, .inr (1, [.ref ta, .ref tb, .ref tc, .ref td, .int 0, .int 0, .int 0])), (td, aI cI 8192 (fun _ => 0))]) [5, 6] rfl) hE (hD.sub (ws' := [(wt, .inr (1, [.ref ta, .ref tb, .ref tc, .ref td, .int 0, .int 0, .int 0])), (td, aI cI 8192 (fun _ => 0))]) [5, 6] (by decide) rfl) 0 (ci := 1) rfl rfl) rfl rfl hl.1 rfl (lv_room (Nat.le_of_ble_eq_true rfl)) dX8_countHeaps_23 ⟨by decide +kernel, by decide +kernel⟩) (fun u_5 H locs hr_4 hP hD hS => ?_)
  try dsimp only at hr_4
  have hP : va_P (dC, dI) vwCl [(x5, .inr (8, [.ref wm, .ref wt, .ref wv, .ref wk, .int 1, .ref we, .ref wf, .int 0, .ref p, .int g, .long 9007199254740991, .int 4095, .int 0, .int 0, .int 0, .int 0, .int 0])), (wm, .inr (2, [.ref na, .ref nb, .int 0, .int 0, .int 0])), (p, .inr (4, [.ref ps, .ref pc, .int 0, .int 0, .int 0, .int 0])), (wv, aJ cJ 16384 (fun _ => 0)), (wk, aI cI 4096 (fun _ => 0)), (ta, aJ cJ 4096 (fun _ => 0)), (tb, aJ cJ 4096 (fun _ => 0)), (tc, aI cI 4096 (fun _ => 0)), (wt, .inr (1, [.ref ta, .ref tb, .ref tc, .ref td, .int 1, .int 0, .int 0])), (td, aI cI 8192 (upd (upd (fun _ => 0) 0 0) 1 0))] H := hP
  have hD : va_D A [(x5, .inr (8, [.ref wm, .ref wt, .ref wv, .ref wk, .int 1, .ref we, .ref wf, .int 0, .ref p, .int g, .long 9007199254740991, .int 4095, .int 0, .int 0, .int 0, .int 0, .int 0])), (wm, .inr (2, [.ref na, .ref nb, .int 0, .int 0, .int 0])), (p, .inr (4, [.ref ps, .ref pc, .int 0, .int 0, .int 0, .int 0])), (wv, aJ cJ 16384 (fun _ => 0)), (wk, aI cI 4096 (fun _ => 0)), (ta, aJ cJ 4096 (fun _ => 0)), (tb, aJ cJ 4096 (fun _ => 0)), (tc, aI cI 4096 (fun _ => 0)), (wt, .inr (1, [.ref ta, .ref tb, .ref tc, .ref td, .int 1, .int 0, .int 0])), (td, aI cI 8192 (upd (upd (fun _ => 0) 0 0) 1 0))] := hD
  refine lv_iconst (v := 0) hx hb dX8_countHeaps_26 (by decide) ?_
  refine lv_istore (lv' := [(4, .int 0), (3, .int 1), (2, .int 0), (0, .ref x5), (1, .int o)]) hx hb dX8_countHeaps_27 hl (by decide) rfl (fun ls hl => ?_)
  refine lv_iconst (v := 0) hx hb dX8_countHeaps_29 (by decide) ?_
  refine lv_istore (lv' := [(5, .int 0), (4, .int 0), (3, .int 1), (2, .int 0), (0, .ref x5), (1, .int o)]) hx hb dX8_countHeaps_30 hl (by decide) rfl (fun ls hl => ?_)
  refine lv_iload hx hb dX8_countHeaps_32 (lv_at hl 0 rfl) ?_
  refine lv_iload_n hx hb dX8_countHeaps_34 rfl (lv_at hl 2 rfl) ?_
  refine lv_icmp_ge (tgt := 78) hx hb dX8_countHeaps_35 (by decide) (fun c_6 => absurd c_6 (by decide)) (fun _ => ?_)
  refine lv_aload_n hx hb dX8_countHeaps_38 rfl (lv_at hl 4 rfl) ?_
  refine va_get (D := (dC, dI)) (ci := 8) (v := .ref wt) (C := RX8) (T := TX8) (N := 17) hx hb hts hiX8 hown hK hP 0 rfl rfl 1 (by decide) (hts (.fieldLink RX8 21 "WatchedPrograms$Watch" "table" "LWatchedPrograms$HeapTable;") (by decide +kernel)) (fun _ h9 => h9) rfl dX8_countHeaps_39 ?_
  refine lv_aload_n hx hb dX8_countHeaps_42 rfl (lv_at hl 4 rfl) ?_
  refine lv_iload_n hx hb dX8_countHeaps_43 rfl (lv_at hl 5 rfl) ?_
  refine lv_iload hx hb dX8_countHeaps_44 (lv_at hl 1 rfl) ?_
  refine lv_ior hx hb dX8_countHeaps_46 ?_
  refine zi (y := o) Int32.or_zero ?_
  refine lv_aload_n hx hb dX8_countHeaps_47 rfl (lv_at hl 4 rfl) ?_
  refine va_get (D := (dC, dI)) (ci := 8) (v := .int g) (C := RX8) (T := TX8) (N := 17) hx hb hts hiX8 hown hK hP 0 rfl rfl 9 (by decide) (hts (.fieldLink RX8 50 "WatchedPrograms$Watch" "watcher" "I") (by decide +kernel)) (fun _ h9 => h9) rfl dX8_countHeaps_48 ?_
  refine lv_iconst (v := 0) hx hb dX8_countHeaps_51 (by decide) ?_
  have hFc := va_free (wc := [(x5, .inr (8, [.ref wm, .ref wt, .ref wv, .ref wk, .int 1, .ref we, .ref wf, .int 0, .ref p, .int g, .long 9007199254740991, .int 4095, .int 0, .int 0, .int 0, .int 0, .int 0])), (wm, .inr (2, [.ref na, .ref nb, .int 0, .int 0, .int 0])), (p, .inr (4, [.ref ps, .ref pc, .int 0, .int 0, .int 0, .int 0])), (wv, aJ cJ 16384 (fun _ => 0)), (wk, aI cI 4096 (fun _ => 0))]) hD hS hA [0, 1, 2, 3, 4] rfl
  refine zCl (wr := [(ta, aJ cJ 4096 (fun _ => 0)), (tb, aJ cJ 4096 (fun _ => 0)), (tc, aI cI 4096 (fun _ => 0)), (wt, .inr (1, [.ref ta, .ref tb, .ref tc, .ref td, .int 1, .int 0, .int 0])), (td, aI cI 8192 (upd (upd (fun _ => 0) 0 0) 1 0))]) hP hD hS hFc [0, 1, 2, 3, 4] [5, 6, 7, 8, 9] rfl rfl (by decide) (by decide) (va_runV (As := [.int o, .int g, .int 0]) (rest := [.ref wt]) ⟨hx, hb, hml, hown, hts⟩ (c_look1 l dC dI cI cJ cS H.size x5 o g wm wt wv wk we wf p g 9007199254740991 0 0 na nb ps pc ) (cwV 3 hts gX8_countHeaps_X8_look rfl rfl rfl (by decide +kernel) ⟨Nat.le_of_ble_eq_true rfl, Nat.le_of_ble_eq_true rfl⟩) (preEV (hP.sub (ws' := [(x5, .inr (8, [.ref wm, .ref wt, .ref wv, .ref wk, .int 1, .ref we, .ref wf, .int 0, .ref p, .int g, .long 9007199254740991, .int 4095, .int 0, .int 0, .int 0, .int 0, .int 0])), (wm, .inr (2, [.ref na, .ref nb, .int 0, .int 0, .int 0])), (p, .inr (4, [.ref ps, .ref pc, .int 0, .int 0, .int 0, .int 0])), (wv, aJ cJ 16384 (fun _ => 0)), (wk, aI cI 4096 (fun _ => 0))]) [0, 1, 2, 3, 4] rfl) hE (hD.sub (ws' := [(x5, .inr (8, [.ref wm, .ref wt, .ref wv, .ref wk, .int 1, .ref we, .ref wf, .int 0, .ref p, .int g, .long 9007199254740991, .int 4095, .int 0, .int 0, .int 0, .int 0, .int 0])), (wm, .inr (2, [.ref na, .ref nb, .int 0, .int 0, .int 0])), (p, .inr (4, [.ref ps, .ref pc, .int 0, .int 0, .int 0, .int 0])), (wv, aJ cJ 16384 (fun _ => 0)), (wk, aI cI 4096 (fun _ => 0))]) [0, 1, 2, 3, 4] (by decide) rfl) 0 (ci := 8) rfl rfl) rfl rfl hl.1 rfl (lv_room (Nat.le_of_ble_eq_true rfl)) dX8_countHeaps_52 ⟨by decide +kernel, by decide +kernel⟩) (fun r_7 u_9 H locs hr_8 hP hD hS => ?_)
  try dsimp only at hr_8
  have hP : va_P (dC, dI) vwCl [(ta, aJ cJ 4096 (fun _ => 0)), (tb, aJ cJ 4096 (fun _ => 0)), (tc, aI cI 4096 (fun _ => 0)), (wt, .inr (1, [.ref ta, .ref tb, .ref tc, .ref td, .int 1, .int 0, .int 0])), (td, aI cI 8192 (upd (upd (fun _ => 0) 0 0) 1 0)), (x5, .inr (8, [.ref wm, .ref wt, .ref wv, .ref wk, .int 1, .ref we, .ref wf, .int 0, .ref p, .int g, .long 9007199254740991, .int 4095, .int 0, .int 0, .int 0, .int 0, .int 0])), (wv, aJ cJ 16384 (vp_updL (vp_updL (vp_updL (vp_updL (fun _ => 0) 0 1) 4096 1) 8192 1) 12288 1)), (wk, aI cI 4096 (upd (fun _ => 0) 0 1)), (wm, .inr (2, [.ref na, .ref nb, .int 0, .int 0, .int 0])), (p, .inr (4, [.ref ps, .ref pc, .int 0, .int 0, .int 0, .int 0]))] H := hP
  have hD : va_D A [(ta, aJ cJ 4096 (fun _ => 0)), (tb, aJ cJ 4096 (fun _ => 0)), (tc, aI cI 4096 (fun _ => 0)), (wt, .inr (1, [.ref ta, .ref tb, .ref tc, .ref td, .int 1, .int 0, .int 0])), (td, aI cI 8192 (upd (upd (fun _ => 0) 0 0) 1 0)), (x5, .inr (8, [.ref wm, .ref wt, .ref wv, .ref wk, .int 1, .ref we, .ref wf, .int 0, .ref p, .int g, .long 9007199254740991, .int 4095, .int 0, .int 0, .int 0, .int 0, .int 0])), (wv, aJ cJ 16384 (vp_updL (vp_updL (vp_updL (vp_updL (fun _ => 0) 0 1) 4096 1) 8192 1) 12288 1)), (wk, aI cI 4096 (upd (fun _ => 0) 0 1)), (wm, .inr (2, [.ref na, .ref nb, .int 0, .int 0, .int 0])), (p, .inr (4, [.ref ps, .ref pc, .int 0, .int 0, .int 0, .int 0]))] := hD
  obtain rfl := hr_8
  refine lv_aload_n hx hb dX8_countHeaps_55 rfl (lv_at hl 4 rfl) ?_
  refine va_get (D := (dC, dI)) (ci := 8) (v := .long 9007199254740991) (C := RX8) (T := TX8) (N := 17) hx hb hts hiX8 hown hK hP 5 rfl rfl 10 (by decide) (hts (.fieldLink RX8 65 "WatchedPrograms$Watch" "lens" "J") (by decide +kernel)) (fun _ h9 => h9) rfl dX8_countHeaps_56 ?_
  refine lv_land hx hb dX8_countHeaps_59 ?_
  refine zl (y := 1) (by decide) ?_
  refine lv_lconst (v := 0) hx hb dX8_countHeaps_60 (by decide) ?_
  have hFc := va_free (wc := [(wt, .inr (1, [.ref ta, .ref tb, .ref tc, .ref td, .int 1, .int 0, .int 0])), (td, aI cI 8192 (upd (upd (fun _ => 0) 0 0) 1 0)), (ta, aJ cJ 4096 (fun _ => 0)), (tb, aJ cJ 4096 (fun _ => 0)), (tc, aI cI 4096 (fun _ => 0))]) hD hS hA [3, 4, 0, 1, 2] rfl
  refine zCv (wr := [(x5, .inr (8, [.ref wm, .ref wt, .ref wv, .ref wk, .int 1, .ref we, .ref wf, .int 0, .ref p, .int g, .long 9007199254740991, .int 4095, .int 0, .int 0, .int 0, .int 0, .int 0])), (wv, aJ cJ 16384 (vp_updL (vp_updL (vp_updL (vp_updL (fun _ => 0) 0 1) 4096 1) 8192 1) 12288 1)), (wk, aI cI 4096 (upd (fun _ => 0) 0 1)), (wm, .inr (2, [.ref na, .ref nb, .int 0, .int 0, .int 0])), (p, .inr (4, [.ref ps, .ref pc, .int 0, .int 0, .int 0, .int 0]))]) hP hD hS hFc [3, 4, 0, 1, 2] [5, 6, 7, 8, 9] rfl rfl (by decide) (by decide) (va_runV (As := [.long 1, .long 0]) (rest := []) ⟨hx, hb, hml, hown, hts⟩ (c_tput0 l dC dI cI cJ cS H.size wt ta tb tc td ) (cwV 2 hts gX8_countHeaps_X1_put rfl rfl rfl (by decide +kernel) ⟨Nat.le_of_ble_eq_true rfl, Nat.le_of_ble_eq_true rfl⟩) (preEV (hP.sub (ws' := [(wt, .inr (1, [.ref ta, .ref tb, .ref tc, .ref td, .int 1, .int 0, .int 0])), (td, aI cI 8192 (upd (upd (fun _ => 0) 0 0) 1 0)), (ta, aJ cJ 4096 (fun _ => 0)), (tb, aJ cJ 4096 (fun _ => 0)), (tc, aI cI 4096 (fun _ => 0))]) [3, 4, 0, 1, 2] rfl) hE (hD.sub (ws' := [(wt, .inr (1, [.ref ta, .ref tb, .ref tc, .ref td, .int 1, .int 0, .int 0])), (td, aI cI 8192 (upd (upd (fun _ => 0) 0 0) 1 0)), (ta, aJ cJ 4096 (fun _ => 0)), (tb, aJ cJ 4096 (fun _ => 0)), (tc, aI cI 4096 (fun _ => 0))]) [3, 4, 0, 1, 2] (by decide) rfl) 0 (ci := 1) rfl rfl) rfl rfl hl.1 rfl (lv_room (Nat.le_of_ble_eq_true rfl)) dX8_countHeaps_61 ⟨by decide +kernel, by decide +kernel⟩) (fun u_12 H locs hr_11 hP hD hS => ?_)
  try dsimp only at hr_11
  have hP : va_P (dC, dI) vwCl [(x5, .inr (8, [.ref wm, .ref wt, .ref wv, .ref wk, .int 1, .ref we, .ref wf, .int 0, .ref p, .int g, .long 9007199254740991, .int 4095, .int 0, .int 0, .int 0, .int 0, .int 0])), (wv, aJ cJ 16384 (vp_updL (vp_updL (vp_updL (vp_updL (fun _ => 0) 0 1) 4096 1) 8192 1) 12288 1)), (wk, aI cI 4096 (upd (fun _ => 0) 0 1)), (wm, .inr (2, [.ref na, .ref nb, .int 0, .int 0, .int 0])), (p, .inr (4, [.ref ps, .ref pc, .int 0, .int 0, .int 0, .int 0])), (td, aI cI 8192 (upd (upd (upd (fun _ => 0) 0 0) 1 0) 1 1)), (ta, aJ cJ 4096 (vp_updL (fun _ => 0) 0 1)), (tb, aJ cJ 4096 (vp_updL (fun _ => 0) 0 0)), (wt, .inr (1, [.ref ta, .ref tb, .ref tc, .ref td, .int 1, .int 1, .int 1])), (tc, aI cI 4096 (upd (upd (fun _ => 0) 0 0) 0 1))] H := hP
  have hD : va_D A [(x5, .inr (8, [.ref wm, .ref wt, .ref wv, .ref wk, .int 1, .ref we, .ref wf, .int 0, .ref p, .int g, .long 9007199254740991, .int 4095, .int 0, .int 0, .int 0, .int 0, .int 0])), (wv, aJ cJ 16384 (vp_updL (vp_updL (vp_updL (vp_updL (fun _ => 0) 0 1) 4096 1) 8192 1) 12288 1)), (wk, aI cI 4096 (upd (fun _ => 0) 0 1)), (wm, .inr (2, [.ref na, .ref nb, .int 0, .int 0, .int 0])), (p, .inr (4, [.ref ps, .ref pc, .int 0, .int 0, .int 0, .int 0])), (td, aI cI 8192 (upd (upd (upd (fun _ => 0) 0 0) 1 0) 1 1)), (ta, aJ cJ 4096 (vp_updL (fun _ => 0) 0 1)), (tb, aJ cJ 4096 (vp_updL (fun _ => 0) 0 0)), (wt, .inr (1, [.ref ta, .ref tb, .ref tc, .ref td, .int 1, .int 1, .int 1])), (tc, aI cI 4096 (upd (upd (fun _ => 0) 0 0) 0 1))] := hD
  refine lv_iload hx hb dX8_countHeaps_64 (lv_at hl 1 rfl) ?_
  refine lv_iload_n hx hb dX8_countHeaps_66 rfl (lv_at hl 3 rfl) ?_
  refine vp_callSi (va_Run.run (va_runSN (As := [.int 0, .int 0]) (rest := []) ⟨hx, hb, hml, hown, hts⟩ (c_following0 l dC dI cI cJ cS   ) ⟨va_cnB 2 hts gX8_countHeaps_X9_following_n88 rfl rfl rfl hE.2.2.2.2.2.2.2.2.2.2.2.2.1 (hts (.initialized RX9) (by decide +kernel)) (by decide +kernel) ⟨Nat.le_of_ble_eq_true rfl, Nat.le_of_ble_eq_true rfl⟩, (hts (.static yX9_following) (by decide +kernel)), trivial⟩ (preR (hP.sub (ws' := []) [] rfl) hE) rfl rfl hl.1 rfl (lv_room (Nat.le_of_ble_eq_true rfl)) dX8_countHeaps_67 ⟨by decide +kernel, by decide +kernel⟩)) (fun r_13 hr_14 => ?_)
  obtain rfl := hr_14
  refine lv_istore (lv' := [(4, .int 0), (5, .int 0), (3, .int 1), (2, .int 0), (0, .ref x5), (1, .int o)]) hx hb dX8_countHeaps_70 hl (by decide) rfl (fun ls hl => ?_)
  refine lv_iinc (v := 1) (lv' := [(5, .int 1), (4, .int 0), (3, .int 1), (2, .int 0), (0, .ref x5), (1, .int o)]) hx hb dX8_countHeaps_72 hl (k := 1) rfl (by decide) (by decide) rfl (fun ls hl => ?_)
  refine lv_goto (tgt := 32) hx hb dX8_countHeaps_75 (by decide) ?_
  refine lv_iload hx hb dX8_countHeaps_32 (lv_at hl 0 rfl) ?_
  refine lv_iload_n hx hb dX8_countHeaps_34 rfl (lv_at hl 2 rfl) ?_
  refine lv_icmp_ge (tgt := 78) hx hb dX8_countHeaps_35 (by decide) (fun _ => ?_) (fun c_15 => absurd (by decide) c_15)
  refine lv_aload_n hx hb dX8_countHeaps_78 rfl (lv_at hl 4 rfl) ?_
  refine va_get (D := (dC, dI)) (ci := 8) (v := .ref wt) (C := RX8) (T := TX8) (N := 17) hx hb hts hiX8 hown hK hP 0 rfl rfl 1 (by decide) (hts (.fieldLink RX8 21 "WatchedPrograms$Watch" "table" "LWatchedPrograms$HeapTable;") (by decide +kernel)) (fun _ h9 => h9) rfl dX8_countHeaps_79 ?_
  refine va_get (D := (dC, dI)) (ci := 1) (v := .int 1) (C := RX1) (T := TX1) (N := 7) hx hb hts hiX1 hown hK hP 8 rfl rfl 5 (by decide) (hts (.fieldLink RX8 92 "WatchedPrograms$HeapTable" "many" "I") (by decide +kernel)) (fun _ h9 => h9) rfl dX8_countHeaps_82 ?_
  have hP9 := hP.sub (ws' := [(x5, .inr (8, [.ref wm, .ref wt, .ref wv, .ref wk, .int 1, .ref we, .ref wf, .int 0, .ref p, .int g, .long 9007199254740991, .int 4095, .int 0, .int 0, .int 0, .int 0, .int 0])), (wv, aJ cJ 16384 (vp_updL (vp_updL (vp_updL (vp_updL (fun _ => 0) 0 1) 4096 1) 8192 1) 12288 1)), (wk, aI cI 4096 (upd (fun _ => 0) 0 1)), (wm, .inr (2, [.ref na, .ref nb, .int 0, .int 0, .int 0])), (p, .inr (4, [.ref ps, .ref pc, .int 0, .int 0, .int 0, .int 0])), (td, aI cI 8192 (upd (upd (upd (fun _ => 0) 0 0) 1 0) 1 1)), (ta, aJ cJ 4096 (vp_updL (fun _ => 0) 0 1)), (tb, aJ cJ 4096 (vp_updL (fun _ => 0) 0 0)), (wt, .inr (1, [.ref ta, .ref tb, .ref tc, .ref td, .int 1, .int 1, .int 1])), (tc, aI cI 4096 (upd (upd (fun _ => 0) 0 0) 0 1))]) [0, 1, 2, 3, 4, 5, 6, 7, 8, 9] rfl
  have hD9 := hD.sub (ws' := [(x5, .inr (8, [.ref wm, .ref wt, .ref wv, .ref wk, .int 1, .ref we, .ref wf, .int 0, .ref p, .int g, .long 9007199254740991, .int 4095, .int 0, .int 0, .int 0, .int 0, .int 0])), (wv, aJ cJ 16384 (vp_updL (vp_updL (vp_updL (vp_updL (fun _ => 0) 0 1) 4096 1) 8192 1) 12288 1)), (wk, aI cI 4096 (upd (fun _ => 0) 0 1)), (wm, .inr (2, [.ref na, .ref nb, .int 0, .int 0, .int 0])), (p, .inr (4, [.ref ps, .ref pc, .int 0, .int 0, .int 0, .int 0])), (td, aI cI 8192 (upd (upd (upd (fun _ => 0) 0 0) 1 0) 1 1)), (ta, aJ cJ 4096 (vp_updL (fun _ => 0) 0 1)), (tb, aJ cJ 4096 (vp_updL (fun _ => 0) 0 0)), (wt, .inr (1, [.ref ta, .ref tb, .ref tc, .ref td, .int 1, .int 1, .int 1])), (tc, aI cI 4096 (upd (upd (fun _ => 0) 0 0) 0 1))]) [0, 1, 2, 3, 4, 5, 6, 7, 8, 9] (by decide) rfl
  exact W.iret (v := 1) hx hb hr (fun tt_ ht hW => ⟨⟨_, (), rfl, rfl, by rw [ht]; exact hP9, hD9⟩, hS.F ht⟩) hS.2.2 dX8_countHeaps_85
set_option maxHeartbeats 1000000 in
set_option maxRecDepth 100000 in
theorem c_untried0 (l : Launch) (dC : Nat → ClassId) (dI : Nat → Nat → Nat) (cI cJ cS : ClassId) (x5 : Nat) (wm : Nat) (wt : Nat) (wv : Nat) (wk : Nat) (we : Nat) (wf : Nat) (p : Nat) (g : Int32) (ps : Nat) (pc : Nat)  : Met l yX8_untriedSecrets wsX8_untriedSecrets ({ frames := 2, cells := 0, slots := 0, locals := 40 }) (va_Pc [.ref x5] (PR dC dI cI cJ cS [(x5, .inr (8, [.ref wm, .ref wt, .ref wv, .ref wk, .int 1, .ref we, .ref wf, .int 0, .ref p, .int g, .long 9007199254740991, .int 4095, .int 0, .int 0, .int 0, .int 0, .int 0])), (p, .inr (4, [.ref ps, .ref pc, .int 0, .int 0, .int 0, .int 0]))])) (vp_Si (fun r : Int32 => r = 1)) 0 0 (fun _ => False) := by
  refine Met.ofW (cc := cX8_untriedSecrets) (maxL := 1) (ret := (some .int)) (by decide) rfl ?_
  intro pp_ ee_ ss_ mm_ args below meth cc_ s₁ B hml hv
  obtain ⟨rfl, hP, hE⟩ := hv
  have hx := B.exec
  have hb := B.bytes
  have hr := B.returns
  have hts := atoms_spec (ws := wsX8_untriedSecrets) B.pre
  have hown : ss_.vm.findClass RX8 = some mm_.cls := findClass_of_methodNamed B.named
  have hlocks := B.notSynchronized
  have hK := hE.1
  have hiX4 : ∀ w ∈ wsX40, w ∈ wsX8_untriedSecrets := by decide +kernel
  have hiX8 : ∀ w ∈ wsX80, w ∈ wsX8_untriedSecrets := by decide +kernel
  have hP : va_P (dC, dI) vwCl [(x5, .inr (8, [.ref wm, .ref wt, .ref wv, .ref wk, .int 1, .ref we, .ref wf, .int 0, .ref p, .int g, .long 9007199254740991, .int 4095, .int 0, .int 0, .int 0, .int 0, .int 0])), (p, .inr (4, [.ref ps, .ref pc, .int 0, .int 0, .int 0, .int 0]))] ss_.heap := hP
  have hl := lv_entry ([.ref x5]) (n := 1) (Nat.le_of_ble_eq_true rfl)
  rw [lg_entry_eq]
  generalize (lg_sl ([.ref x5]) ++ List.replicate (1 - (lg_sl ([.ref x5])).length) Slot.unset).toArray = ls at hl ⊢
  have hl : lv_has ls 1 [(0, .ref x5)] := hl
  refine lv_aload_n hx hb dX8_untriedSecrets_0 rfl (lv_at hl 0 rfl) ?_
  refine va_get (D := (dC, dI)) (ci := 8) (v := .int 0) (C := RX8) (T := TX8) (N := 17) hx hb hts hiX8 hown hK hP 0 rfl rfl 12 (by decide) (hts (.fieldLink RX8 56 "WatchedPrograms$Watch" "secretCells" "I") (by decide +kernel)) (fun _ h9 => h9) rfl dX8_untriedSecrets_1 ?_
  refine lv_aload_n hx hb dX8_untriedSecrets_4 rfl (lv_at hl 0 rfl) ?_
  refine va_get (D := (dC, dI)) (ci := 8) (v := .ref p) (C := RX8) (T := TX8) (N := 17) hx hb hts hiX8 hown hK hP 0 rfl rfl 8 (by decide) (hts (.fieldLink RX8 46 "WatchedPrograms$Watch" "program" "LWatchedPrograms$Program;") (by decide +kernel)) (fun _ h9 => h9) rfl dX8_untriedSecrets_5 ?_
  refine va_get (D := (dC, dI)) (ci := 4) (v := .int 0) (C := RX4) (T := TX4) (N := 6) hx hb hts hiX4 hown hK hP 1 rfl rfl 5 (by decide) (hts (.fieldLink RX8 69 "WatchedPrograms$Program" "used" "I") (by decide +kernel)) (fun _ h9 => h9) rfl dX8_untriedSecrets_8 ?_
  refine lv_iconst (v := (-1)) hx hb dX8_untriedSecrets_11 (by decide) ?_
  refine lv_ixor hx hb dX8_untriedSecrets_12 ?_
  refine zi (y := (-1)) (by decide) ?_
  refine lv_iand hx hb dX8_untriedSecrets_13 ?_
  refine zi (y := 0) (by decide) ?_
  refine vp_callSi (va_Run.run (va_runSN (As := [.int 0]) (rest := []) ⟨hx, hb, hml, hown, hts⟩ (c_nOf0 l dC dI cI cJ cS   ) ⟨va_cnB 1 hts gX8_untriedSecrets_X9_numbersOf_n72 rfl rfl rfl hE.2.2.2.2.2.2.2.2.2.2.1 (hts (.initialized RX9) (by decide +kernel)) (by decide +kernel) ⟨Nat.le_of_ble_eq_true rfl, Nat.le_of_ble_eq_true rfl⟩, (hts (.static yX9_numbersOf) (by decide +kernel)), trivial⟩ (preR (hP.sub (ws' := []) [] rfl) hE) rfl rfl hl.1 rfl (lv_room (Nat.le_of_ble_eq_true rfl)) dX8_untriedSecrets_14 ⟨by decide +kernel, by decide +kernel⟩)) (fun r_1 hr_2 => ?_)
  obtain rfl := hr_2
  exact W.iret (v := 1) hx hb hr (fun tt_ ht hW => ⟨_, rfl, rfl, ht⟩) (fun _ h => by cases h) dX8_untriedSecrets_17
set_option maxHeartbeats 1000000 in
set_option maxRecDepth 100000 in
theorem c_greatest0 (l : Launch) (dC : Nat → ClassId) (dI : Nat → Nat → Nat) (cI cJ cS : ClassId) (x5 : Nat) (wm : Nat) (wt : Nat) (wv : Nat) (wk : Nat) (we : Nat) (wf : Nat) (p : Nat) (g : Int32) (ps : Nat) (pc : Nat) (ta : Nat) (tb : Nat) (tc : Nat) (td : Nat)  : Met l yX8_greatestHeap wsX8_greatestHeap ({ frames := 3, cells := 0, slots := 0, locals := 60 }) (va_Pc [.ref x5] (PR dC dI cI cJ cS [(x5, .inr (8, [.ref wm, .ref wt, .ref wv, .ref wk, .int 1, .ref we, .ref wf, .int 0, .ref p, .int g, .long 9007199254740991, .int 4095, .int 0, .int 0, .int 0, .int 0, .int 0])), (p, .inr (4, [.ref ps, .ref pc, .int 0, .int 0, .int 0, .int 0])), (wt, .inr (1, [.ref ta, .ref tb, .ref tc, .ref td, .int 1, .int 1, .int 1]))])) (vp_Si (fun r : Int32 => r = 1)) 0 0 (fun _ => False) := by
  refine Met.ofW (cc := cX8_greatestHeap) (maxL := 1) (ret := (some .int)) (by decide) rfl ?_
  intro pp_ ee_ ss_ mm_ args below meth cc_ s₁ B hml hv
  obtain ⟨rfl, hP, hE⟩ := hv
  have hx := B.exec
  have hb := B.bytes
  have hr := B.returns
  have hts := atoms_spec (ws := wsX8_greatestHeap) B.pre
  have hown : ss_.vm.findClass RX8 = some mm_.cls := findClass_of_methodNamed B.named
  have hlocks := B.notSynchronized
  have hK := hE.1
  have hiX1 : ∀ w ∈ wsX10, w ∈ wsX8_greatestHeap := by decide +kernel
  have hiX8 : ∀ w ∈ wsX80, w ∈ wsX8_greatestHeap := by decide +kernel
  have hP : va_P (dC, dI) vwCl [(x5, .inr (8, [.ref wm, .ref wt, .ref wv, .ref wk, .int 1, .ref we, .ref wf, .int 0, .ref p, .int g, .long 9007199254740991, .int 4095, .int 0, .int 0, .int 0, .int 0, .int 0])), (p, .inr (4, [.ref ps, .ref pc, .int 0, .int 0, .int 0, .int 0])), (wt, .inr (1, [.ref ta, .ref tb, .ref tc, .ref td, .int 1, .int 1, .int 1]))] ss_.heap := hP
  have hl := lv_entry ([.ref x5]) (n := 1) (Nat.le_of_ble_eq_true rfl)
  rw [lg_entry_eq]
  generalize (lg_sl ([.ref x5]) ++ List.replicate (1 - (lg_sl ([.ref x5])).length) Slot.unset).toArray = ls at hl ⊢
  have hl : lv_has ls 1 [(0, .ref x5)] := hl
  refine lv_aload_n hx hb dX8_greatestHeap_0 rfl (lv_at hl 0 rfl) ?_
  refine va_get (D := (dC, dI)) (ci := 8) (v := .ref wt) (C := RX8) (T := TX8) (N := 17) hx hb hts hiX8 hown hK hP 0 rfl rfl 1 (by decide) (hts (.fieldLink RX8 21 "WatchedPrograms$Watch" "table" "LWatchedPrograms$HeapTable;") (by decide +kernel)) (fun _ h9 => h9) rfl dX8_greatestHeap_1 ?_
  refine va_get (D := (dC, dI)) (ci := 1) (v := .int 1) (C := RX1) (T := TX1) (N := 7) hx hb hts hiX1 hown hK hP 2 rfl rfl 6 (by decide) (hts (.fieldLink RX8 95 "WatchedPrograms$HeapTable" "greatest" "I") (by decide +kernel)) (fun _ h9 => h9) rfl dX8_greatestHeap_4 ?_
  refine lv_aload_n hx hb dX8_greatestHeap_7 rfl (lv_at hl 0 rfl) ?_
  refine vp_callSi (va_Run.run (va_runV (As := []) (rest := [.int 1]) ⟨hx, hb, hml, hown, hts⟩ (c_untried0 l dC dI cI cJ cS  x5 wm wt wv wk we wf p g ps pc ) (cwV 0 hts gX8_greatestHeap_X8_untriedSecrets rfl rfl rfl (by decide +kernel) ⟨Nat.le_of_ble_eq_true rfl, Nat.le_of_ble_eq_true rfl⟩) (preRV (hP.sub (ws' := [(x5, .inr (8, [.ref wm, .ref wt, .ref wv, .ref wk, .int 1, .ref we, .ref wf, .int 0, .ref p, .int g, .long 9007199254740991, .int 4095, .int 0, .int 0, .int 0, .int 0, .int 0])), (p, .inr (4, [.ref ps, .ref pc, .int 0, .int 0, .int 0, .int 0]))]) [0, 1] rfl) hE 0 (ci := 8) rfl rfl) rfl rfl hl.1 rfl (lv_room (Nat.le_of_ble_eq_true rfl)) dX8_greatestHeap_8 ⟨by decide +kernel, by decide +kernel⟩)) (fun r_1 hr_2 => ?_)
  obtain rfl := hr_2
  refine lv_imul hx hb dX8_greatestHeap_11 ?_
  refine zi (y := 1) (by decide) ?_
  exact W.iret (v := 1) hx hb hr (fun tt_ ht hW => ⟨_, rfl, rfl, ht⟩) (fun _ h => by cases h) dX8_greatestHeap_12
set_option maxHeartbeats 1000000 in
set_option maxRecDepth 100000 in
theorem c_findHeap0 (l : Launch) (dC : Nat → ClassId) (dI : Nat → Nat → Nat) (cI cJ cS : ClassId) (sz : Nat) (x5 : Nat) (o : Int32) (wm : Nat) (wt : Nat) (wv : Nat) (wk : Nat) (we : Nat) (wf : Nat) (p : Nat) (g : Int32) (na : Nat) (nb : Nat) (ps : Nat) (pc : Nat)  : Met l yX8_findHeap wsX8_findHeap ({ frames := 4, cells := 0, slots := 0, locals := 83 }) (va_Pc [.ref x5, .int o, .int 0] (PE dC dI cI cJ cS [(x5, .inr (8, [.ref wm, .ref wt, .ref wv, .ref wk, .int 1, .ref we, .ref wf, .int 0, .ref p, .int g, .long 9007199254740991, .int 4095, .int 0, .int 0, .int 0, .int 0, .int 0])), (wm, .inr (2, [.ref na, .ref nb, .int 0, .int 0, .int 0])), (p, .inr (4, [.ref ps, .ref pc, .int 0, .int 0, .int 0, .int 0])), (wv, aJ cJ 16384 (fun _ => 0)), (wk, aI cI 4096 (fun _ => 0))] sz)) (va_Qi (fun (r : Int32) (_ : Unit) => r = 0) (BE dC dI (va_A [(x5, .inr (8, [.ref wm, .ref wt, .ref wv, .ref wk, .int 1, .ref we, .ref wf, .int 0, .ref p, .int g, .long 9007199254740991, .int 4095, .int 0, .int 0, .int 0, .int 0, .int 0])), (wm, .inr (2, [.ref na, .ref nb, .int 0, .int 0, .int 0])), (p, .inr (4, [.ref ps, .ref pc, .int 0, .int 0, .int 0, .int 0])), (wv, aJ cJ 16384 (fun _ => 0)), (wk, aI cI 4096 (fun _ => 0))] sz) (fun (_ : Unit) => [(x5, .inr (8, [.ref wm, .ref wt, .ref wv, .ref wk, .int 1, .ref we, .ref wf, .int 0, .ref p, .int g, .long 9007199254740991, .int 4095, .int 0, .int 1, .int 0, .int 0, .int 0])), (wv, aJ cJ 16384 (vp_updL (vp_updL (vp_updL (vp_updL (fun _ => 0) 0 1) 4096 1) 8192 1) 12288 1)), (wk, aI cI 4096 (upd (fun _ => 0) 0 1)), (wm, .inr (2, [.ref na, .ref nb, .int 0, .int 0, .int 0])), (p, .inr (4, [.ref ps, .ref pc, .int 0, .int 0, .int 0, .int 0]))])) (va_A [(x5, .inr (8, [.ref wm, .ref wt, .ref wv, .ref wk, .int 1, .ref we, .ref wf, .int 0, .ref p, .int g, .long 9007199254740991, .int 4095, .int 0, .int 0, .int 0, .int 0, .int 0])), (wm, .inr (2, [.ref na, .ref nb, .int 0, .int 0, .int 0])), (p, .inr (4, [.ref ps, .ref pc, .int 0, .int 0, .int 0, .int 0])), (wv, aJ cJ 16384 (fun _ => 0)), (wk, aI cI 4096 (fun _ => 0))] sz)) 0 0 (va_A [(x5, .inr (8, [.ref wm, .ref wt, .ref wv, .ref wk, .int 1, .ref we, .ref wf, .int 0, .ref p, .int g, .long 9007199254740991, .int 4095, .int 0, .int 0, .int 0, .int 0, .int 0])), (wm, .inr (2, [.ref na, .ref nb, .int 0, .int 0, .int 0])), (p, .inr (4, [.ref ps, .ref pc, .int 0, .int 0, .int 0, .int 0])), (wv, aJ cJ 16384 (fun _ => 0)), (wk, aI cI 4096 (fun _ => 0))] sz) := by
  refine Met.ofW (cc := cX8_findHeap) (maxL := 10) (ret := (some .int)) (by decide) rfl ?_
  intro pp_ ee_ ss_ mm_ args below meth cc_ s₁ B hml hv
  obtain ⟨rfl, hsz, hP, hE, hD0⟩ := hv
  have hx := B.exec
  have hb := B.bytes
  have hr := B.returns
  have hts := atoms_spec (ws := wsX8_findHeap) B.pre
  have hown : ss_.vm.findClass RX8 = some mm_.cls := findClass_of_methodNamed B.named
  have hlocks := B.notSynchronized
  have hK := hE.1
  have hiX4 : ∀ w ∈ wsX40, w ∈ wsX8_findHeap := by decide +kernel
  have hiX8 : ∀ w ∈ wsX80, w ∈ wsX8_findHeap := by decide +kernel
  subst hsz
  have hD := hD0.self (sz := ss_.heap.size)
  generalize hAe : va_A [(x5, .inr (8, [.ref wm, .ref wt, .ref wv, .ref wk, .int 1, .ref we, .ref wf, .int 0, .ref p, .int g, .long 9007199254740991, .int 4095, .int 0, .int 0, .int 0, .int 0, .int 0])), (wm, .inr (2, [.ref na, .ref nb, .int 0, .int 0, .int 0])), (p, .inr (4, [.ref ps, .ref pc, .int 0, .int 0, .int 0, .int 0])), (wv, aJ cJ 16384 (fun _ => 0)), (wk, aI cI 4096 (fun _ => 0))] ss_.heap.size = A at hD ⊢
  have hA : ∀ q : Nat, ss_.heap.size ≤ q → A q := fun q h => by rw [← hAe]; exact Or.inr h
  have hS : va_S A ss_.heap ss_.heap [] := va_S.rf
  have hP : va_P (dC, dI) vwCl [(x5, .inr (8, [.ref wm, .ref wt, .ref wv, .ref wk, .int 1, .ref we, .ref wf, .int 0, .ref p, .int g, .long 9007199254740991, .int 4095, .int 0, .int 0, .int 0, .int 0, .int 0])), (wm, .inr (2, [.ref na, .ref nb, .int 0, .int 0, .int 0])), (p, .inr (4, [.ref ps, .ref pc, .int 0, .int 0, .int 0, .int 0])), (wv, aJ cJ 16384 (fun _ => 0)), (wk, aI cI 4096 (fun _ => 0))] ss_.heap := hP
  have hl := lv_entry ([.ref x5, .int o, .int 0]) (n := 10) (Nat.le_of_ble_eq_true rfl)
  rw [lg_entry_eq]
  generalize (lg_sl ([.ref x5, .int o, .int 0]) ++ List.replicate (10 - (lg_sl ([.ref x5, .int o, .int 0])).length) Slot.unset).toArray = ls at hl ⊢
  have hl : lv_has ls 10 [(0, .ref x5), (1, .int o), (2, .int 0)] := hl
  refine lv_aload_n hx hb dX8_findHeap_0 rfl (lv_at hl 0 rfl) ?_
  refine va_get (D := (dC, dI)) (ci := 8) (v := .int 0) (C := RX8) (T := TX8) (N := 17) hx hb hts hiX8 hown hK hP 0 rfl rfl 12 (by decide) (hts (.fieldLink RX8 56 "WatchedPrograms$Watch" "secretCells" "I") (by decide +kernel)) (fun _ h9 => h9) rfl dX8_findHeap_1 ?_
  refine lv_aload_n hx hb dX8_findHeap_4 rfl (lv_at hl 0 rfl) ?_
  refine va_get (D := (dC, dI)) (ci := 8) (v := .ref p) (C := RX8) (T := TX8) (N := 17) hx hb hts hiX8 hown hK hP 0 rfl rfl 8 (by decide) (hts (.fieldLink RX8 46 "WatchedPrograms$Watch" "program" "LWatchedPrograms$Program;") (by decide +kernel)) (fun _ h9 => h9) rfl dX8_findHeap_5 ?_
  refine va_get (D := (dC, dI)) (ci := 4) (v := .int 0) (C := RX4) (T := TX4) (N := 6) hx hb hts hiX4 hown hK hP 2 rfl rfl 5 (by decide) (hts (.fieldLink RX8 69 "WatchedPrograms$Program" "used" "I") (by decide +kernel)) (fun _ h9 => h9) rfl dX8_findHeap_8 ?_
  refine lv_iand hx hb dX8_findHeap_11 ?_
  refine zi (y := 0) (by decide) ?_
  refine lv_istore_n (lv' := [(3, .int 0), (0, .ref x5), (1, .int o), (2, .int 0)]) hx hb dX8_findHeap_12 rfl hl (by decide) rfl (fun ls hl => ?_)
  refine lv_iload_n hx hb dX8_findHeap_13 rfl (lv_at hl 0 rfl) ?_
  refine vp_callSi (va_Run.run (va_runSN (As := [.int 0]) (rest := []) ⟨hx, hb, hml, hown, hts⟩ (c_nOf0 l dC dI cI cJ cS   ) ⟨va_cnB 1 hts gX8_findHeap_X9_numbersOf_n72 rfl rfl rfl hE.2.2.2.2.2.2.2.2.2.2.1 (hts (.initialized RX9) (by decide +kernel)) (by decide +kernel) ⟨Nat.le_of_ble_eq_true rfl, Nat.le_of_ble_eq_true rfl⟩, (hts (.static yX9_numbersOf) (by decide +kernel)), trivial⟩ (preR (hP.sub (ws' := []) [] rfl) hE) rfl rfl hl.1 rfl (lv_room (Nat.le_of_ble_eq_true rfl)) dX8_findHeap_14 ⟨by decide +kernel, by decide +kernel⟩)) (fun r_1 hr_2 => ?_)
  obtain rfl := hr_2
  refine lv_istore (lv' := [(4, .int 1), (3, .int 0), (0, .ref x5), (1, .int o), (2, .int 0)]) hx hb dX8_findHeap_17 hl (by decide) rfl (fun ls hl => ?_)
  refine lv_aload_n hx hb dX8_findHeap_19 rfl (lv_at hl 2 rfl) ?_
  refine lv_iload_n hx hb dX8_findHeap_20 rfl (lv_at hl 3 rfl) ?_
  refine lv_iload_n hx hb dX8_findHeap_21 rfl (lv_at hl 4 rfl) ?_
  refine lv_ior hx hb dX8_findHeap_22 ?_
  refine zi (y := o) Int32.or_zero ?_
  refine lv_aload_n hx hb dX8_findHeap_23 rfl (lv_at hl 2 rfl) ?_
  refine va_get (D := (dC, dI)) (ci := 8) (v := .int g) (C := RX8) (T := TX8) (N := 17) hx hb hts hiX8 hown hK hP 0 rfl rfl 9 (by decide) (hts (.fieldLink RX8 50 "WatchedPrograms$Watch" "watcher" "I") (by decide +kernel)) (fun _ h9 => h9) rfl dX8_findHeap_24 ?_
  refine lv_iconst (v := 0) hx hb dX8_findHeap_27 (by decide) ?_
  have hFc := va_free (wc := [(x5, .inr (8, [.ref wm, .ref wt, .ref wv, .ref wk, .int 1, .ref we, .ref wf, .int 0, .ref p, .int g, .long 9007199254740991, .int 4095, .int 0, .int 0, .int 0, .int 0, .int 0])), (wm, .inr (2, [.ref na, .ref nb, .int 0, .int 0, .int 0])), (p, .inr (4, [.ref ps, .ref pc, .int 0, .int 0, .int 0, .int 0])), (wv, aJ cJ 16384 (fun _ => 0)), (wk, aI cI 4096 (fun _ => 0))]) hD hS hA [0, 1, 2, 3, 4] rfl
  refine zCl (wr := []) hP hD hS hFc [0, 1, 2, 3, 4] [] rfl rfl (by decide) (by decide) (va_runV (As := [.int o, .int g, .int 0]) (rest := []) ⟨hx, hb, hml, hown, hts⟩ (c_look1 l dC dI cI cJ cS ss_.heap.size x5 o g wm wt wv wk we wf p g 9007199254740991 0 0 na nb ps pc ) (cwV 3 hts gX8_findHeap_X8_look rfl rfl rfl (by decide +kernel) ⟨Nat.le_of_ble_eq_true rfl, Nat.le_of_ble_eq_true rfl⟩) (preEV (hP.sub (ws' := [(x5, .inr (8, [.ref wm, .ref wt, .ref wv, .ref wk, .int 1, .ref we, .ref wf, .int 0, .ref p, .int g, .long 9007199254740991, .int 4095, .int 0, .int 0, .int 0, .int 0, .int 0])), (wm, .inr (2, [.ref na, .ref nb, .int 0, .int 0, .int 0])), (p, .inr (4, [.ref ps, .ref pc, .int 0, .int 0, .int 0, .int 0])), (wv, aJ cJ 16384 (fun _ => 0)), (wk, aI cI 4096 (fun _ => 0))]) [0, 1, 2, 3, 4] rfl) hE (hD.sub (ws' := [(x5, .inr (8, [.ref wm, .ref wt, .ref wv, .ref wk, .int 1, .ref we, .ref wf, .int 0, .ref p, .int g, .long 9007199254740991, .int 4095, .int 0, .int 0, .int 0, .int 0, .int 0])), (wm, .inr (2, [.ref na, .ref nb, .int 0, .int 0, .int 0])), (p, .inr (4, [.ref ps, .ref pc, .int 0, .int 0, .int 0, .int 0])), (wv, aJ cJ 16384 (fun _ => 0)), (wk, aI cI 4096 (fun _ => 0))]) [0, 1, 2, 3, 4] (by decide) rfl) 0 (ci := 8) rfl rfl) rfl rfl hl.1 rfl (lv_room (Nat.le_of_ble_eq_true rfl)) dX8_findHeap_28 ⟨by decide +kernel, by decide +kernel⟩) (fun r_3 u_5 H locs hr_4 hP hD hS => ?_)
  try dsimp only at hr_4
  have hP : va_P (dC, dI) vwCl [(x5, .inr (8, [.ref wm, .ref wt, .ref wv, .ref wk, .int 1, .ref we, .ref wf, .int 0, .ref p, .int g, .long 9007199254740991, .int 4095, .int 0, .int 0, .int 0, .int 0, .int 0])), (wv, aJ cJ 16384 (vp_updL (vp_updL (vp_updL (vp_updL (fun _ => 0) 0 1) 4096 1) 8192 1) 12288 1)), (wk, aI cI 4096 (upd (fun _ => 0) 0 1)), (wm, .inr (2, [.ref na, .ref nb, .int 0, .int 0, .int 0])), (p, .inr (4, [.ref ps, .ref pc, .int 0, .int 0, .int 0, .int 0]))] H := hP
  have hD : va_D A [(x5, .inr (8, [.ref wm, .ref wt, .ref wv, .ref wk, .int 1, .ref we, .ref wf, .int 0, .ref p, .int g, .long 9007199254740991, .int 4095, .int 0, .int 0, .int 0, .int 0, .int 0])), (wv, aJ cJ 16384 (vp_updL (vp_updL (vp_updL (vp_updL (fun _ => 0) 0 1) 4096 1) 8192 1) 12288 1)), (wk, aI cI 4096 (upd (fun _ => 0) 0 1)), (wm, .inr (2, [.ref na, .ref nb, .int 0, .int 0, .int 0])), (p, .inr (4, [.ref ps, .ref pc, .int 0, .int 0, .int 0, .int 0]))] := hD
  obtain rfl := hr_4
  refine lv_aload_n hx hb dX8_findHeap_31 rfl (lv_at hl 2 rfl) ?_
  refine va_get (D := (dC, dI)) (ci := 8) (v := .long 9007199254740991) (C := RX8) (T := TX8) (N := 17) hx hb hts hiX8 hown hK hP 0 rfl rfl 10 (by decide) (hts (.fieldLink RX8 65 "WatchedPrograms$Watch" "lens" "J") (by decide +kernel)) (fun _ h9 => h9) rfl dX8_findHeap_32 ?_
  refine lv_land hx hb dX8_findHeap_35 ?_
  refine zl (y := 1) (by decide) ?_
  refine lv_lstore (lv' := [(5, .long 1), (4, .int 1), (3, .int 0), (0, .ref x5), (1, .int o), (2, .int 0)]) hx hb dX8_findHeap_36 hl (by decide) rfl (fun ls hl => ?_)
  refine lv_iconst (v := (-1)) hx hb dX8_findHeap_38 (by decide) ?_
  refine lv_istore (lv' := [(7, .int (-1)), (5, .long 1), (4, .int 1), (3, .int 0), (0, .ref x5), (1, .int o), (2, .int 0)]) hx hb dX8_findHeap_39 hl (by decide) rfl (fun ls hl => ?_)
  refine lv_iconst (v := 0) hx hb dX8_findHeap_41 (by decide) ?_
  refine lv_istore (lv' := [(8, .int 0), (7, .int (-1)), (5, .long 1), (4, .int 1), (3, .int 0), (0, .ref x5), (1, .int o), (2, .int 0)]) hx hb dX8_findHeap_42 hl (by decide) rfl (fun ls hl => ?_)
  refine lv_aload_n hx hb dX8_findHeap_44 rfl (lv_at hl 5 rfl) ?_
  refine lv_iconst (v := 0) hx hb dX8_findHeap_45 (by decide) ?_
  refine va_put (D := (dC, dI)) (ci := 8) (v := .int 0) (ty := .int) (C := RX8) (T := TX8) (N := 17) hx hb hts hiX8 tyX8 tyX8_ok nmX8 hown hK hP hD hS 0 rfl rfl 13 (by decide) (hts (.fieldLink RX8 102 "WatchedPrograms$Watch" "foundSecrets" "I") (by decide +kernel)) (fun _ h9 => h9) rfl (by decide +kernel) rfl rfl (Nat.le_of_ble_eq_true rfl) dX8_findHeap_46 (fun H locs hP hD hS => ?_)
  have hP : va_P (dC, dI) vwCl [(x5, .inr (8, [.ref wm, .ref wt, .ref wv, .ref wk, .int 1, .ref we, .ref wf, .int 0, .ref p, .int g, .long 9007199254740991, .int 4095, .int 0, .int 0, .int 0, .int 0, .int 0])), (wv, aJ cJ 16384 (vp_updL (vp_updL (vp_updL (vp_updL (fun _ => 0) 0 1) 4096 1) 8192 1) 12288 1)), (wk, aI cI 4096 (upd (fun _ => 0) 0 1)), (wm, .inr (2, [.ref na, .ref nb, .int 0, .int 0, .int 0])), (p, .inr (4, [.ref ps, .ref pc, .int 0, .int 0, .int 0, .int 0]))] H := hP
  have hD : va_D A [(x5, .inr (8, [.ref wm, .ref wt, .ref wv, .ref wk, .int 1, .ref we, .ref wf, .int 0, .ref p, .int g, .long 9007199254740991, .int 4095, .int 0, .int 0, .int 0, .int 0, .int 0])), (wv, aJ cJ 16384 (vp_updL (vp_updL (vp_updL (vp_updL (fun _ => 0) 0 1) 4096 1) 8192 1) 12288 1)), (wk, aI cI 4096 (upd (fun _ => 0) 0 1)), (wm, .inr (2, [.ref na, .ref nb, .int 0, .int 0, .int 0])), (p, .inr (4, [.ref ps, .ref pc, .int 0, .int 0, .int 0, .int 0]))] := hD
  refine lv_iconst (v := 0) hx hb dX8_findHeap_49 (by decide) ?_
  refine lv_istore (lv' := [(9, .int 0), (8, .int 0), (7, .int (-1)), (5, .long 1), (4, .int 1), (3, .int 0), (0, .ref x5), (1, .int o), (2, .int 0)]) hx hb dX8_findHeap_50 hl (by decide) rfl (fun ls hl => ?_)
  refine lv_iload hx hb dX8_findHeap_52 (lv_at hl 0 rfl) ?_
  refine lv_iload hx hb dX8_findHeap_54 (lv_at hl 4 rfl) ?_
  refine lv_icmp_ge (tgt := 116) hx hb dX8_findHeap_56 (by decide) (fun c_6 => absurd c_6 (by decide)) (fun _ => ?_)
  refine lv_aload_n hx hb dX8_findHeap_59 rfl (lv_at hl 6 rfl) ?_
  refine lv_iload_n hx hb dX8_findHeap_60 rfl (lv_at hl 7 rfl) ?_
  refine lv_iload hx hb dX8_findHeap_61 (lv_at hl 1 rfl) ?_
  refine lv_ior hx hb dX8_findHeap_63 ?_
  refine zi (y := o) Int32.or_zero ?_
  refine lv_aload_n hx hb dX8_findHeap_64 rfl (lv_at hl 6 rfl) ?_
  refine va_get (D := (dC, dI)) (ci := 8) (v := .int g) (C := RX8) (T := TX8) (N := 17) hx hb hts hiX8 hown hK hP 0 rfl rfl 9 (by decide) (hts (.fieldLink RX8 50 "WatchedPrograms$Watch" "watcher" "I") (by decide +kernel)) (fun _ h9 => h9) rfl dX8_findHeap_65 ?_
  refine lv_iconst (v := 0) hx hb dX8_findHeap_68 (by decide) ?_
  have hFc := va_free (wc := [(x5, .inr (8, [.ref wm, .ref wt, .ref wv, .ref wk, .int 1, .ref we, .ref wf, .int 0, .ref p, .int g, .long 9007199254740991, .int 4095, .int 0, .int 0, .int 0, .int 0, .int 0])), (wv, aJ cJ 16384 (vp_updL (vp_updL (vp_updL (vp_updL (fun _ => 0) 0 1) 4096 1) 8192 1) 12288 1)), (wk, aI cI 4096 (upd (fun _ => 0) 0 1)), (wm, .inr (2, [.ref na, .ref nb, .int 0, .int 0, .int 0])), (p, .inr (4, [.ref ps, .ref pc, .int 0, .int 0, .int 0, .int 0]))]) hD hS hA [0, 1, 2, 3, 4] rfl
  refine zCl (wr := []) hP hD hS hFc [0, 1, 2, 3, 4] [] rfl rfl (by decide) (by decide) (va_runV (As := [.int o, .int g, .int 0]) (rest := []) ⟨hx, hb, hml, hown, hts⟩ (c_look2 l dC dI cI cJ cS H.size x5 o g wm wt wv wk we wf p g 9007199254740991 0 0 na nb ps pc ) (cwV 3 hts gX8_findHeap_X8_look rfl rfl rfl (by decide +kernel) ⟨Nat.le_of_ble_eq_true rfl, Nat.le_of_ble_eq_true rfl⟩) (preEV (hP.sub (ws' := [(x5, .inr (8, [.ref wm, .ref wt, .ref wv, .ref wk, .int 1, .ref we, .ref wf, .int 0, .ref p, .int g, .long 9007199254740991, .int 4095, .int 0, .int 0, .int 0, .int 0, .int 0])), (wv, aJ cJ 16384 (vp_updL (vp_updL (vp_updL (vp_updL (fun _ => 0) 0 1) 4096 1) 8192 1) 12288 1)), (wk, aI cI 4096 (upd (fun _ => 0) 0 1)), (wm, .inr (2, [.ref na, .ref nb, .int 0, .int 0, .int 0])), (p, .inr (4, [.ref ps, .ref pc, .int 0, .int 0, .int 0, .int 0]))]) [0, 1, 2, 3, 4] rfl) hE (hD.sub (ws' := [(x5, .inr (8, [.ref wm, .ref wt, .ref wv, .ref wk, .int 1, .ref we, .ref wf, .int 0, .ref p, .int g, .long 9007199254740991, .int 4095, .int 0, .int 0, .int 0, .int 0, .int 0])), (wv, aJ cJ 16384 (vp_updL (vp_updL (vp_updL (vp_updL (fun _ => 0) 0 1) 4096 1) 8192 1) 12288 1)), (wk, aI cI 4096 (upd (fun _ => 0) 0 1)), (wm, .inr (2, [.ref na, .ref nb, .int 0, .int 0, .int 0])), (p, .inr (4, [.ref ps, .ref pc, .int 0, .int 0, .int 0, .int 0]))]) [0, 1, 2, 3, 4] (by decide) rfl) 0 (ci := 8) rfl rfl) rfl rfl hl.1 rfl (lv_room (Nat.le_of_ble_eq_true rfl)) dX8_findHeap_69 ⟨by decide +kernel, by decide +kernel⟩) (fun r_7 u_9 H locs hr_8 hP hD hS => ?_)
  try dsimp only at hr_8
  have hP : va_P (dC, dI) vwCl [(x5, .inr (8, [.ref wm, .ref wt, .ref wv, .ref wk, .int 1, .ref we, .ref wf, .int 0, .ref p, .int g, .long 9007199254740991, .int 4095, .int 0, .int 0, .int 0, .int 0, .int 0])), (wv, aJ cJ 16384 (vp_updL (vp_updL (vp_updL (vp_updL (fun _ => 0) 0 1) 4096 1) 8192 1) 12288 1)), (wk, aI cI 4096 (upd (fun _ => 0) 0 1)), (wm, .inr (2, [.ref na, .ref nb, .int 0, .int 0, .int 0])), (p, .inr (4, [.ref ps, .ref pc, .int 0, .int 0, .int 0, .int 0]))] H := hP
  have hD : va_D A [(x5, .inr (8, [.ref wm, .ref wt, .ref wv, .ref wk, .int 1, .ref we, .ref wf, .int 0, .ref p, .int g, .long 9007199254740991, .int 4095, .int 0, .int 0, .int 0, .int 0, .int 0])), (wv, aJ cJ 16384 (vp_updL (vp_updL (vp_updL (vp_updL (fun _ => 0) 0 1) 4096 1) 8192 1) 12288 1)), (wk, aI cI 4096 (upd (fun _ => 0) 0 1)), (wm, .inr (2, [.ref na, .ref nb, .int 0, .int 0, .int 0])), (p, .inr (4, [.ref ps, .ref pc, .int 0, .int 0, .int 0, .int 0]))] := hD
  obtain rfl := hr_8
  refine lv_aload_n hx hb dX8_findHeap_72 rfl (lv_at hl 6 rfl) ?_
  refine va_get (D := (dC, dI)) (ci := 8) (v := .long 9007199254740991) (C := RX8) (T := TX8) (N := 17) hx hb hts hiX8 hown hK hP 0 rfl rfl 10 (by decide) (hts (.fieldLink RX8 65 "WatchedPrograms$Watch" "lens" "J") (by decide +kernel)) (fun _ h9 => h9) rfl dX8_findHeap_73 ?_
  refine lv_land hx hb dX8_findHeap_76 ?_
  refine zl (y := 1) (by decide) ?_
  refine lv_lload hx hb dX8_findHeap_77 (lv_at hl 3 rfl) ?_
  refine W.lcmp hx hb dX8_findHeap_79 ?_
  refine zi (y := 0) (by decide) ?_
  refine lv_if_ne (tgt := 102) hx hb dX8_findHeap_80 (by decide) (fun c_10 => absurd (by decide) c_10) (fun _ => ?_)
  refine lv_iload hx hb dX8_findHeap_83 (lv_at hl 2 rfl) ?_
  refine lv_if_ge (tgt := 92) hx hb dX8_findHeap_85 (by decide) (fun c_11 => absurd c_11 (by decide)) (fun _ => ?_)
  refine lv_iload hx hb dX8_findHeap_88 (lv_at hl 1 rfl) ?_
  refine lv_istore (lv' := [(7, .int 0), (9, .int 0), (8, .int 0), (5, .long 1), (4, .int 1), (3, .int 0), (0, .ref x5), (1, .int o), (2, .int 0)]) hx hb dX8_findHeap_90 hl (by decide) rfl (fun ls hl => ?_)
  refine lv_aload_n hx hb dX8_findHeap_92 rfl (lv_at hl 6 rfl) ?_
  refine lv_dup hx hb dX8_findHeap_93 rfl ?_
  refine va_get (D := (dC, dI)) (ci := 8) (v := .int 0) (C := RX8) (T := TX8) (N := 17) hx hb hts hiX8 hown hK hP 0 rfl rfl 13 (by decide) (hts (.fieldLink RX8 102 "WatchedPrograms$Watch" "foundSecrets" "I") (by decide +kernel)) (fun _ h9 => h9) rfl dX8_findHeap_94 ?_
  refine lv_iconst (v := 1) hx hb dX8_findHeap_97 (by decide) ?_
  refine lv_iadd hx hb dX8_findHeap_98 ?_
  refine zi (y := 1) (by decide) ?_
  refine va_put (D := (dC, dI)) (ci := 8) (v := .int 1) (ty := .int) (C := RX8) (T := TX8) (N := 17) hx hb hts hiX8 tyX8 tyX8_ok nmX8 hown hK hP hD hS 0 rfl rfl 13 (by decide) (hts (.fieldLink RX8 102 "WatchedPrograms$Watch" "foundSecrets" "I") (by decide +kernel)) (fun _ h9 => h9) rfl (by decide +kernel) rfl rfl (Nat.le_of_ble_eq_true rfl) dX8_findHeap_99 (fun H locs hP hD hS => ?_)
  have hP : va_P (dC, dI) vwCl [(x5, .inr (8, [.ref wm, .ref wt, .ref wv, .ref wk, .int 1, .ref we, .ref wf, .int 0, .ref p, .int g, .long 9007199254740991, .int 4095, .int 0, .int 1, .int 0, .int 0, .int 0])), (wv, aJ cJ 16384 (vp_updL (vp_updL (vp_updL (vp_updL (fun _ => 0) 0 1) 4096 1) 8192 1) 12288 1)), (wk, aI cI 4096 (upd (fun _ => 0) 0 1)), (wm, .inr (2, [.ref na, .ref nb, .int 0, .int 0, .int 0])), (p, .inr (4, [.ref ps, .ref pc, .int 0, .int 0, .int 0, .int 0]))] H := hP
  have hD : va_D A [(x5, .inr (8, [.ref wm, .ref wt, .ref wv, .ref wk, .int 1, .ref we, .ref wf, .int 0, .ref p, .int g, .long 9007199254740991, .int 4095, .int 0, .int 1, .int 0, .int 0, .int 0])), (wv, aJ cJ 16384 (vp_updL (vp_updL (vp_updL (vp_updL (fun _ => 0) 0 1) 4096 1) 8192 1) 12288 1)), (wk, aI cI 4096 (upd (fun _ => 0) 0 1)), (wm, .inr (2, [.ref na, .ref nb, .int 0, .int 0, .int 0])), (p, .inr (4, [.ref ps, .ref pc, .int 0, .int 0, .int 0, .int 0]))] := hD
  refine lv_iload hx hb dX8_findHeap_102 (lv_at hl 2 rfl) ?_
  refine lv_iload_n hx hb dX8_findHeap_104 rfl (lv_at hl 5 rfl) ?_
  refine vp_callSi (va_Run.run (va_runSN (As := [.int 0, .int 0]) (rest := []) ⟨hx, hb, hml, hown, hts⟩ (c_following0 l dC dI cI cJ cS   ) ⟨va_cnB 2 hts gX8_findHeap_X9_following_n88 rfl rfl rfl hE.2.2.2.2.2.2.2.2.2.2.2.2.1 (hts (.initialized RX9) (by decide +kernel)) (by decide +kernel) ⟨Nat.le_of_ble_eq_true rfl, Nat.le_of_ble_eq_true rfl⟩, (hts (.static yX9_following) (by decide +kernel)), trivial⟩ (preR (hP.sub (ws' := []) [] rfl) hE) rfl rfl hl.1 rfl (lv_room (Nat.le_of_ble_eq_true rfl)) dX8_findHeap_105 ⟨by decide +kernel, by decide +kernel⟩)) (fun r_12 hr_13 => ?_)
  obtain rfl := hr_13
  refine lv_istore (lv' := [(8, .int 0), (7, .int 0), (9, .int 0), (5, .long 1), (4, .int 1), (3, .int 0), (0, .ref x5), (1, .int o), (2, .int 0)]) hx hb dX8_findHeap_108 hl (by decide) rfl (fun ls hl => ?_)
  refine lv_iinc (v := 1) (lv' := [(9, .int 1), (8, .int 0), (7, .int 0), (5, .long 1), (4, .int 1), (3, .int 0), (0, .ref x5), (1, .int o), (2, .int 0)]) hx hb dX8_findHeap_110 hl (k := 2) rfl (by decide) (by decide) rfl (fun ls hl => ?_)
  refine lv_goto (tgt := 52) hx hb dX8_findHeap_113 (by decide) ?_
  refine lv_iload hx hb dX8_findHeap_52 (lv_at hl 0 rfl) ?_
  refine lv_iload hx hb dX8_findHeap_54 (lv_at hl 4 rfl) ?_
  refine lv_icmp_ge (tgt := 116) hx hb dX8_findHeap_56 (by decide) (fun _ => ?_) (fun c_14 => absurd (by decide) c_14)
  refine lv_iload hx hb dX8_findHeap_116 (lv_at hl 2 rfl) ?_
  have hP9 := hP.sub (ws' := [(x5, .inr (8, [.ref wm, .ref wt, .ref wv, .ref wk, .int 1, .ref we, .ref wf, .int 0, .ref p, .int g, .long 9007199254740991, .int 4095, .int 0, .int 1, .int 0, .int 0, .int 0])), (wv, aJ cJ 16384 (vp_updL (vp_updL (vp_updL (vp_updL (fun _ => 0) 0 1) 4096 1) 8192 1) 12288 1)), (wk, aI cI 4096 (upd (fun _ => 0) 0 1)), (wm, .inr (2, [.ref na, .ref nb, .int 0, .int 0, .int 0])), (p, .inr (4, [.ref ps, .ref pc, .int 0, .int 0, .int 0, .int 0]))]) [0, 1, 2, 3, 4] rfl
  have hD9 := hD.sub (ws' := [(x5, .inr (8, [.ref wm, .ref wt, .ref wv, .ref wk, .int 1, .ref we, .ref wf, .int 0, .ref p, .int g, .long 9007199254740991, .int 4095, .int 0, .int 1, .int 0, .int 0, .int 0])), (wv, aJ cJ 16384 (vp_updL (vp_updL (vp_updL (vp_updL (fun _ => 0) 0 1) 4096 1) 8192 1) 12288 1)), (wk, aI cI 4096 (upd (fun _ => 0) 0 1)), (wm, .inr (2, [.ref na, .ref nb, .int 0, .int 0, .int 0])), (p, .inr (4, [.ref ps, .ref pc, .int 0, .int 0, .int 0, .int 0]))]) [0, 1, 2, 3, 4] (by decide) rfl
  exact W.iret (v := 0) hx hb hr (fun tt_ ht hW => ⟨⟨_, (), rfl, rfl, by rw [ht]; exact hP9, hD9⟩, hS.F ht⟩) hS.2.2 dX8_findHeap_118
set_option maxHeartbeats 1000000 in
set_option maxRecDepth 100000 in
theorem c_untriedF0 (l : Launch) (dC : Nat → ClassId) (dI : Nat → Nat → Nat) (cI cJ cS : ClassId) (x5 : Nat) (wm : Nat) (wt : Nat) (wv : Nat) (wk : Nat) (we : Nat) (wf : Nat) (p : Nat) (g : Int32) (ps : Nat) (pc : Nat)  : Met l yX8_untriedSecrets wsX8_untriedSecrets ({ frames := 2, cells := 0, slots := 0, locals := 40 }) (va_Pc [.ref x5] (PR dC dI cI cJ cS [(x5, .inr (8, [.ref wm, .ref wt, .ref wv, .ref wk, .int 1, .ref we, .ref wf, .int 0, .ref p, .int g, .long 9007199254740991, .int 4095, .int 0, .int 1, .int 0, .int 0, .int 0])), (p, .inr (4, [.ref ps, .ref pc, .int 0, .int 0, .int 0, .int 0]))])) (vp_Si (fun r : Int32 => r = 1)) 0 0 (fun _ => False) := by
  refine Met.ofW (cc := cX8_untriedSecrets) (maxL := 1) (ret := (some .int)) (by decide) rfl ?_
  intro pp_ ee_ ss_ mm_ args below meth cc_ s₁ B hml hv
  obtain ⟨rfl, hP, hE⟩ := hv
  have hx := B.exec
  have hb := B.bytes
  have hr := B.returns
  have hts := atoms_spec (ws := wsX8_untriedSecrets) B.pre
  have hown : ss_.vm.findClass RX8 = some mm_.cls := findClass_of_methodNamed B.named
  have hlocks := B.notSynchronized
  have hK := hE.1
  have hiX4 : ∀ w ∈ wsX40, w ∈ wsX8_untriedSecrets := by decide +kernel
  have hiX8 : ∀ w ∈ wsX80, w ∈ wsX8_untriedSecrets := by decide +kernel
  have hP : va_P (dC, dI) vwCl [(x5, .inr (8, [.ref wm, .ref wt, .ref wv, .ref wk, .int 1, .ref we, .ref wf, .int 0, .ref p, .int g, .long 9007199254740991, .int 4095, .int 0, .int 1, .int 0, .int 0, .int 0])), (p, .inr (4, [.ref ps, .ref pc, .int 0, .int 0, .int 0, .int 0]))] ss_.heap := hP
  have hl := lv_entry ([.ref x5]) (n := 1) (Nat.le_of_ble_eq_true rfl)
  rw [lg_entry_eq]
  generalize (lg_sl ([.ref x5]) ++ List.replicate (1 - (lg_sl ([.ref x5])).length) Slot.unset).toArray = ls at hl ⊢
  have hl : lv_has ls 1 [(0, .ref x5)] := hl
  refine lv_aload_n hx hb dX8_untriedSecrets_0 rfl (lv_at hl 0 rfl) ?_
  refine va_get (D := (dC, dI)) (ci := 8) (v := .int 0) (C := RX8) (T := TX8) (N := 17) hx hb hts hiX8 hown hK hP 0 rfl rfl 12 (by decide) (hts (.fieldLink RX8 56 "WatchedPrograms$Watch" "secretCells" "I") (by decide +kernel)) (fun _ h9 => h9) rfl dX8_untriedSecrets_1 ?_
  refine lv_aload_n hx hb dX8_untriedSecrets_4 rfl (lv_at hl 0 rfl) ?_
  refine va_get (D := (dC, dI)) (ci := 8) (v := .ref p) (C := RX8) (T := TX8) (N := 17) hx hb hts hiX8 hown hK hP 0 rfl rfl 8 (by decide) (hts (.fieldLink RX8 46 "WatchedPrograms$Watch" "program" "LWatchedPrograms$Program;") (by decide +kernel)) (fun _ h9 => h9) rfl dX8_untriedSecrets_5 ?_
  refine va_get (D := (dC, dI)) (ci := 4) (v := .int 0) (C := RX4) (T := TX4) (N := 6) hx hb hts hiX4 hown hK hP 1 rfl rfl 5 (by decide) (hts (.fieldLink RX8 69 "WatchedPrograms$Program" "used" "I") (by decide +kernel)) (fun _ h9 => h9) rfl dX8_untriedSecrets_8 ?_
  refine lv_iconst (v := (-1)) hx hb dX8_untriedSecrets_11 (by decide) ?_
  refine lv_ixor hx hb dX8_untriedSecrets_12 ?_
  refine zi (y := (-1)) (by decide) ?_
  refine lv_iand hx hb dX8_untriedSecrets_13 ?_
  refine zi (y := 0) (by decide) ?_
  refine vp_callSi (va_Run.run (va_runSN (As := [.int 0]) (rest := []) ⟨hx, hb, hml, hown, hts⟩ (c_nOf0 l dC dI cI cJ cS   ) ⟨va_cnB 1 hts gX8_untriedSecrets_X9_numbersOf_n72 rfl rfl rfl hE.2.2.2.2.2.2.2.2.2.2.1 (hts (.initialized RX9) (by decide +kernel)) (by decide +kernel) ⟨Nat.le_of_ble_eq_true rfl, Nat.le_of_ble_eq_true rfl⟩, (hts (.static yX9_numbersOf) (by decide +kernel)), trivial⟩ (preR (hP.sub (ws' := []) [] rfl) hE) rfl rfl hl.1 rfl (lv_room (Nat.le_of_ble_eq_true rfl)) dX8_untriedSecrets_14 ⟨by decide +kernel, by decide +kernel⟩)) (fun r_1 hr_2 => ?_)
  obtain rfl := hr_2
  exact W.iret (v := 1) hx hb hr (fun tt_ ht hW => ⟨_, rfl, rfl, ht⟩) (fun _ h => by cases h) dX8_untriedSecrets_17
set_option maxHeartbeats 1000000 in
set_option maxRecDepth 100000 in
theorem c_foundSize0 (l : Launch) (dC : Nat → ClassId) (dI : Nat → Nat → Nat) (cI cJ cS : ClassId) (x5 : Nat) (wm : Nat) (wt : Nat) (wv : Nat) (wk : Nat) (we : Nat) (wf : Nat) (p : Nat) (g : Int32) (ps : Nat) (pc : Nat)  : Met l yX8_foundSize wsX8_foundSize ({ frames := 3, cells := 0, slots := 0, locals := 60 }) (va_Pc [.ref x5] (PR dC dI cI cJ cS [(x5, .inr (8, [.ref wm, .ref wt, .ref wv, .ref wk, .int 1, .ref we, .ref wf, .int 0, .ref p, .int g, .long 9007199254740991, .int 4095, .int 0, .int 1, .int 0, .int 0, .int 0])), (p, .inr (4, [.ref ps, .ref pc, .int 0, .int 0, .int 0, .int 0]))])) (vp_Si (fun r : Int32 => r = 1)) 0 0 (fun _ => False) := by
  refine Met.ofW (cc := cX8_foundSize) (maxL := 1) (ret := (some .int)) (by decide) rfl ?_
  intro pp_ ee_ ss_ mm_ args below meth cc_ s₁ B hml hv
  obtain ⟨rfl, hP, hE⟩ := hv
  have hx := B.exec
  have hb := B.bytes
  have hr := B.returns
  have hts := atoms_spec (ws := wsX8_foundSize) B.pre
  have hown : ss_.vm.findClass RX8 = some mm_.cls := findClass_of_methodNamed B.named
  have hlocks := B.notSynchronized
  have hK := hE.1
  have hiX8 : ∀ w ∈ wsX80, w ∈ wsX8_foundSize := by decide +kernel
  have hP : va_P (dC, dI) vwCl [(x5, .inr (8, [.ref wm, .ref wt, .ref wv, .ref wk, .int 1, .ref we, .ref wf, .int 0, .ref p, .int g, .long 9007199254740991, .int 4095, .int 0, .int 1, .int 0, .int 0, .int 0])), (p, .inr (4, [.ref ps, .ref pc, .int 0, .int 0, .int 0, .int 0]))] ss_.heap := hP
  have hl := lv_entry ([.ref x5]) (n := 1) (Nat.le_of_ble_eq_true rfl)
  rw [lg_entry_eq]
  generalize (lg_sl ([.ref x5]) ++ List.replicate (1 - (lg_sl ([.ref x5])).length) Slot.unset).toArray = ls at hl ⊢
  have hl : lv_has ls 1 [(0, .ref x5)] := hl
  refine lv_aload_n hx hb dX8_foundSize_0 rfl (lv_at hl 0 rfl) ?_
  refine va_get (D := (dC, dI)) (ci := 8) (v := .int 1) (C := RX8) (T := TX8) (N := 17) hx hb hts hiX8 hown hK hP 0 rfl rfl 13 (by decide) (hts (.fieldLink RX8 102 "WatchedPrograms$Watch" "foundSecrets" "I") (by decide +kernel)) (fun _ h9 => h9) rfl dX8_foundSize_1 ?_
  refine lv_aload_n hx hb dX8_foundSize_4 rfl (lv_at hl 0 rfl) ?_
  refine vp_callSi (va_Run.run (va_runV (As := []) (rest := [.int 1]) ⟨hx, hb, hml, hown, hts⟩ (c_untriedF0 l dC dI cI cJ cS  x5 wm wt wv wk we wf p g ps pc ) (cwV 0 hts gX8_foundSize_X8_untriedSecrets rfl rfl rfl (by decide +kernel) ⟨Nat.le_of_ble_eq_true rfl, Nat.le_of_ble_eq_true rfl⟩) (preRV (hP.sub (ws' := [(x5, .inr (8, [.ref wm, .ref wt, .ref wv, .ref wk, .int 1, .ref we, .ref wf, .int 0, .ref p, .int g, .long 9007199254740991, .int 4095, .int 0, .int 1, .int 0, .int 0, .int 0])), (p, .inr (4, [.ref ps, .ref pc, .int 0, .int 0, .int 0, .int 0]))]) [0, 1] rfl) hE 0 (ci := 8) rfl rfl) rfl rfl hl.1 rfl (lv_room (Nat.le_of_ble_eq_true rfl)) dX8_foundSize_5 ⟨by decide +kernel, by decide +kernel⟩)) (fun r_1 hr_2 => ?_)
  obtain rfl := hr_2
  refine lv_imul hx hb dX8_foundSize_8 ?_
  refine zi (y := 1) (by decide) ?_
  exact W.iret (v := 1) hx hb hr (fun tt_ ht hW => ⟨_, rfl, rfl, ht⟩) (fun _ h => by cases h) dX8_foundSize_9
set_option maxHeartbeats 1000000 in
set_option maxRecDepth 100000 in
theorem c_findPair0 (l : Launch) (dC : Nat → ClassId) (dI : Nat → Nat → Nat) (cI cJ cS : ClassId) (x5 : Nat) (wm : Nat) (wt : Nat) (wv : Nat) (wk : Nat) (we : Nat) (wf : Nat) (p : Nat) (g : Int32) (ps : Nat) (pc : Nat)  : Met l yX8_findPair wsX8_findPair ({ frames := 2, cells := 0, slots := 0, locals := 40 }) (va_Pc [.ref x5, .int 0] (PR dC dI cI cJ cS [(x5, .inr (8, [.ref wm, .ref wt, .ref wv, .ref wk, .int 1, .ref we, .ref wf, .int 0, .ref p, .int g, .long 9007199254740991, .int 4095, .int 0, .int 0, .int 0, .int 0, .int 0])), (p, .inr (4, [.ref ps, .ref pc, .int 0, .int 0, .int 0, .int 0]))])) (vp_Si (fun r : Int32 => r = 0)) 0 0 (fun _ => False) := by
  refine Met.ofW (cc := cX8_findPair) (maxL := 10) (ret := (some .boolean)) (by decide) rfl ?_
  intro pp_ ee_ ss_ mm_ args below meth cc_ s₁ B hml hv
  obtain ⟨rfl, hP, hE⟩ := hv
  have hx := B.exec
  have hb := B.bytes
  have hr := B.returns
  have hts := atoms_spec (ws := wsX8_findPair) B.pre
  have hown : ss_.vm.findClass RX8 = some mm_.cls := findClass_of_methodNamed B.named
  have hlocks := B.notSynchronized
  have hK := hE.1
  have hiX4 : ∀ w ∈ wsX40, w ∈ wsX8_findPair := by decide +kernel
  have hiX8 : ∀ w ∈ wsX80, w ∈ wsX8_findPair := by decide +kernel
  have hP : va_P (dC, dI) vwCl [(x5, .inr (8, [.ref wm, .ref wt, .ref wv, .ref wk, .int 1, .ref we, .ref wf, .int 0, .ref p, .int g, .long 9007199254740991, .int 4095, .int 0, .int 0, .int 0, .int 0, .int 0])), (p, .inr (4, [.ref ps, .ref pc, .int 0, .int 0, .int 0, .int 0]))] ss_.heap := hP
  have hl := lv_entry ([.ref x5, .int 0]) (n := 10) (Nat.le_of_ble_eq_true rfl)
  rw [lg_entry_eq]
  generalize (lg_sl ([.ref x5, .int 0]) ++ List.replicate (10 - (lg_sl ([.ref x5, .int 0])).length) Slot.unset).toArray = ls at hl ⊢
  have hl : lv_has ls 10 [(0, .ref x5), (1, .int 0)] := hl
  refine lv_aload_n hx hb dX8_findPair_0 rfl (lv_at hl 0 rfl) ?_
  refine va_get (D := (dC, dI)) (ci := 8) (v := .int 4095) (C := RX8) (T := TX8) (N := 17) hx hb hts hiX8 hown hK hP 0 rfl rfl 11 (by decide) (hts (.fieldLink RX8 53 "WatchedPrograms$Watch" "openCells" "I") (by decide +kernel)) (fun _ h9 => h9) rfl dX8_findPair_1 ?_
  refine lv_aload_n hx hb dX8_findPair_4 rfl (lv_at hl 0 rfl) ?_
  refine va_get (D := (dC, dI)) (ci := 8) (v := .ref p) (C := RX8) (T := TX8) (N := 17) hx hb hts hiX8 hown hK hP 0 rfl rfl 8 (by decide) (hts (.fieldLink RX8 46 "WatchedPrograms$Watch" "program" "LWatchedPrograms$Program;") (by decide +kernel)) (fun _ h9 => h9) rfl dX8_findPair_5 ?_
  refine va_get (D := (dC, dI)) (ci := 4) (v := .int 0) (C := RX4) (T := TX4) (N := 6) hx hb hts hiX4 hown hK hP 1 rfl rfl 5 (by decide) (hts (.fieldLink RX8 69 "WatchedPrograms$Program" "used" "I") (by decide +kernel)) (fun _ h9 => h9) rfl dX8_findPair_8 ?_
  refine lv_iand hx hb dX8_findPair_11 ?_
  refine zi (y := 0) (by decide) ?_
  refine lv_istore_n (lv' := [(2, .int 0), (0, .ref x5), (1, .int 0)]) hx hb dX8_findPair_12 rfl hl (by decide) rfl (fun ls hl => ?_)
  refine lv_aload_n hx hb dX8_findPair_13 rfl (lv_at hl 1 rfl) ?_
  refine va_get (D := (dC, dI)) (ci := 8) (v := .int 0) (C := RX8) (T := TX8) (N := 17) hx hb hts hiX8 hown hK hP 0 rfl rfl 12 (by decide) (hts (.fieldLink RX8 56 "WatchedPrograms$Watch" "secretCells" "I") (by decide +kernel)) (fun _ h9 => h9) rfl dX8_findPair_14 ?_
  refine lv_aload_n hx hb dX8_findPair_17 rfl (lv_at hl 1 rfl) ?_
  refine va_get (D := (dC, dI)) (ci := 8) (v := .ref p) (C := RX8) (T := TX8) (N := 17) hx hb hts hiX8 hown hK hP 0 rfl rfl 8 (by decide) (hts (.fieldLink RX8 46 "WatchedPrograms$Watch" "program" "LWatchedPrograms$Program;") (by decide +kernel)) (fun _ h9 => h9) rfl dX8_findPair_18 ?_
  refine va_get (D := (dC, dI)) (ci := 4) (v := .int 0) (C := RX4) (T := TX4) (N := 6) hx hb hts hiX4 hown hK hP 1 rfl rfl 5 (by decide) (hts (.fieldLink RX8 69 "WatchedPrograms$Program" "used" "I") (by decide +kernel)) (fun _ h9 => h9) rfl dX8_findPair_21 ?_
  refine lv_iand hx hb dX8_findPair_24 ?_
  refine zi (y := 0) (by decide) ?_
  refine lv_istore_n (lv' := [(3, .int 0), (2, .int 0), (0, .ref x5), (1, .int 0)]) hx hb dX8_findPair_25 rfl hl (by decide) rfl (fun ls hl => ?_)
  refine lv_iload_n hx hb dX8_findPair_26 rfl (lv_at hl 1 rfl) ?_
  refine vp_callSi (va_Run.run (va_runSN (As := [.int 0]) (rest := []) ⟨hx, hb, hml, hown, hts⟩ (c_nOf0 l dC dI cI cJ cS   ) ⟨va_cnB 1 hts gX8_findPair_X9_numbersOf_n72 rfl rfl rfl hE.2.2.2.2.2.2.2.2.2.2.1 (hts (.initialized RX9) (by decide +kernel)) (by decide +kernel) ⟨Nat.le_of_ble_eq_true rfl, Nat.le_of_ble_eq_true rfl⟩, (hts (.static yX9_numbersOf) (by decide +kernel)), trivial⟩ (preR (hP.sub (ws' := []) [] rfl) hE) rfl rfl hl.1 rfl (lv_room (Nat.le_of_ble_eq_true rfl)) dX8_findPair_27 ⟨by decide +kernel, by decide +kernel⟩)) (fun r_1 hr_2 => ?_)
  obtain rfl := hr_2
  refine lv_istore (lv' := [(4, .int 1), (3, .int 0), (2, .int 0), (0, .ref x5), (1, .int 0)]) hx hb dX8_findPair_30 hl (by decide) rfl (fun ls hl => ?_)
  refine lv_iload_n hx hb dX8_findPair_32 rfl (lv_at hl 1 rfl) ?_
  refine vp_callSi (va_Run.run (va_runSN (As := [.int 0]) (rest := []) ⟨hx, hb, hml, hown, hts⟩ (c_nOf0 l dC dI cI cJ cS   ) ⟨va_cnB 1 hts gX8_findPair_X9_numbersOf_n72 rfl rfl rfl hE.2.2.2.2.2.2.2.2.2.2.1 (hts (.initialized RX9) (by decide +kernel)) (by decide +kernel) ⟨Nat.le_of_ble_eq_true rfl, Nat.le_of_ble_eq_true rfl⟩, (hts (.static yX9_numbersOf) (by decide +kernel)), trivial⟩ (preR (hP.sub (ws' := []) [] rfl) hE) rfl rfl hl.1 rfl (lv_room (Nat.le_of_ble_eq_true rfl)) dX8_findPair_33 ⟨by decide +kernel, by decide +kernel⟩)) (fun r_3 hr_4 => ?_)
  obtain rfl := hr_4
  refine lv_istore (lv' := [(5, .int 1), (4, .int 1), (3, .int 0), (2, .int 0), (0, .ref x5), (1, .int 0)]) hx hb dX8_findPair_36 hl (by decide) rfl (fun ls hl => ?_)
  refine lv_iload hx hb dX8_findPair_38 (lv_at hl 0 rfl) ?_
  refine lv_iconst (v := 2) hx hb dX8_findPair_40 (by decide) ?_
  refine lv_icmp_ge (tgt := 46) hx hb dX8_findPair_41 (by decide) (fun c_5 => absurd c_5 (by decide)) (fun _ => ?_)
  refine lv_iconst (v := 0) hx hb dX8_findPair_44 (by decide) ?_
  exact W.zret (v := 0) hx hb hr (by decide) (fun tt_ ht hW => ⟨_, rfl, rfl, ht⟩) (fun _ h => by cases h) dX8_findPair_45
set_option maxHeartbeats 1000000 in
set_option maxRecDepth 100000 in
theorem c_tellsMost0 (l : Launch) (dC : Nat → ClassId) (dI : Nat → Nat → Nat) (cI cJ cS : ClassId) (sz : Nat) (x5 : Nat) (wm : Nat) (wt : Nat) (wv : Nat) (wk : Nat) (we : Nat) (wf : Nat) (p : Nat) (g : Int32) (na : Nat) (nb : Nat) (ps : Nat) (pc : Nat) (ta : Nat) (tb : Nat) (tc : Nat) (td : Nat)  : Met l yX8_tellsMost wsX8_tellsMost ({ frames := 5, cells := 0, slots := 0, locals := 108 }) (va_Pc [.ref x5] (PE dC dI cI cJ cS [(x5, .inr (8, [.ref wm, .ref wt, .ref wv, .ref wk, .int 1, .ref we, .ref wf, .int 0, .ref p, .int g, .long 9007199254740991, .int 4095, .int 0, .int 0, .int 0, .int 0, .int 0])), (wm, .inr (2, [.ref na, .ref nb, .int 0, .int 0, .int 0])), (p, .inr (4, [.ref ps, .ref pc, .int 0, .int 0, .int 0, .int 0])), (wv, aJ cJ 16384 (fun _ => 0)), (wk, aI cI 4096 (fun _ => 0)), (wt, .inr (1, [.ref ta, .ref tb, .ref tc, .ref td, .int 0, .int 0, .int 0])), (td, aI cI 8192 (fun _ => 0)), (ta, aJ cJ 4096 (fun _ => 0)), (tb, aJ cJ 4096 (fun _ => 0)), (tc, aI cI 4096 (fun _ => 0))] sz)) (va_Qi (fun (r : Int32) (_ : Unit) => r = 0) (BE dC dI (va_A [(x5, .inr (8, [.ref wm, .ref wt, .ref wv, .ref wk, .int 1, .ref we, .ref wf, .int 0, .ref p, .int g, .long 9007199254740991, .int 4095, .int 0, .int 0, .int 0, .int 0, .int 0])), (wm, .inr (2, [.ref na, .ref nb, .int 0, .int 0, .int 0])), (p, .inr (4, [.ref ps, .ref pc, .int 0, .int 0, .int 0, .int 0])), (wv, aJ cJ 16384 (fun _ => 0)), (wk, aI cI 4096 (fun _ => 0)), (wt, .inr (1, [.ref ta, .ref tb, .ref tc, .ref td, .int 0, .int 0, .int 0])), (td, aI cI 8192 (fun _ => 0)), (ta, aJ cJ 4096 (fun _ => 0)), (tb, aJ cJ 4096 (fun _ => 0)), (tc, aI cI 4096 (fun _ => 0))] sz) (fun (_ : Unit) => [(x5, .inr (8, [.ref wm, .ref wt, .ref wv, .ref wk, .int 1, .ref we, .ref wf, .int 0, .ref p, .int g, .long 9007199254740991, .int 4095, .int 0, .int 0, .int 0, .int 0, .int 1])), (wv, aJ cJ 16384 (vp_updL (vp_updL (vp_updL (vp_updL (fun _ => 0) 0 1) 4096 1) 8192 1) 12288 1)), (wk, aI cI 4096 (upd (fun _ => 0) 0 1)), (wm, .inr (2, [.ref na, .ref nb, .int 0, .int 0, .int 0])), (p, .inr (4, [.ref ps, .ref pc, .int 0, .int 0, .int 0, .int 0])), (td, aI cI 8192 (upd (upd (upd (fun _ => 0) 0 0) 1 0) 1 1)), (ta, aJ cJ 4096 (vp_updL (fun _ => 0) 0 1)), (tb, aJ cJ 4096 (vp_updL (fun _ => 0) 0 0)), (wt, .inr (1, [.ref ta, .ref tb, .ref tc, .ref td, .int 1, .int 1, .int 1])), (tc, aI cI 4096 (upd (upd (fun _ => 0) 0 0) 0 1))])) (va_A [(x5, .inr (8, [.ref wm, .ref wt, .ref wv, .ref wk, .int 1, .ref we, .ref wf, .int 0, .ref p, .int g, .long 9007199254740991, .int 4095, .int 0, .int 0, .int 0, .int 0, .int 0])), (wm, .inr (2, [.ref na, .ref nb, .int 0, .int 0, .int 0])), (p, .inr (4, [.ref ps, .ref pc, .int 0, .int 0, .int 0, .int 0])), (wv, aJ cJ 16384 (fun _ => 0)), (wk, aI cI 4096 (fun _ => 0)), (wt, .inr (1, [.ref ta, .ref tb, .ref tc, .ref td, .int 0, .int 0, .int 0])), (td, aI cI 8192 (fun _ => 0)), (ta, aJ cJ 4096 (fun _ => 0)), (tb, aJ cJ 4096 (fun _ => 0)), (tc, aI cI 4096 (fun _ => 0))] sz)) 0 0 (va_A [(x5, .inr (8, [.ref wm, .ref wt, .ref wv, .ref wk, .int 1, .ref we, .ref wf, .int 0, .ref p, .int g, .long 9007199254740991, .int 4095, .int 0, .int 0, .int 0, .int 0, .int 0])), (wm, .inr (2, [.ref na, .ref nb, .int 0, .int 0, .int 0])), (p, .inr (4, [.ref ps, .ref pc, .int 0, .int 0, .int 0, .int 0])), (wv, aJ cJ 16384 (fun _ => 0)), (wk, aI cI 4096 (fun _ => 0)), (wt, .inr (1, [.ref ta, .ref tb, .ref tc, .ref td, .int 0, .int 0, .int 0])), (td, aI cI 8192 (fun _ => 0)), (ta, aJ cJ 4096 (fun _ => 0)), (tb, aJ cJ 4096 (fun _ => 0)), (tc, aI cI 4096 (fun _ => 0))] sz) := by
  refine Met.ofW (cc := cX8_tellsMost) (maxL := 8) (ret := (some .int)) (by decide) rfl ?_
  intro pp_ ee_ ss_ mm_ args below meth cc_ s₁ B hml hv
  obtain ⟨rfl, hsz, hP, hE, hD0⟩ := hv
  have hx := B.exec
  have hb := B.bytes
  have hr := B.returns
  have hts := atoms_spec (ws := wsX8_tellsMost) B.pre
  have hown : ss_.vm.findClass RX8 = some mm_.cls := findClass_of_methodNamed B.named
  have hlocks := B.notSynchronized
  have hK := hE.1
  have hiX4 : ∀ w ∈ wsX40, w ∈ wsX8_tellsMost := by decide +kernel
  have hiX8 : ∀ w ∈ wsX80, w ∈ wsX8_tellsMost := by decide +kernel
  subst hsz
  have hD := hD0.self (sz := ss_.heap.size)
  generalize hAe : va_A [(x5, .inr (8, [.ref wm, .ref wt, .ref wv, .ref wk, .int 1, .ref we, .ref wf, .int 0, .ref p, .int g, .long 9007199254740991, .int 4095, .int 0, .int 0, .int 0, .int 0, .int 0])), (wm, .inr (2, [.ref na, .ref nb, .int 0, .int 0, .int 0])), (p, .inr (4, [.ref ps, .ref pc, .int 0, .int 0, .int 0, .int 0])), (wv, aJ cJ 16384 (fun _ => 0)), (wk, aI cI 4096 (fun _ => 0)), (wt, .inr (1, [.ref ta, .ref tb, .ref tc, .ref td, .int 0, .int 0, .int 0])), (td, aI cI 8192 (fun _ => 0)), (ta, aJ cJ 4096 (fun _ => 0)), (tb, aJ cJ 4096 (fun _ => 0)), (tc, aI cI 4096 (fun _ => 0))] ss_.heap.size = A at hD ⊢
  have hA : ∀ q : Nat, ss_.heap.size ≤ q → A q := fun q h => by rw [← hAe]; exact Or.inr h
  have hS : va_S A ss_.heap ss_.heap [] := va_S.rf
  have hP : va_P (dC, dI) vwCl [(x5, .inr (8, [.ref wm, .ref wt, .ref wv, .ref wk, .int 1, .ref we, .ref wf, .int 0, .ref p, .int g, .long 9007199254740991, .int 4095, .int 0, .int 0, .int 0, .int 0, .int 0])), (wm, .inr (2, [.ref na, .ref nb, .int 0, .int 0, .int 0])), (p, .inr (4, [.ref ps, .ref pc, .int 0, .int 0, .int 0, .int 0])), (wv, aJ cJ 16384 (fun _ => 0)), (wk, aI cI 4096 (fun _ => 0)), (wt, .inr (1, [.ref ta, .ref tb, .ref tc, .ref td, .int 0, .int 0, .int 0])), (td, aI cI 8192 (fun _ => 0)), (ta, aJ cJ 4096 (fun _ => 0)), (tb, aJ cJ 4096 (fun _ => 0)), (tc, aI cI 4096 (fun _ => 0))] ss_.heap := hP
  have hl := lv_entry ([.ref x5]) (n := 8) (Nat.le_of_ble_eq_true rfl)
  rw [lg_entry_eq]
  generalize (lg_sl ([.ref x5]) ++ List.replicate (8 - (lg_sl ([.ref x5])).length) Slot.unset).toArray = ls at hl ⊢
  have hl : lv_has ls 8 [(0, .ref x5)] := hl
  refine lv_aload_n hx hb dX8_tellsMost_0 rfl (lv_at hl 0 rfl) ?_
  refine va_get (D := (dC, dI)) (ci := 8) (v := .int 4095) (C := RX8) (T := TX8) (N := 17) hx hb hts hiX8 hown hK hP 0 rfl rfl 11 (by decide) (hts (.fieldLink RX8 53 "WatchedPrograms$Watch" "openCells" "I") (by decide +kernel)) (fun _ h9 => h9) rfl dX8_tellsMost_1 ?_
  refine lv_aload_n hx hb dX8_tellsMost_4 rfl (lv_at hl 0 rfl) ?_
  refine va_get (D := (dC, dI)) (ci := 8) (v := .ref p) (C := RX8) (T := TX8) (N := 17) hx hb hts hiX8 hown hK hP 0 rfl rfl 8 (by decide) (hts (.fieldLink RX8 46 "WatchedPrograms$Watch" "program" "LWatchedPrograms$Program;") (by decide +kernel)) (fun _ h9 => h9) rfl dX8_tellsMost_5 ?_
  refine va_get (D := (dC, dI)) (ci := 4) (v := .int 0) (C := RX4) (T := TX4) (N := 6) hx hb hts hiX4 hown hK hP 2 rfl rfl 5 (by decide) (hts (.fieldLink RX8 69 "WatchedPrograms$Program" "used" "I") (by decide +kernel)) (fun _ h9 => h9) rfl dX8_tellsMost_8 ?_
  refine lv_iand hx hb dX8_tellsMost_11 ?_
  refine zi (y := 0) (by decide) ?_
  refine lv_istore_n (lv' := [(1, .int 0), (0, .ref x5)]) hx hb dX8_tellsMost_12 rfl hl (by decide) rfl (fun ls hl => ?_)
  refine lv_iload_n hx hb dX8_tellsMost_13 rfl (lv_at hl 0 rfl) ?_
  refine vp_callSi (va_Run.run (va_runSN (As := [.int 0]) (rest := []) ⟨hx, hb, hml, hown, hts⟩ (c_nOf0 l dC dI cI cJ cS   ) ⟨va_cnB 1 hts gX8_tellsMost_X9_numbersOf_n72 rfl rfl rfl hE.2.2.2.2.2.2.2.2.2.2.1 (hts (.initialized RX9) (by decide +kernel)) (by decide +kernel) ⟨Nat.le_of_ble_eq_true rfl, Nat.le_of_ble_eq_true rfl⟩, (hts (.static yX9_numbersOf) (by decide +kernel)), trivial⟩ (preR (hP.sub (ws' := []) [] rfl) hE) rfl rfl hl.1 rfl (lv_room (Nat.le_of_ble_eq_true rfl)) dX8_tellsMost_14 ⟨by decide +kernel, by decide +kernel⟩)) (fun r_1 hr_2 => ?_)
  obtain rfl := hr_2
  refine lv_istore_n (lv' := [(2, .int 1), (1, .int 0), (0, .ref x5)]) hx hb dX8_tellsMost_17 rfl hl (by decide) rfl (fun ls hl => ?_)
  refine lv_aload_n hx hb dX8_tellsMost_18 rfl (lv_at hl 2 rfl) ?_
  refine va_get (D := (dC, dI)) (ci := 8) (v := .int 0) (C := RX8) (T := TX8) (N := 17) hx hb hts hiX8 hown hK hP 0 rfl rfl 12 (by decide) (hts (.fieldLink RX8 56 "WatchedPrograms$Watch" "secretCells" "I") (by decide +kernel)) (fun _ h9 => h9) rfl dX8_tellsMost_19 ?_
  refine lv_aload_n hx hb dX8_tellsMost_22 rfl (lv_at hl 2 rfl) ?_
  refine va_get (D := (dC, dI)) (ci := 8) (v := .ref p) (C := RX8) (T := TX8) (N := 17) hx hb hts hiX8 hown hK hP 0 rfl rfl 8 (by decide) (hts (.fieldLink RX8 46 "WatchedPrograms$Watch" "program" "LWatchedPrograms$Program;") (by decide +kernel)) (fun _ h9 => h9) rfl dX8_tellsMost_23 ?_
  refine va_get (D := (dC, dI)) (ci := 4) (v := .int 0) (C := RX4) (T := TX4) (N := 6) hx hb hts hiX4 hown hK hP 2 rfl rfl 5 (by decide) (hts (.fieldLink RX8 69 "WatchedPrograms$Program" "used" "I") (by decide +kernel)) (fun _ h9 => h9) rfl dX8_tellsMost_26 ?_
  refine lv_iand hx hb dX8_tellsMost_29 ?_
  refine zi (y := 0) (by decide) ?_
  refine vp_callSi (va_Run.run (va_runSN (As := [.int 0]) (rest := []) ⟨hx, hb, hml, hown, hts⟩ (c_nOf0 l dC dI cI cJ cS   ) ⟨va_cnB 1 hts gX8_tellsMost_X9_numbersOf_n72 rfl rfl rfl hE.2.2.2.2.2.2.2.2.2.2.1 (hts (.initialized RX9) (by decide +kernel)) (by decide +kernel) ⟨Nat.le_of_ble_eq_true rfl, Nat.le_of_ble_eq_true rfl⟩, (hts (.static yX9_numbersOf) (by decide +kernel)), trivial⟩ (preR (hP.sub (ws' := []) [] rfl) hE) rfl rfl hl.1 rfl (lv_room (Nat.le_of_ble_eq_true rfl)) dX8_tellsMost_30 ⟨by decide +kernel, by decide +kernel⟩)) (fun r_3 hr_4 => ?_)
  obtain rfl := hr_4
  refine lv_istore_n (lv' := [(3, .int 1), (2, .int 1), (1, .int 0), (0, .ref x5)]) hx hb dX8_tellsMost_33 rfl hl (by decide) rfl (fun ls hl => ?_)
  refine lv_iconst (v := 0) hx hb dX8_tellsMost_34 (by decide) ?_
  refine lv_istore (lv' := [(4, .int 0), (3, .int 1), (2, .int 1), (1, .int 0), (0, .ref x5)]) hx hb dX8_tellsMost_35 hl (by decide) rfl (fun ls hl => ?_)
  refine lv_iconst (v := 0) hx hb dX8_tellsMost_37 (by decide) ?_
  refine lv_istore (lv' := [(5, .int 0), (4, .int 0), (3, .int 1), (2, .int 1), (1, .int 0), (0, .ref x5)]) hx hb dX8_tellsMost_38 hl (by decide) rfl (fun ls hl => ?_)
  refine lv_aload_n hx hb dX8_tellsMost_40 rfl (lv_at hl 5 rfl) ?_
  refine lv_iconst (v := 0) hx hb dX8_tellsMost_41 (by decide) ?_
  refine va_put (D := (dC, dI)) (ci := 8) (v := .int 0) (ty := .int) (C := RX8) (T := TX8) (N := 17) hx hb hts hiX8 tyX8 tyX8_ok nmX8 hown hK hP hD hS 0 rfl rfl 16 (by decide) (hts (.fieldLink RX8 111 "WatchedPrograms$Watch" "mostHeaps" "I") (by decide +kernel)) (fun _ h9 => h9) rfl (by decide +kernel) rfl rfl (Nat.le_of_ble_eq_true rfl) dX8_tellsMost_42 (fun H locs hP hD hS => ?_)
  have hP : va_P (dC, dI) vwCl [(x5, .inr (8, [.ref wm, .ref wt, .ref wv, .ref wk, .int 1, .ref we, .ref wf, .int 0, .ref p, .int g, .long 9007199254740991, .int 4095, .int 0, .int 0, .int 0, .int 0, .int 0])), (wm, .inr (2, [.ref na, .ref nb, .int 0, .int 0, .int 0])), (p, .inr (4, [.ref ps, .ref pc, .int 0, .int 0, .int 0, .int 0])), (wv, aJ cJ 16384 (fun _ => 0)), (wk, aI cI 4096 (fun _ => 0)), (wt, .inr (1, [.ref ta, .ref tb, .ref tc, .ref td, .int 0, .int 0, .int 0])), (td, aI cI 8192 (fun _ => 0)), (ta, aJ cJ 4096 (fun _ => 0)), (tb, aJ cJ 4096 (fun _ => 0)), (tc, aI cI 4096 (fun _ => 0))] H := hP
  have hD : va_D A [(x5, .inr (8, [.ref wm, .ref wt, .ref wv, .ref wk, .int 1, .ref we, .ref wf, .int 0, .ref p, .int g, .long 9007199254740991, .int 4095, .int 0, .int 0, .int 0, .int 0, .int 0])), (wm, .inr (2, [.ref na, .ref nb, .int 0, .int 0, .int 0])), (p, .inr (4, [.ref ps, .ref pc, .int 0, .int 0, .int 0, .int 0])), (wv, aJ cJ 16384 (fun _ => 0)), (wk, aI cI 4096 (fun _ => 0)), (wt, .inr (1, [.ref ta, .ref tb, .ref tc, .ref td, .int 0, .int 0, .int 0])), (td, aI cI 8192 (fun _ => 0)), (ta, aJ cJ 4096 (fun _ => 0)), (tb, aJ cJ 4096 (fun _ => 0)), (tc, aI cI 4096 (fun _ => 0))] := hD
  refine lv_iconst (v := 0) hx hb dX8_tellsMost_45 (by decide) ?_
  refine lv_istore (lv' := [(6, .int 0), (5, .int 0), (4, .int 0), (3, .int 1), (2, .int 1), (1, .int 0), (0, .ref x5)]) hx hb dX8_tellsMost_46 hl (by decide) rfl (fun ls hl => ?_)
  refine lv_iload hx hb dX8_tellsMost_48 (lv_at hl 0 rfl) ?_
  refine lv_iload_n hx hb dX8_tellsMost_50 rfl (lv_at hl 4 rfl) ?_
  refine lv_icmp_ge (tgt := 103) hx hb dX8_tellsMost_51 (by decide) (fun c_5 => absurd c_5 (by decide)) (fun _ => ?_)
  refine lv_aload_n hx hb dX8_tellsMost_54 rfl (lv_at hl 6 rfl) ?_
  refine va_get (D := (dC, dI)) (ci := 8) (v := .int 0) (C := RX8) (T := TX8) (N := 17) hx hb hts hiX8 hown hK hP 0 rfl rfl 16 (by decide) (hts (.fieldLink RX8 111 "WatchedPrograms$Watch" "mostHeaps" "I") (by decide +kernel)) (fun _ h9 => h9) rfl dX8_tellsMost_55 ?_
  refine lv_iload_n hx hb dX8_tellsMost_58 rfl (lv_at hl 3 rfl) ?_
  refine lv_icmp_ge (tgt := 103) hx hb dX8_tellsMost_59 (by decide) (fun c_6 => absurd c_6 (by decide)) (fun _ => ?_)
  refine lv_aload_n hx hb dX8_tellsMost_62 rfl (lv_at hl 6 rfl) ?_
  refine lv_iload hx hb dX8_tellsMost_63 (lv_at hl 2 rfl) ?_
  have hFc := va_free (wc := [(x5, .inr (8, [.ref wm, .ref wt, .ref wv, .ref wk, .int 1, .ref we, .ref wf, .int 0, .ref p, .int g, .long 9007199254740991, .int 4095, .int 0, .int 0, .int 0, .int 0, .int 0])), (wm, .inr (2, [.ref na, .ref nb, .int 0, .int 0, .int 0])), (p, .inr (4, [.ref ps, .ref pc, .int 0, .int 0, .int 0, .int 0])), (wv, aJ cJ 16384 (fun _ => 0)), (wk, aI cI 4096 (fun _ => 0)), (wt, .inr (1, [.ref ta, .ref tb, .ref tc, .ref td, .int 0, .int 0, .int 0])), (td, aI cI 8192 (fun _ => 0)), (ta, aJ cJ 4096 (fun _ => 0)), (tb, aJ cJ 4096 (fun _ => 0)), (tc, aI cI 4096 (fun _ => 0))]) hD hS hA [0, 1, 2, 3, 4, 5, 6, 7, 8, 9] rfl
  refine zCi (wr := []) hP hD hS hFc [0, 1, 2, 3, 4, 5, 6, 7, 8, 9] [] rfl rfl (by decide) (by decide) (va_runV (As := [.int 0]) (rest := []) ⟨hx, hb, hml, hown, hts⟩ (c_countHeaps0 l dC dI cI cJ cS H.size x5 0 wm wt wv wk we wf p g na nb ps pc ta tb tc td ) (cwV 1 hts gX8_tellsMost_X8_countHeaps rfl rfl rfl (by decide +kernel) ⟨Nat.le_of_ble_eq_true rfl, Nat.le_of_ble_eq_true rfl⟩) (preEV (hP.sub (ws' := [(x5, .inr (8, [.ref wm, .ref wt, .ref wv, .ref wk, .int 1, .ref we, .ref wf, .int 0, .ref p, .int g, .long 9007199254740991, .int 4095, .int 0, .int 0, .int 0, .int 0, .int 0])), (wm, .inr (2, [.ref na, .ref nb, .int 0, .int 0, .int 0])), (p, .inr (4, [.ref ps, .ref pc, .int 0, .int 0, .int 0, .int 0])), (wv, aJ cJ 16384 (fun _ => 0)), (wk, aI cI 4096 (fun _ => 0)), (wt, .inr (1, [.ref ta, .ref tb, .ref tc, .ref td, .int 0, .int 0, .int 0])), (td, aI cI 8192 (fun _ => 0)), (ta, aJ cJ 4096 (fun _ => 0)), (tb, aJ cJ 4096 (fun _ => 0)), (tc, aI cI 4096 (fun _ => 0))]) [0, 1, 2, 3, 4, 5, 6, 7, 8, 9] rfl) hE (hD.sub (ws' := [(x5, .inr (8, [.ref wm, .ref wt, .ref wv, .ref wk, .int 1, .ref we, .ref wf, .int 0, .ref p, .int g, .long 9007199254740991, .int 4095, .int 0, .int 0, .int 0, .int 0, .int 0])), (wm, .inr (2, [.ref na, .ref nb, .int 0, .int 0, .int 0])), (p, .inr (4, [.ref ps, .ref pc, .int 0, .int 0, .int 0, .int 0])), (wv, aJ cJ 16384 (fun _ => 0)), (wk, aI cI 4096 (fun _ => 0)), (wt, .inr (1, [.ref ta, .ref tb, .ref tc, .ref td, .int 0, .int 0, .int 0])), (td, aI cI 8192 (fun _ => 0)), (ta, aJ cJ 4096 (fun _ => 0)), (tb, aJ cJ 4096 (fun _ => 0)), (tc, aI cI 4096 (fun _ => 0))]) [0, 1, 2, 3, 4, 5, 6, 7, 8, 9] (by decide) rfl) 0 (ci := 8) rfl rfl) rfl rfl hl.1 rfl (lv_room (Nat.le_of_ble_eq_true rfl)) dX8_tellsMost_65 ⟨by decide +kernel, by decide +kernel⟩) (fun r_7 u_9 H locs hr_8 hP hD hS => ?_)
  try dsimp only at hr_8
  have hP : va_P (dC, dI) vwCl [(x5, .inr (8, [.ref wm, .ref wt, .ref wv, .ref wk, .int 1, .ref we, .ref wf, .int 0, .ref p, .int g, .long 9007199254740991, .int 4095, .int 0, .int 0, .int 0, .int 0, .int 0])), (wv, aJ cJ 16384 (vp_updL (vp_updL (vp_updL (vp_updL (fun _ => 0) 0 1) 4096 1) 8192 1) 12288 1)), (wk, aI cI 4096 (upd (fun _ => 0) 0 1)), (wm, .inr (2, [.ref na, .ref nb, .int 0, .int 0, .int 0])), (p, .inr (4, [.ref ps, .ref pc, .int 0, .int 0, .int 0, .int 0])), (td, aI cI 8192 (upd (upd (upd (fun _ => 0) 0 0) 1 0) 1 1)), (ta, aJ cJ 4096 (vp_updL (fun _ => 0) 0 1)), (tb, aJ cJ 4096 (vp_updL (fun _ => 0) 0 0)), (wt, .inr (1, [.ref ta, .ref tb, .ref tc, .ref td, .int 1, .int 1, .int 1])), (tc, aI cI 4096 (upd (upd (fun _ => 0) 0 0) 0 1))] H := hP
  have hD : va_D A [(x5, .inr (8, [.ref wm, .ref wt, .ref wv, .ref wk, .int 1, .ref we, .ref wf, .int 0, .ref p, .int g, .long 9007199254740991, .int 4095, .int 0, .int 0, .int 0, .int 0, .int 0])), (wv, aJ cJ 16384 (vp_updL (vp_updL (vp_updL (vp_updL (fun _ => 0) 0 1) 4096 1) 8192 1) 12288 1)), (wk, aI cI 4096 (upd (fun _ => 0) 0 1)), (wm, .inr (2, [.ref na, .ref nb, .int 0, .int 0, .int 0])), (p, .inr (4, [.ref ps, .ref pc, .int 0, .int 0, .int 0, .int 0])), (td, aI cI 8192 (upd (upd (upd (fun _ => 0) 0 0) 1 0) 1 1)), (ta, aJ cJ 4096 (vp_updL (fun _ => 0) 0 1)), (tb, aJ cJ 4096 (vp_updL (fun _ => 0) 0 0)), (wt, .inr (1, [.ref ta, .ref tb, .ref tc, .ref td, .int 1, .int 1, .int 1])), (tc, aI cI 4096 (upd (upd (fun _ => 0) 0 0) 0 1))] := hD
  obtain rfl := hr_8
  refine lv_istore (lv' := [(7, .int 1), (6, .int 0), (5, .int 0), (4, .int 0), (3, .int 1), (2, .int 1), (1, .int 0), (0, .ref x5)]) hx hb dX8_tellsMost_68 hl (by decide) rfl (fun ls hl => ?_)
  refine lv_iload hx hb dX8_tellsMost_70 (lv_at hl 0 rfl) ?_
  refine lv_aload_n hx hb dX8_tellsMost_72 rfl (lv_at hl 7 rfl) ?_
  refine va_get (D := (dC, dI)) (ci := 8) (v := .int 0) (C := RX8) (T := TX8) (N := 17) hx hb hts hiX8 hown hK hP 0 rfl rfl 16 (by decide) (hts (.fieldLink RX8 111 "WatchedPrograms$Watch" "mostHeaps" "I") (by decide +kernel)) (fun _ h9 => h9) rfl dX8_tellsMost_73 ?_
  refine lv_icmp_le (tgt := 89) hx hb dX8_tellsMost_76 (by decide) (fun c_10 => absurd c_10 (by decide)) (fun _ => ?_)
  refine lv_aload_n hx hb dX8_tellsMost_79 rfl (lv_at hl 7 rfl) ?_
  refine lv_iload hx hb dX8_tellsMost_80 (lv_at hl 0 rfl) ?_
  refine va_put (D := (dC, dI)) (ci := 8) (v := .int 1) (ty := .int) (C := RX8) (T := TX8) (N := 17) hx hb hts hiX8 tyX8 tyX8_ok nmX8 hown hK hP hD hS 0 rfl rfl 16 (by decide) (hts (.fieldLink RX8 111 "WatchedPrograms$Watch" "mostHeaps" "I") (by decide +kernel)) (fun _ h9 => h9) rfl (by decide +kernel) rfl rfl (Nat.le_of_ble_eq_true rfl) dX8_tellsMost_82 (fun H locs hP hD hS => ?_)
  have hP : va_P (dC, dI) vwCl [(x5, .inr (8, [.ref wm, .ref wt, .ref wv, .ref wk, .int 1, .ref we, .ref wf, .int 0, .ref p, .int g, .long 9007199254740991, .int 4095, .int 0, .int 0, .int 0, .int 0, .int 1])), (wv, aJ cJ 16384 (vp_updL (vp_updL (vp_updL (vp_updL (fun _ => 0) 0 1) 4096 1) 8192 1) 12288 1)), (wk, aI cI 4096 (upd (fun _ => 0) 0 1)), (wm, .inr (2, [.ref na, .ref nb, .int 0, .int 0, .int 0])), (p, .inr (4, [.ref ps, .ref pc, .int 0, .int 0, .int 0, .int 0])), (td, aI cI 8192 (upd (upd (upd (fun _ => 0) 0 0) 1 0) 1 1)), (ta, aJ cJ 4096 (vp_updL (fun _ => 0) 0 1)), (tb, aJ cJ 4096 (vp_updL (fun _ => 0) 0 0)), (wt, .inr (1, [.ref ta, .ref tb, .ref tc, .ref td, .int 1, .int 1, .int 1])), (tc, aI cI 4096 (upd (upd (fun _ => 0) 0 0) 0 1))] H := hP
  have hD : va_D A [(x5, .inr (8, [.ref wm, .ref wt, .ref wv, .ref wk, .int 1, .ref we, .ref wf, .int 0, .ref p, .int g, .long 9007199254740991, .int 4095, .int 0, .int 0, .int 0, .int 0, .int 1])), (wv, aJ cJ 16384 (vp_updL (vp_updL (vp_updL (vp_updL (fun _ => 0) 0 1) 4096 1) 8192 1) 12288 1)), (wk, aI cI 4096 (upd (fun _ => 0) 0 1)), (wm, .inr (2, [.ref na, .ref nb, .int 0, .int 0, .int 0])), (p, .inr (4, [.ref ps, .ref pc, .int 0, .int 0, .int 0, .int 0])), (td, aI cI 8192 (upd (upd (upd (fun _ => 0) 0 0) 1 0) 1 1)), (ta, aJ cJ 4096 (vp_updL (fun _ => 0) 0 1)), (tb, aJ cJ 4096 (vp_updL (fun _ => 0) 0 0)), (wt, .inr (1, [.ref ta, .ref tb, .ref tc, .ref td, .int 1, .int 1, .int 1])), (tc, aI cI 4096 (upd (upd (fun _ => 0) 0 0) 0 1))] := hD
  refine lv_iload hx hb dX8_tellsMost_85 (lv_at hl 3 rfl) ?_
  refine lv_istore (lv' := [(5, .int 0), (7, .int 1), (6, .int 0), (4, .int 0), (3, .int 1), (2, .int 1), (1, .int 0), (0, .ref x5)]) hx hb dX8_tellsMost_87 hl (by decide) rfl (fun ls hl => ?_)
  refine lv_iload hx hb dX8_tellsMost_89 (lv_at hl 3 rfl) ?_
  refine lv_iload_n hx hb dX8_tellsMost_91 rfl (lv_at hl 6 rfl) ?_
  refine vp_callSi (va_Run.run (va_runSN (As := [.int 0, .int 0]) (rest := []) ⟨hx, hb, hml, hown, hts⟩ (c_following0 l dC dI cI cJ cS   ) ⟨va_cnB 2 hts gX8_tellsMost_X9_following_n88 rfl rfl rfl hE.2.2.2.2.2.2.2.2.2.2.2.2.1 (hts (.initialized RX9) (by decide +kernel)) (by decide +kernel) ⟨Nat.le_of_ble_eq_true rfl, Nat.le_of_ble_eq_true rfl⟩, (hts (.static yX9_following) (by decide +kernel)), trivial⟩ (preR (hP.sub (ws' := []) [] rfl) hE) rfl rfl hl.1 rfl (lv_room (Nat.le_of_ble_eq_true rfl)) dX8_tellsMost_92 ⟨by decide +kernel, by decide +kernel⟩)) (fun r_11 hr_12 => ?_)
  obtain rfl := hr_12
  refine lv_istore (lv' := [(4, .int 0), (5, .int 0), (7, .int 1), (6, .int 0), (3, .int 1), (2, .int 1), (1, .int 0), (0, .ref x5)]) hx hb dX8_tellsMost_95 hl (by decide) rfl (fun ls hl => ?_)
  refine lv_iinc (v := 1) (lv' := [(6, .int 1), (4, .int 0), (5, .int 0), (7, .int 1), (3, .int 1), (2, .int 1), (1, .int 0), (0, .ref x5)]) hx hb dX8_tellsMost_97 hl (k := 3) rfl (by decide) (by decide) rfl (fun ls hl => ?_)
  refine lv_goto (tgt := 48) hx hb dX8_tellsMost_100 (by decide) ?_
  refine lv_iload hx hb dX8_tellsMost_48 (lv_at hl 0 rfl) ?_
  refine lv_iload_n hx hb dX8_tellsMost_50 rfl (lv_at hl 5 rfl) ?_
  refine lv_icmp_ge (tgt := 103) hx hb dX8_tellsMost_51 (by decide) (fun _ => ?_) (fun c_13 => absurd (by decide) c_13)
  refine lv_iload hx hb dX8_tellsMost_103 (lv_at hl 2 rfl) ?_
  have hP9 := hP.sub (ws' := [(x5, .inr (8, [.ref wm, .ref wt, .ref wv, .ref wk, .int 1, .ref we, .ref wf, .int 0, .ref p, .int g, .long 9007199254740991, .int 4095, .int 0, .int 0, .int 0, .int 0, .int 1])), (wv, aJ cJ 16384 (vp_updL (vp_updL (vp_updL (vp_updL (fun _ => 0) 0 1) 4096 1) 8192 1) 12288 1)), (wk, aI cI 4096 (upd (fun _ => 0) 0 1)), (wm, .inr (2, [.ref na, .ref nb, .int 0, .int 0, .int 0])), (p, .inr (4, [.ref ps, .ref pc, .int 0, .int 0, .int 0, .int 0])), (td, aI cI 8192 (upd (upd (upd (fun _ => 0) 0 0) 1 0) 1 1)), (ta, aJ cJ 4096 (vp_updL (fun _ => 0) 0 1)), (tb, aJ cJ 4096 (vp_updL (fun _ => 0) 0 0)), (wt, .inr (1, [.ref ta, .ref tb, .ref tc, .ref td, .int 1, .int 1, .int 1])), (tc, aI cI 4096 (upd (upd (fun _ => 0) 0 0) 0 1))]) [0, 1, 2, 3, 4, 5, 6, 7, 8, 9] rfl
  have hD9 := hD.sub (ws' := [(x5, .inr (8, [.ref wm, .ref wt, .ref wv, .ref wk, .int 1, .ref we, .ref wf, .int 0, .ref p, .int g, .long 9007199254740991, .int 4095, .int 0, .int 0, .int 0, .int 0, .int 1])), (wv, aJ cJ 16384 (vp_updL (vp_updL (vp_updL (vp_updL (fun _ => 0) 0 1) 4096 1) 8192 1) 12288 1)), (wk, aI cI 4096 (upd (fun _ => 0) 0 1)), (wm, .inr (2, [.ref na, .ref nb, .int 0, .int 0, .int 0])), (p, .inr (4, [.ref ps, .ref pc, .int 0, .int 0, .int 0, .int 0])), (td, aI cI 8192 (upd (upd (upd (fun _ => 0) 0 0) 1 0) 1 1)), (ta, aJ cJ 4096 (vp_updL (fun _ => 0) 0 1)), (tb, aJ cJ 4096 (vp_updL (fun _ => 0) 0 0)), (wt, .inr (1, [.ref ta, .ref tb, .ref tc, .ref td, .int 1, .int 1, .int 1])), (tc, aI cI 4096 (upd (upd (fun _ => 0) 0 0) 0 1))]) [0, 1, 2, 3, 4, 5, 6, 7, 8, 9] (by decide) rfl
  exact W.iret (v := 0) hx hb hr (fun tt_ ht hW => ⟨⟨_, (), rfl, rfl, by rw [ht]; exact hP9, hD9⟩, hS.F ht⟩) hS.2.2 dX8_tellsMost_105
set_option maxHeartbeats 1000000 in
set_option maxRecDepth 100000 in
theorem c_countTogether0 (l : Launch) (dC : Nat → ClassId) (dI : Nat → Nat → Nat) (cI cJ cS : ClassId) (sz : Nat) (x5 : Nat) (o : Int32) (oo : Int32) (wm : Nat) (wt : Nat) (wv : Nat) (wk : Nat) (we : Nat) (wf : Nat) (p : Nat) (g : Int32) (na : Nat) (nb : Nat) (ps : Nat) (pc : Nat) (ta : Nat) (tb : Nat) (tc : Nat) (td : Nat)  : Met l yX8_countTogether wsX8_countTogether ({ frames := 4, cells := 0, slots := 0, locals := 83 }) (va_Pc [.ref x5, .int o, .int oo] (PE dC dI cI cJ cS [(x5, .inr (8, [.ref wm, .ref wt, .ref wv, .ref wk, .int 1, .ref we, .ref wf, .int 0, .ref p, .int g, .long 9007199254740991, .int 4095, .int 0, .int 0, .int 0, .int 0, .int 0])), (wm, .inr (2, [.ref na, .ref nb, .int 0, .int 0, .int 0])), (p, .inr (4, [.ref ps, .ref pc, .int 0, .int 0, .int 0, .int 0])), (wv, aJ cJ 16384 (fun _ => 0)), (wk, aI cI 4096 (fun _ => 0)), (wt, .inr (1, [.ref ta, .ref tb, .ref tc, .ref td, .int 0, .int 0, .int 0])), (td, aI cI 8192 (fun _ => 0)), (ta, aJ cJ 4096 (fun _ => 0)), (tb, aJ cJ 4096 (fun _ => 0)), (tc, aI cI 4096 (fun _ => 0))] sz)) (va_Qi (fun (r : Int32) (_ : Unit) => r = 1) (BE dC dI (va_A [(x5, .inr (8, [.ref wm, .ref wt, .ref wv, .ref wk, .int 1, .ref we, .ref wf, .int 0, .ref p, .int g, .long 9007199254740991, .int 4095, .int 0, .int 0, .int 0, .int 0, .int 0])), (wm, .inr (2, [.ref na, .ref nb, .int 0, .int 0, .int 0])), (p, .inr (4, [.ref ps, .ref pc, .int 0, .int 0, .int 0, .int 0])), (wv, aJ cJ 16384 (fun _ => 0)), (wk, aI cI 4096 (fun _ => 0)), (wt, .inr (1, [.ref ta, .ref tb, .ref tc, .ref td, .int 0, .int 0, .int 0])), (td, aI cI 8192 (fun _ => 0)), (ta, aJ cJ 4096 (fun _ => 0)), (tb, aJ cJ 4096 (fun _ => 0)), (tc, aI cI 4096 (fun _ => 0))] sz) (fun (_ : Unit) => [(x5, .inr (8, [.ref wm, .ref wt, .ref wv, .ref wk, .int 1, .ref we, .ref wf, .int 0, .ref p, .int g, .long 9007199254740991, .int 4095, .int 0, .int 0, .int 0, .int 0, .int 0])), (wv, aJ cJ 16384 (vp_updL (vp_updL (vp_updL (vp_updL (fun _ => 0) 0 1) 4096 1) 8192 1) 12288 1)), (wk, aI cI 4096 (upd (fun _ => 0) 0 1)), (wm, .inr (2, [.ref na, .ref nb, .int 0, .int 0, .int 0])), (p, .inr (4, [.ref ps, .ref pc, .int 0, .int 0, .int 0, .int 0])), (td, aI cI 8192 (upd (upd (upd (fun _ => 0) 0 0) 1 0) 1 1)), (ta, aJ cJ 4096 (vp_updL (fun _ => 0) 0 1)), (tb, aJ cJ 4096 (vp_updL (fun _ => 0) 0 1)), (wt, .inr (1, [.ref ta, .ref tb, .ref tc, .ref td, .int 1, .int 1, .int 1])), (tc, aI cI 4096 (upd (upd (fun _ => 0) 0 0) 0 1))])) (va_A [(x5, .inr (8, [.ref wm, .ref wt, .ref wv, .ref wk, .int 1, .ref we, .ref wf, .int 0, .ref p, .int g, .long 9007199254740991, .int 4095, .int 0, .int 0, .int 0, .int 0, .int 0])), (wm, .inr (2, [.ref na, .ref nb, .int 0, .int 0, .int 0])), (p, .inr (4, [.ref ps, .ref pc, .int 0, .int 0, .int 0, .int 0])), (wv, aJ cJ 16384 (fun _ => 0)), (wk, aI cI 4096 (fun _ => 0)), (wt, .inr (1, [.ref ta, .ref tb, .ref tc, .ref td, .int 0, .int 0, .int 0])), (td, aI cI 8192 (fun _ => 0)), (ta, aJ cJ 4096 (fun _ => 0)), (tb, aJ cJ 4096 (fun _ => 0)), (tc, aI cI 4096 (fun _ => 0))] sz)) 0 0 (va_A [(x5, .inr (8, [.ref wm, .ref wt, .ref wv, .ref wk, .int 1, .ref we, .ref wf, .int 0, .ref p, .int g, .long 9007199254740991, .int 4095, .int 0, .int 0, .int 0, .int 0, .int 0])), (wm, .inr (2, [.ref na, .ref nb, .int 0, .int 0, .int 0])), (p, .inr (4, [.ref ps, .ref pc, .int 0, .int 0, .int 0, .int 0])), (wv, aJ cJ 16384 (fun _ => 0)), (wk, aI cI 4096 (fun _ => 0)), (wt, .inr (1, [.ref ta, .ref tb, .ref tc, .ref td, .int 0, .int 0, .int 0])), (td, aI cI 8192 (fun _ => 0)), (ta, aJ cJ 4096 (fun _ => 0)), (tb, aJ cJ 4096 (fun _ => 0)), (tc, aI cI 4096 (fun _ => 0))] sz) := by
  refine Met.ofW (cc := cX8_countTogether) (maxL := 7) (ret := (some .int)) (by decide) rfl ?_
  intro pp_ ee_ ss_ mm_ args below meth cc_ s₁ B hml hv
  obtain ⟨rfl, hsz, hP, hE, hD0⟩ := hv
  have hx := B.exec
  have hb := B.bytes
  have hr := B.returns
  have hts := atoms_spec (ws := wsX8_countTogether) B.pre
  have hown : ss_.vm.findClass RX8 = some mm_.cls := findClass_of_methodNamed B.named
  have hlocks := B.notSynchronized
  have hK := hE.1
  have hiX1 : ∀ w ∈ wsX10, w ∈ wsX8_countTogether := by decide +kernel
  have hiX4 : ∀ w ∈ wsX40, w ∈ wsX8_countTogether := by decide +kernel
  have hiX8 : ∀ w ∈ wsX80, w ∈ wsX8_countTogether := by decide +kernel
  subst hsz
  have hD := hD0.self (sz := ss_.heap.size)
  generalize hAe : va_A [(x5, .inr (8, [.ref wm, .ref wt, .ref wv, .ref wk, .int 1, .ref we, .ref wf, .int 0, .ref p, .int g, .long 9007199254740991, .int 4095, .int 0, .int 0, .int 0, .int 0, .int 0])), (wm, .inr (2, [.ref na, .ref nb, .int 0, .int 0, .int 0])), (p, .inr (4, [.ref ps, .ref pc, .int 0, .int 0, .int 0, .int 0])), (wv, aJ cJ 16384 (fun _ => 0)), (wk, aI cI 4096 (fun _ => 0)), (wt, .inr (1, [.ref ta, .ref tb, .ref tc, .ref td, .int 0, .int 0, .int 0])), (td, aI cI 8192 (fun _ => 0)), (ta, aJ cJ 4096 (fun _ => 0)), (tb, aJ cJ 4096 (fun _ => 0)), (tc, aI cI 4096 (fun _ => 0))] ss_.heap.size = A at hD ⊢
  have hA : ∀ q : Nat, ss_.heap.size ≤ q → A q := fun q h => by rw [← hAe]; exact Or.inr h
  have hS : va_S A ss_.heap ss_.heap [] := va_S.rf
  have hP : va_P (dC, dI) vwCl [(x5, .inr (8, [.ref wm, .ref wt, .ref wv, .ref wk, .int 1, .ref we, .ref wf, .int 0, .ref p, .int g, .long 9007199254740991, .int 4095, .int 0, .int 0, .int 0, .int 0, .int 0])), (wm, .inr (2, [.ref na, .ref nb, .int 0, .int 0, .int 0])), (p, .inr (4, [.ref ps, .ref pc, .int 0, .int 0, .int 0, .int 0])), (wv, aJ cJ 16384 (fun _ => 0)), (wk, aI cI 4096 (fun _ => 0)), (wt, .inr (1, [.ref ta, .ref tb, .ref tc, .ref td, .int 0, .int 0, .int 0])), (td, aI cI 8192 (fun _ => 0)), (ta, aJ cJ 4096 (fun _ => 0)), (tb, aJ cJ 4096 (fun _ => 0)), (tc, aI cI 4096 (fun _ => 0))] ss_.heap := hP
  have hl := lv_entry ([.ref x5, .int o, .int oo]) (n := 7) (Nat.le_of_ble_eq_true rfl)
  rw [lg_entry_eq]
  generalize (lg_sl ([.ref x5, .int o, .int oo]) ++ List.replicate (7 - (lg_sl ([.ref x5, .int o, .int oo])).length) Slot.unset).toArray = ls at hl ⊢
  have hl : lv_has ls 7 [(0, .ref x5), (1, .int o), (2, .int oo)] := hl
  refine lv_aload_n hx hb dX8_countTogether_0 rfl (lv_at hl 0 rfl) ?_
  refine va_get (D := (dC, dI)) (ci := 8) (v := .int 0) (C := RX8) (T := TX8) (N := 17) hx hb hts hiX8 hown hK hP 0 rfl rfl 12 (by decide) (hts (.fieldLink RX8 56 "WatchedPrograms$Watch" "secretCells" "I") (by decide +kernel)) (fun _ h9 => h9) rfl dX8_countTogether_1 ?_
  refine lv_aload_n hx hb dX8_countTogether_4 rfl (lv_at hl 0 rfl) ?_
  refine va_get (D := (dC, dI)) (ci := 8) (v := .ref p) (C := RX8) (T := TX8) (N := 17) hx hb hts hiX8 hown hK hP 0 rfl rfl 8 (by decide) (hts (.fieldLink RX8 46 "WatchedPrograms$Watch" "program" "LWatchedPrograms$Program;") (by decide +kernel)) (fun _ h9 => h9) rfl dX8_countTogether_5 ?_
  refine va_get (D := (dC, dI)) (ci := 4) (v := .int 0) (C := RX4) (T := TX4) (N := 6) hx hb hts hiX4 hown hK hP 2 rfl rfl 5 (by decide) (hts (.fieldLink RX8 69 "WatchedPrograms$Program" "used" "I") (by decide +kernel)) (fun _ h9 => h9) rfl dX8_countTogether_8 ?_
  refine lv_iand hx hb dX8_countTogether_11 ?_
  refine zi (y := 0) (by decide) ?_
  refine lv_istore_n (lv' := [(3, .int 0), (0, .ref x5), (1, .int o), (2, .int oo)]) hx hb dX8_countTogether_12 rfl hl (by decide) rfl (fun ls hl => ?_)
  refine lv_iload_n hx hb dX8_countTogether_13 rfl (lv_at hl 0 rfl) ?_
  refine vp_callSi (va_Run.run (va_runSN (As := [.int 0]) (rest := []) ⟨hx, hb, hml, hown, hts⟩ (c_nOf0 l dC dI cI cJ cS   ) ⟨va_cnB 1 hts gX8_countTogether_X9_numbersOf_n72 rfl rfl rfl hE.2.2.2.2.2.2.2.2.2.2.1 (hts (.initialized RX9) (by decide +kernel)) (by decide +kernel) ⟨Nat.le_of_ble_eq_true rfl, Nat.le_of_ble_eq_true rfl⟩, (hts (.static yX9_numbersOf) (by decide +kernel)), trivial⟩ (preR (hP.sub (ws' := []) [] rfl) hE) rfl rfl hl.1 rfl (lv_room (Nat.le_of_ble_eq_true rfl)) dX8_countTogether_14 ⟨by decide +kernel, by decide +kernel⟩)) (fun r_1 hr_2 => ?_)
  obtain rfl := hr_2
  refine lv_istore (lv' := [(4, .int 1), (3, .int 0), (0, .ref x5), (1, .int o), (2, .int oo)]) hx hb dX8_countTogether_17 hl (by decide) rfl (fun ls hl => ?_)
  refine lv_aload_n hx hb dX8_countTogether_19 rfl (lv_at hl 2 rfl) ?_
  refine va_get (D := (dC, dI)) (ci := 8) (v := .ref wt) (C := RX8) (T := TX8) (N := 17) hx hb hts hiX8 hown hK hP 0 rfl rfl 1 (by decide) (hts (.fieldLink RX8 21 "WatchedPrograms$Watch" "table" "LWatchedPrograms$HeapTable;") (by decide +kernel)) (fun _ h9 => h9) rfl dX8_countTogether_20 ?_
  refine lv_iload hx hb dX8_countTogether_23 (lv_at hl 0 rfl) ?_
  have hFc := va_free (wc := [(wt, .inr (1, [.ref ta, .ref tb, .ref tc, .ref td, .int 0, .int 0, .int 0])), (td, aI cI 8192 (fun _ => 0))]) hD hS hA [5, 6] rfl
  refine zCv (wr := [(x5, .inr (8, [.ref wm, .ref wt, .ref wv, .ref wk, .int 1, .ref we, .ref wf, .int 0, .ref p, .int g, .long 9007199254740991, .int 4095, .int 0, .int 0, .int 0, .int 0, .int 0])), (wm, .inr (2, [.ref na, .ref nb, .int 0, .int 0, .int 0])), (p, .inr (4, [.ref ps, .ref pc, .int 0, .int 0, .int 0, .int 0])), (wv, aJ cJ 16384 (fun _ => 0)), (wk, aI cI 4096 (fun _ => 0)), (ta, aJ cJ 4096 (fun _ => 0)), (tb, aJ cJ 4096 (fun _ => 0)), (tc, aI cI 4096 (fun _ => 0))]) hP hD hS hFc [5, 6] [0, 1, 2, 3, 4, 7, 8, 9] rfl rfl (by decide) (by decide) (va_runV (As := [.int 1]) (rest := []) ⟨hx, hb, hml, hown, hts⟩ (c_tbegin l dC dI cI cJ cS ss_.heap.size wt ta tb tc td ) (cwV 1 hts gX8_countTogether_X1_begin rfl rfl rfl (by decide +kernel) ⟨Nat.le_of_ble_eq_true rfl, Nat.le_of_ble_eq_true rfl⟩) (preEV (hP.sub (ws' := [(wt, .inr (1, [.ref ta, .ref tb, .ref tc, .ref td, .int 0, .int 0, .int 0])), (td, aI cI 8192 (fun _ => 0))]) [5, 6] rfl) hE (hD.sub (ws' := [(wt, .inr (1, [.ref ta, .ref tb, .ref tc, .ref td, .int 0, .int 0, .int 0])), (td, aI cI 8192 (fun _ => 0))]) [5, 6] (by decide) rfl) 0 (ci := 1) rfl rfl) rfl rfl hl.1 rfl (lv_room (Nat.le_of_ble_eq_true rfl)) dX8_countTogether_25 ⟨by decide +kernel, by decide +kernel⟩) (fun u_5 H locs hr_4 hP hD hS => ?_)
  try dsimp only at hr_4
  have hP : va_P (dC, dI) vwCl [(x5, .inr (8, [.ref wm, .ref wt, .ref wv, .ref wk, .int 1, .ref we, .ref wf, .int 0, .ref p, .int g, .long 9007199254740991, .int 4095, .int 0, .int 0, .int 0, .int 0, .int 0])), (wm, .inr (2, [.ref na, .ref nb, .int 0, .int 0, .int 0])), (p, .inr (4, [.ref ps, .ref pc, .int 0, .int 0, .int 0, .int 0])), (wv, aJ cJ 16384 (fun _ => 0)), (wk, aI cI 4096 (fun _ => 0)), (ta, aJ cJ 4096 (fun _ => 0)), (tb, aJ cJ 4096 (fun _ => 0)), (tc, aI cI 4096 (fun _ => 0)), (wt, .inr (1, [.ref ta, .ref tb, .ref tc, .ref td, .int 1, .int 0, .int 0])), (td, aI cI 8192 (upd (upd (fun _ => 0) 0 0) 1 0))] H := hP
  have hD : va_D A [(x5, .inr (8, [.ref wm, .ref wt, .ref wv, .ref wk, .int 1, .ref we, .ref wf, .int 0, .ref p, .int g, .long 9007199254740991, .int 4095, .int 0, .int 0, .int 0, .int 0, .int 0])), (wm, .inr (2, [.ref na, .ref nb, .int 0, .int 0, .int 0])), (p, .inr (4, [.ref ps, .ref pc, .int 0, .int 0, .int 0, .int 0])), (wv, aJ cJ 16384 (fun _ => 0)), (wk, aI cI 4096 (fun _ => 0)), (ta, aJ cJ 4096 (fun _ => 0)), (tb, aJ cJ 4096 (fun _ => 0)), (tc, aI cI 4096 (fun _ => 0)), (wt, .inr (1, [.ref ta, .ref tb, .ref tc, .ref td, .int 1, .int 0, .int 0])), (td, aI cI 8192 (upd (upd (fun _ => 0) 0 0) 1 0))] := hD
  refine lv_iconst (v := 0) hx hb dX8_countTogether_28 (by decide) ?_
  refine lv_istore (lv' := [(5, .int 0), (4, .int 1), (3, .int 0), (0, .ref x5), (1, .int o), (2, .int oo)]) hx hb dX8_countTogether_29 hl (by decide) rfl (fun ls hl => ?_)
  refine lv_iconst (v := 0) hx hb dX8_countTogether_31 (by decide) ?_
  refine lv_istore (lv' := [(6, .int 0), (5, .int 0), (4, .int 1), (3, .int 0), (0, .ref x5), (1, .int o), (2, .int oo)]) hx hb dX8_countTogether_32 hl (by decide) rfl (fun ls hl => ?_)
  refine lv_iload hx hb dX8_countTogether_34 (lv_at hl 0 rfl) ?_
  refine lv_iload hx hb dX8_countTogether_36 (lv_at hl 2 rfl) ?_
  refine lv_icmp_ge (tgt := 98) hx hb dX8_countTogether_38 (by decide) (fun c_6 => absurd c_6 (by decide)) (fun _ => ?_)
  refine lv_aload_n hx hb dX8_countTogether_41 rfl (lv_at hl 4 rfl) ?_
  refine va_get (D := (dC, dI)) (ci := 8) (v := .ref wt) (C := RX8) (T := TX8) (N := 17) hx hb hts hiX8 hown hK hP 0 rfl rfl 1 (by decide) (hts (.fieldLink RX8 21 "WatchedPrograms$Watch" "table" "LWatchedPrograms$HeapTable;") (by decide +kernel)) (fun _ h9 => h9) rfl dX8_countTogether_42 ?_
  refine lv_aload_n hx hb dX8_countTogether_45 rfl (lv_at hl 4 rfl) ?_
  refine lv_iload_n hx hb dX8_countTogether_46 rfl (lv_at hl 5 rfl) ?_
  refine lv_iload hx hb dX8_countTogether_47 (lv_at hl 1 rfl) ?_
  refine lv_ior hx hb dX8_countTogether_49 ?_
  refine zi (y := o) Int32.or_zero ?_
  refine lv_aload_n hx hb dX8_countTogether_50 rfl (lv_at hl 4 rfl) ?_
  refine va_get (D := (dC, dI)) (ci := 8) (v := .int g) (C := RX8) (T := TX8) (N := 17) hx hb hts hiX8 hown hK hP 0 rfl rfl 9 (by decide) (hts (.fieldLink RX8 50 "WatchedPrograms$Watch" "watcher" "I") (by decide +kernel)) (fun _ h9 => h9) rfl dX8_countTogether_51 ?_
  refine lv_iconst (v := 0) hx hb dX8_countTogether_54 (by decide) ?_
  have hFc := va_free (wc := [(x5, .inr (8, [.ref wm, .ref wt, .ref wv, .ref wk, .int 1, .ref we, .ref wf, .int 0, .ref p, .int g, .long 9007199254740991, .int 4095, .int 0, .int 0, .int 0, .int 0, .int 0])), (wm, .inr (2, [.ref na, .ref nb, .int 0, .int 0, .int 0])), (p, .inr (4, [.ref ps, .ref pc, .int 0, .int 0, .int 0, .int 0])), (wv, aJ cJ 16384 (fun _ => 0)), (wk, aI cI 4096 (fun _ => 0))]) hD hS hA [0, 1, 2, 3, 4] rfl
  refine zCl (wr := [(ta, aJ cJ 4096 (fun _ => 0)), (tb, aJ cJ 4096 (fun _ => 0)), (tc, aI cI 4096 (fun _ => 0)), (wt, .inr (1, [.ref ta, .ref tb, .ref tc, .ref td, .int 1, .int 0, .int 0])), (td, aI cI 8192 (upd (upd (fun _ => 0) 0 0) 1 0))]) hP hD hS hFc [0, 1, 2, 3, 4] [5, 6, 7, 8, 9] rfl rfl (by decide) (by decide) (va_runV (As := [.int o, .int g, .int 0]) (rest := [.ref wt]) ⟨hx, hb, hml, hown, hts⟩ (c_look1 l dC dI cI cJ cS H.size x5 o g wm wt wv wk we wf p g 9007199254740991 0 0 na nb ps pc ) (cwV 3 hts gX8_countTogether_X8_look rfl rfl rfl (by decide +kernel) ⟨Nat.le_of_ble_eq_true rfl, Nat.le_of_ble_eq_true rfl⟩) (preEV (hP.sub (ws' := [(x5, .inr (8, [.ref wm, .ref wt, .ref wv, .ref wk, .int 1, .ref we, .ref wf, .int 0, .ref p, .int g, .long 9007199254740991, .int 4095, .int 0, .int 0, .int 0, .int 0, .int 0])), (wm, .inr (2, [.ref na, .ref nb, .int 0, .int 0, .int 0])), (p, .inr (4, [.ref ps, .ref pc, .int 0, .int 0, .int 0, .int 0])), (wv, aJ cJ 16384 (fun _ => 0)), (wk, aI cI 4096 (fun _ => 0))]) [0, 1, 2, 3, 4] rfl) hE (hD.sub (ws' := [(x5, .inr (8, [.ref wm, .ref wt, .ref wv, .ref wk, .int 1, .ref we, .ref wf, .int 0, .ref p, .int g, .long 9007199254740991, .int 4095, .int 0, .int 0, .int 0, .int 0, .int 0])), (wm, .inr (2, [.ref na, .ref nb, .int 0, .int 0, .int 0])), (p, .inr (4, [.ref ps, .ref pc, .int 0, .int 0, .int 0, .int 0])), (wv, aJ cJ 16384 (fun _ => 0)), (wk, aI cI 4096 (fun _ => 0))]) [0, 1, 2, 3, 4] (by decide) rfl) 0 (ci := 8) rfl rfl) rfl rfl hl.1 rfl (lv_room (Nat.le_of_ble_eq_true rfl)) dX8_countTogether_55 ⟨by decide +kernel, by decide +kernel⟩) (fun r_7 u_9 H locs hr_8 hP hD hS => ?_)
  try dsimp only at hr_8
  have hP : va_P (dC, dI) vwCl [(ta, aJ cJ 4096 (fun _ => 0)), (tb, aJ cJ 4096 (fun _ => 0)), (tc, aI cI 4096 (fun _ => 0)), (wt, .inr (1, [.ref ta, .ref tb, .ref tc, .ref td, .int 1, .int 0, .int 0])), (td, aI cI 8192 (upd (upd (fun _ => 0) 0 0) 1 0)), (x5, .inr (8, [.ref wm, .ref wt, .ref wv, .ref wk, .int 1, .ref we, .ref wf, .int 0, .ref p, .int g, .long 9007199254740991, .int 4095, .int 0, .int 0, .int 0, .int 0, .int 0])), (wv, aJ cJ 16384 (vp_updL (vp_updL (vp_updL (vp_updL (fun _ => 0) 0 1) 4096 1) 8192 1) 12288 1)), (wk, aI cI 4096 (upd (fun _ => 0) 0 1)), (wm, .inr (2, [.ref na, .ref nb, .int 0, .int 0, .int 0])), (p, .inr (4, [.ref ps, .ref pc, .int 0, .int 0, .int 0, .int 0]))] H := hP
  have hD : va_D A [(ta, aJ cJ 4096 (fun _ => 0)), (tb, aJ cJ 4096 (fun _ => 0)), (tc, aI cI 4096 (fun _ => 0)), (wt, .inr (1, [.ref ta, .ref tb, .ref tc, .ref td, .int 1, .int 0, .int 0])), (td, aI cI 8192 (upd (upd (fun _ => 0) 0 0) 1 0)), (x5, .inr (8, [.ref wm, .ref wt, .ref wv, .ref wk, .int 1, .ref we, .ref wf, .int 0, .ref p, .int g, .long 9007199254740991, .int 4095, .int 0, .int 0, .int 0, .int 0, .int 0])), (wv, aJ cJ 16384 (vp_updL (vp_updL (vp_updL (vp_updL (fun _ => 0) 0 1) 4096 1) 8192 1) 12288 1)), (wk, aI cI 4096 (upd (fun _ => 0) 0 1)), (wm, .inr (2, [.ref na, .ref nb, .int 0, .int 0, .int 0])), (p, .inr (4, [.ref ps, .ref pc, .int 0, .int 0, .int 0, .int 0]))] := hD
  obtain rfl := hr_8
  refine lv_aload_n hx hb dX8_countTogether_58 rfl (lv_at hl 4 rfl) ?_
  refine va_get (D := (dC, dI)) (ci := 8) (v := .long 9007199254740991) (C := RX8) (T := TX8) (N := 17) hx hb hts hiX8 hown hK hP 5 rfl rfl 10 (by decide) (hts (.fieldLink RX8 65 "WatchedPrograms$Watch" "lens" "J") (by decide +kernel)) (fun _ h9 => h9) rfl dX8_countTogether_59 ?_
  refine lv_land hx hb dX8_countTogether_62 ?_
  refine zl (y := 1) (by decide) ?_
  refine lv_aload_n hx hb dX8_countTogether_63 rfl (lv_at hl 4 rfl) ?_
  refine lv_iload_n hx hb dX8_countTogether_64 rfl (lv_at hl 6 rfl) ?_
  refine lv_iload hx hb dX8_countTogether_65 (lv_at hl 1 rfl) ?_
  refine lv_ior hx hb dX8_countTogether_67 ?_
  refine zi (y := oo) Int32.or_zero ?_
  refine lv_aload_n hx hb dX8_countTogether_68 rfl (lv_at hl 4 rfl) ?_
  refine va_get (D := (dC, dI)) (ci := 8) (v := .int g) (C := RX8) (T := TX8) (N := 17) hx hb hts hiX8 hown hK hP 5 rfl rfl 9 (by decide) (hts (.fieldLink RX8 50 "WatchedPrograms$Watch" "watcher" "I") (by decide +kernel)) (fun _ h9 => h9) rfl dX8_countTogether_69 ?_
  refine lv_iconst (v := 0) hx hb dX8_countTogether_72 (by decide) ?_
  have hFc := va_free (wc := [(x5, .inr (8, [.ref wm, .ref wt, .ref wv, .ref wk, .int 1, .ref we, .ref wf, .int 0, .ref p, .int g, .long 9007199254740991, .int 4095, .int 0, .int 0, .int 0, .int 0, .int 0])), (wv, aJ cJ 16384 (vp_updL (vp_updL (vp_updL (vp_updL (fun _ => 0) 0 1) 4096 1) 8192 1) 12288 1)), (wk, aI cI 4096 (upd (fun _ => 0) 0 1)), (wm, .inr (2, [.ref na, .ref nb, .int 0, .int 0, .int 0])), (p, .inr (4, [.ref ps, .ref pc, .int 0, .int 0, .int 0, .int 0]))]) hD hS hA [5, 6, 7, 8, 9] rfl
  refine zCl (wr := [(ta, aJ cJ 4096 (fun _ => 0)), (tb, aJ cJ 4096 (fun _ => 0)), (tc, aI cI 4096 (fun _ => 0)), (wt, .inr (1, [.ref ta, .ref tb, .ref tc, .ref td, .int 1, .int 0, .int 0])), (td, aI cI 8192 (upd (upd (fun _ => 0) 0 0) 1 0))]) hP hD hS hFc [5, 6, 7, 8, 9] [0, 1, 2, 3, 4] rfl rfl (by decide) (by decide) (va_runV (As := [.int oo, .int g, .int 0]) (rest := [.long 1, .ref wt]) ⟨hx, hb, hml, hown, hts⟩ (c_look2 l dC dI cI cJ cS H.size x5 oo g wm wt wv wk we wf p g 9007199254740991 0 0 na nb ps pc ) (cwV 3 hts gX8_countTogether_X8_look rfl rfl rfl (by decide +kernel) ⟨Nat.le_of_ble_eq_true rfl, Nat.le_of_ble_eq_true rfl⟩) (preEV (hP.sub (ws' := [(x5, .inr (8, [.ref wm, .ref wt, .ref wv, .ref wk, .int 1, .ref we, .ref wf, .int 0, .ref p, .int g, .long 9007199254740991, .int 4095, .int 0, .int 0, .int 0, .int 0, .int 0])), (wv, aJ cJ 16384 (vp_updL (vp_updL (vp_updL (vp_updL (fun _ => 0) 0 1) 4096 1) 8192 1) 12288 1)), (wk, aI cI 4096 (upd (fun _ => 0) 0 1)), (wm, .inr (2, [.ref na, .ref nb, .int 0, .int 0, .int 0])), (p, .inr (4, [.ref ps, .ref pc, .int 0, .int 0, .int 0, .int 0]))]) [5, 6, 7, 8, 9] rfl) hE (hD.sub (ws' := [(x5, .inr (8, [.ref wm, .ref wt, .ref wv, .ref wk, .int 1, .ref we, .ref wf, .int 0, .ref p, .int g, .long 9007199254740991, .int 4095, .int 0, .int 0, .int 0, .int 0, .int 0])), (wv, aJ cJ 16384 (vp_updL (vp_updL (vp_updL (vp_updL (fun _ => 0) 0 1) 4096 1) 8192 1) 12288 1)), (wk, aI cI 4096 (upd (fun _ => 0) 0 1)), (wm, .inr (2, [.ref na, .ref nb, .int 0, .int 0, .int 0])), (p, .inr (4, [.ref ps, .ref pc, .int 0, .int 0, .int 0, .int 0]))]) [5, 6, 7, 8, 9] (by decide) rfl) 0 (ci := 8) rfl rfl) rfl rfl hl.1 rfl (lv_room (Nat.le_of_ble_eq_true rfl)) dX8_countTogether_73 ⟨by decide +kernel, by decide +kernel⟩) (fun r_10 u_12 H locs hr_11 hP hD hS => ?_)
  try dsimp only at hr_11
  have hP : va_P (dC, dI) vwCl [(ta, aJ cJ 4096 (fun _ => 0)), (tb, aJ cJ 4096 (fun _ => 0)), (tc, aI cI 4096 (fun _ => 0)), (wt, .inr (1, [.ref ta, .ref tb, .ref tc, .ref td, .int 1, .int 0, .int 0])), (td, aI cI 8192 (upd (upd (fun _ => 0) 0 0) 1 0)), (x5, .inr (8, [.ref wm, .ref wt, .ref wv, .ref wk, .int 1, .ref we, .ref wf, .int 0, .ref p, .int g, .long 9007199254740991, .int 4095, .int 0, .int 0, .int 0, .int 0, .int 0])), (wv, aJ cJ 16384 (vp_updL (vp_updL (vp_updL (vp_updL (fun _ => 0) 0 1) 4096 1) 8192 1) 12288 1)), (wk, aI cI 4096 (upd (fun _ => 0) 0 1)), (wm, .inr (2, [.ref na, .ref nb, .int 0, .int 0, .int 0])), (p, .inr (4, [.ref ps, .ref pc, .int 0, .int 0, .int 0, .int 0]))] H := hP
  have hD : va_D A [(ta, aJ cJ 4096 (fun _ => 0)), (tb, aJ cJ 4096 (fun _ => 0)), (tc, aI cI 4096 (fun _ => 0)), (wt, .inr (1, [.ref ta, .ref tb, .ref tc, .ref td, .int 1, .int 0, .int 0])), (td, aI cI 8192 (upd (upd (fun _ => 0) 0 0) 1 0)), (x5, .inr (8, [.ref wm, .ref wt, .ref wv, .ref wk, .int 1, .ref we, .ref wf, .int 0, .ref p, .int g, .long 9007199254740991, .int 4095, .int 0, .int 0, .int 0, .int 0, .int 0])), (wv, aJ cJ 16384 (vp_updL (vp_updL (vp_updL (vp_updL (fun _ => 0) 0 1) 4096 1) 8192 1) 12288 1)), (wk, aI cI 4096 (upd (fun _ => 0) 0 1)), (wm, .inr (2, [.ref na, .ref nb, .int 0, .int 0, .int 0])), (p, .inr (4, [.ref ps, .ref pc, .int 0, .int 0, .int 0, .int 0]))] := hD
  obtain rfl := hr_11
  refine lv_aload_n hx hb dX8_countTogether_76 rfl (lv_at hl 4 rfl) ?_
  refine va_get (D := (dC, dI)) (ci := 8) (v := .long 9007199254740991) (C := RX8) (T := TX8) (N := 17) hx hb hts hiX8 hown hK hP 5 rfl rfl 10 (by decide) (hts (.fieldLink RX8 65 "WatchedPrograms$Watch" "lens" "J") (by decide +kernel)) (fun _ h9 => h9) rfl dX8_countTogether_77 ?_
  refine lv_land hx hb dX8_countTogether_80 ?_
  refine zl (y := 1) (by decide) ?_
  have hFc := va_free (wc := [(wt, .inr (1, [.ref ta, .ref tb, .ref tc, .ref td, .int 1, .int 0, .int 0])), (td, aI cI 8192 (upd (upd (fun _ => 0) 0 0) 1 0)), (ta, aJ cJ 4096 (fun _ => 0)), (tb, aJ cJ 4096 (fun _ => 0)), (tc, aI cI 4096 (fun _ => 0))]) hD hS hA [3, 4, 0, 1, 2] rfl
  refine zCv (wr := [(x5, .inr (8, [.ref wm, .ref wt, .ref wv, .ref wk, .int 1, .ref we, .ref wf, .int 0, .ref p, .int g, .long 9007199254740991, .int 4095, .int 0, .int 0, .int 0, .int 0, .int 0])), (wv, aJ cJ 16384 (vp_updL (vp_updL (vp_updL (vp_updL (fun _ => 0) 0 1) 4096 1) 8192 1) 12288 1)), (wk, aI cI 4096 (upd (fun _ => 0) 0 1)), (wm, .inr (2, [.ref na, .ref nb, .int 0, .int 0, .int 0])), (p, .inr (4, [.ref ps, .ref pc, .int 0, .int 0, .int 0, .int 0]))]) hP hD hS hFc [3, 4, 0, 1, 2] [5, 6, 7, 8, 9] rfl rfl (by decide) (by decide) (va_runV (As := [.long 1, .long 1]) (rest := []) ⟨hx, hb, hml, hown, hts⟩ (c_tput1 l dC dI cI cJ cS H.size wt ta tb tc td ) (cwV 2 hts gX8_countTogether_X1_put rfl rfl rfl (by decide +kernel) ⟨Nat.le_of_ble_eq_true rfl, Nat.le_of_ble_eq_true rfl⟩) (preEV (hP.sub (ws' := [(wt, .inr (1, [.ref ta, .ref tb, .ref tc, .ref td, .int 1, .int 0, .int 0])), (td, aI cI 8192 (upd (upd (fun _ => 0) 0 0) 1 0)), (ta, aJ cJ 4096 (fun _ => 0)), (tb, aJ cJ 4096 (fun _ => 0)), (tc, aI cI 4096 (fun _ => 0))]) [3, 4, 0, 1, 2] rfl) hE (hD.sub (ws' := [(wt, .inr (1, [.ref ta, .ref tb, .ref tc, .ref td, .int 1, .int 0, .int 0])), (td, aI cI 8192 (upd (upd (fun _ => 0) 0 0) 1 0)), (ta, aJ cJ 4096 (fun _ => 0)), (tb, aJ cJ 4096 (fun _ => 0)), (tc, aI cI 4096 (fun _ => 0))]) [3, 4, 0, 1, 2] (by decide) rfl) 0 (ci := 1) rfl rfl) rfl rfl hl.1 rfl (lv_room (Nat.le_of_ble_eq_true rfl)) dX8_countTogether_81 ⟨by decide +kernel, by decide +kernel⟩) (fun u_15 H locs hr_14 hP hD hS => ?_)
  try dsimp only at hr_14
  have hP : va_P (dC, dI) vwCl [(x5, .inr (8, [.ref wm, .ref wt, .ref wv, .ref wk, .int 1, .ref we, .ref wf, .int 0, .ref p, .int g, .long 9007199254740991, .int 4095, .int 0, .int 0, .int 0, .int 0, .int 0])), (wv, aJ cJ 16384 (vp_updL (vp_updL (vp_updL (vp_updL (fun _ => 0) 0 1) 4096 1) 8192 1) 12288 1)), (wk, aI cI 4096 (upd (fun _ => 0) 0 1)), (wm, .inr (2, [.ref na, .ref nb, .int 0, .int 0, .int 0])), (p, .inr (4, [.ref ps, .ref pc, .int 0, .int 0, .int 0, .int 0])), (td, aI cI 8192 (upd (upd (upd (fun _ => 0) 0 0) 1 0) 1 1)), (ta, aJ cJ 4096 (vp_updL (fun _ => 0) 0 1)), (tb, aJ cJ 4096 (vp_updL (fun _ => 0) 0 1)), (wt, .inr (1, [.ref ta, .ref tb, .ref tc, .ref td, .int 1, .int 1, .int 1])), (tc, aI cI 4096 (upd (upd (fun _ => 0) 0 0) 0 1))] H := hP
  have hD : va_D A [(x5, .inr (8, [.ref wm, .ref wt, .ref wv, .ref wk, .int 1, .ref we, .ref wf, .int 0, .ref p, .int g, .long 9007199254740991, .int 4095, .int 0, .int 0, .int 0, .int 0, .int 0])), (wv, aJ cJ 16384 (vp_updL (vp_updL (vp_updL (vp_updL (fun _ => 0) 0 1) 4096 1) 8192 1) 12288 1)), (wk, aI cI 4096 (upd (fun _ => 0) 0 1)), (wm, .inr (2, [.ref na, .ref nb, .int 0, .int 0, .int 0])), (p, .inr (4, [.ref ps, .ref pc, .int 0, .int 0, .int 0, .int 0])), (td, aI cI 8192 (upd (upd (upd (fun _ => 0) 0 0) 1 0) 1 1)), (ta, aJ cJ 4096 (vp_updL (fun _ => 0) 0 1)), (tb, aJ cJ 4096 (vp_updL (fun _ => 0) 0 1)), (wt, .inr (1, [.ref ta, .ref tb, .ref tc, .ref td, .int 1, .int 1, .int 1])), (tc, aI cI 4096 (upd (upd (fun _ => 0) 0 0) 0 1))] := hD
  refine lv_iload hx hb dX8_countTogether_84 (lv_at hl 1 rfl) ?_
  refine lv_iload_n hx hb dX8_countTogether_86 rfl (lv_at hl 3 rfl) ?_
  refine vp_callSi (va_Run.run (va_runSN (As := [.int 0, .int 0]) (rest := []) ⟨hx, hb, hml, hown, hts⟩ (c_following0 l dC dI cI cJ cS   ) ⟨va_cnB 2 hts gX8_countTogether_X9_following_n88 rfl rfl rfl hE.2.2.2.2.2.2.2.2.2.2.2.2.1 (hts (.initialized RX9) (by decide +kernel)) (by decide +kernel) ⟨Nat.le_of_ble_eq_true rfl, Nat.le_of_ble_eq_true rfl⟩, (hts (.static yX9_following) (by decide +kernel)), trivial⟩ (preR (hP.sub (ws' := []) [] rfl) hE) rfl rfl hl.1 rfl (lv_room (Nat.le_of_ble_eq_true rfl)) dX8_countTogether_87 ⟨by decide +kernel, by decide +kernel⟩)) (fun r_16 hr_17 => ?_)
  obtain rfl := hr_17
  refine lv_istore (lv' := [(5, .int 0), (6, .int 0), (4, .int 1), (3, .int 0), (0, .ref x5), (1, .int o), (2, .int oo)]) hx hb dX8_countTogether_90 hl (by decide) rfl (fun ls hl => ?_)
  refine lv_iinc (v := 1) (lv' := [(6, .int 1), (5, .int 0), (4, .int 1), (3, .int 0), (0, .ref x5), (1, .int o), (2, .int oo)]) hx hb dX8_countTogether_92 hl (k := 1) rfl (by decide) (by decide) rfl (fun ls hl => ?_)
  refine lv_goto (tgt := 34) hx hb dX8_countTogether_95 (by decide) ?_
  refine lv_iload hx hb dX8_countTogether_34 (lv_at hl 0 rfl) ?_
  refine lv_iload hx hb dX8_countTogether_36 (lv_at hl 2 rfl) ?_
  refine lv_icmp_ge (tgt := 98) hx hb dX8_countTogether_38 (by decide) (fun _ => ?_) (fun c_18 => absurd (by decide) c_18)
  refine lv_aload_n hx hb dX8_countTogether_98 rfl (lv_at hl 4 rfl) ?_
  refine va_get (D := (dC, dI)) (ci := 8) (v := .ref wt) (C := RX8) (T := TX8) (N := 17) hx hb hts hiX8 hown hK hP 0 rfl rfl 1 (by decide) (hts (.fieldLink RX8 21 "WatchedPrograms$Watch" "table" "LWatchedPrograms$HeapTable;") (by decide +kernel)) (fun _ h9 => h9) rfl dX8_countTogether_99 ?_
  refine va_get (D := (dC, dI)) (ci := 1) (v := .int 1) (C := RX1) (T := TX1) (N := 7) hx hb hts hiX1 hown hK hP 8 rfl rfl 5 (by decide) (hts (.fieldLink RX8 92 "WatchedPrograms$HeapTable" "many" "I") (by decide +kernel)) (fun _ h9 => h9) rfl dX8_countTogether_102 ?_
  have hP9 := hP.sub (ws' := [(x5, .inr (8, [.ref wm, .ref wt, .ref wv, .ref wk, .int 1, .ref we, .ref wf, .int 0, .ref p, .int g, .long 9007199254740991, .int 4095, .int 0, .int 0, .int 0, .int 0, .int 0])), (wv, aJ cJ 16384 (vp_updL (vp_updL (vp_updL (vp_updL (fun _ => 0) 0 1) 4096 1) 8192 1) 12288 1)), (wk, aI cI 4096 (upd (fun _ => 0) 0 1)), (wm, .inr (2, [.ref na, .ref nb, .int 0, .int 0, .int 0])), (p, .inr (4, [.ref ps, .ref pc, .int 0, .int 0, .int 0, .int 0])), (td, aI cI 8192 (upd (upd (upd (fun _ => 0) 0 0) 1 0) 1 1)), (ta, aJ cJ 4096 (vp_updL (fun _ => 0) 0 1)), (tb, aJ cJ 4096 (vp_updL (fun _ => 0) 0 1)), (wt, .inr (1, [.ref ta, .ref tb, .ref tc, .ref td, .int 1, .int 1, .int 1])), (tc, aI cI 4096 (upd (upd (fun _ => 0) 0 0) 0 1))]) [0, 1, 2, 3, 4, 5, 6, 7, 8, 9] rfl
  have hD9 := hD.sub (ws' := [(x5, .inr (8, [.ref wm, .ref wt, .ref wv, .ref wk, .int 1, .ref we, .ref wf, .int 0, .ref p, .int g, .long 9007199254740991, .int 4095, .int 0, .int 0, .int 0, .int 0, .int 0])), (wv, aJ cJ 16384 (vp_updL (vp_updL (vp_updL (vp_updL (fun _ => 0) 0 1) 4096 1) 8192 1) 12288 1)), (wk, aI cI 4096 (upd (fun _ => 0) 0 1)), (wm, .inr (2, [.ref na, .ref nb, .int 0, .int 0, .int 0])), (p, .inr (4, [.ref ps, .ref pc, .int 0, .int 0, .int 0, .int 0])), (td, aI cI 8192 (upd (upd (upd (fun _ => 0) 0 0) 1 0) 1 1)), (ta, aJ cJ 4096 (vp_updL (fun _ => 0) 0 1)), (tb, aJ cJ 4096 (vp_updL (fun _ => 0) 0 1)), (wt, .inr (1, [.ref ta, .ref tb, .ref tc, .ref td, .int 1, .int 1, .int 1])), (tc, aI cI 4096 (upd (upd (fun _ => 0) 0 0) 0 1))]) [0, 1, 2, 3, 4, 5, 6, 7, 8, 9] (by decide) rfl
  exact W.iret (v := 1) hx hb hr (fun tt_ ht hW => ⟨⟨_, (), rfl, rfl, by rw [ht]; exact hP9, hD9⟩, hS.F ht⟩) hS.2.2 dX8_countTogether_105
set_option maxHeartbeats 1000000 in
set_option maxRecDepth 100000 in
theorem c_countUnshown0 (l : Launch) (dC : Nat → ClassId) (dI : Nat → Nat → Nat) (cI cJ cS : ClassId) (sz : Nat) (x5 : Nat) (o : Int32) (wm : Nat) (wt : Nat) (wv : Nat) (wk : Nat) (we : Nat) (wf : Nat) (p : Nat) (g : Int32) (na : Nat) (nb : Nat) (ps : Nat) (pc : Nat) (ta : Nat) (tb : Nat) (tc : Nat) (td : Nat)  : Met l yX8_countUnshown wsX8_countUnshown ({ frames := 4, cells := 0, slots := 0, locals := 83 }) (va_Pc [.ref x5, .int o, .int 4095, .int 4095] (PE dC dI cI cJ cS [(x5, .inr (8, [.ref wm, .ref wt, .ref wv, .ref wk, .int 1, .ref we, .ref wf, .int 0, .ref p, .int g, .long 9007199254740991, .int 4095, .int 0, .int 0, .int 0, .int 0, .int 0])), (wm, .inr (2, [.ref na, .ref nb, .int 0, .int 0, .int 0])), (p, .inr (4, [.ref ps, .ref pc, .int 0, .int 0, .int 0, .int 0])), (wv, aJ cJ 16384 (fun _ => 0)), (wk, aI cI 4096 (fun _ => 0)), (wt, .inr (1, [.ref ta, .ref tb, .ref tc, .ref td, .int 0, .int 0, .int 0])), (td, aI cI 8192 (fun _ => 0)), (ta, aJ cJ 4096 (fun _ => 0)), (tb, aJ cJ 4096 (fun _ => 0)), (tc, aI cI 4096 (fun _ => 0))] sz)) (va_Qi (fun (r : Int32) (_ : Unit) => r = 1) (BE dC dI (va_A [(x5, .inr (8, [.ref wm, .ref wt, .ref wv, .ref wk, .int 1, .ref we, .ref wf, .int 0, .ref p, .int g, .long 9007199254740991, .int 4095, .int 0, .int 0, .int 0, .int 0, .int 0])), (wm, .inr (2, [.ref na, .ref nb, .int 0, .int 0, .int 0])), (p, .inr (4, [.ref ps, .ref pc, .int 0, .int 0, .int 0, .int 0])), (wv, aJ cJ 16384 (fun _ => 0)), (wk, aI cI 4096 (fun _ => 0)), (wt, .inr (1, [.ref ta, .ref tb, .ref tc, .ref td, .int 0, .int 0, .int 0])), (td, aI cI 8192 (fun _ => 0)), (ta, aJ cJ 4096 (fun _ => 0)), (tb, aJ cJ 4096 (fun _ => 0)), (tc, aI cI 4096 (fun _ => 0))] sz) (fun (_ : Unit) => [(x5, .inr (8, [.ref wm, .ref wt, .ref wv, .ref wk, .int 1, .ref we, .ref wf, .int 0, .ref p, .int g, .long 9007199254740991, .int 4095, .int 0, .int 0, .int 0, .int 0, .int 0])), (wv, aJ cJ 16384 (vp_updL (vp_updL (vp_updL (vp_updL (fun _ => 0) 0 1) 4096 1) 8192 1) 12288 1)), (wk, aI cI 4096 (upd (fun _ => 0) 0 1)), (wm, .inr (2, [.ref na, .ref nb, .int 0, .int 0, .int 0])), (p, .inr (4, [.ref ps, .ref pc, .int 0, .int 0, .int 0, .int 0])), (td, aI cI 8192 (upd (upd (upd (fun _ => 0) 0 0) 1 0) 1 1)), (ta, aJ cJ 4096 (vp_updL (fun _ => 0) 0 1)), (tb, aJ cJ 4096 (vp_updL (fun _ => 0) 0 1)), (wt, .inr (1, [.ref ta, .ref tb, .ref tc, .ref td, .int 1, .int 1, .int 1])), (tc, aI cI 4096 (upd (upd (fun _ => 0) 0 0) 0 1))])) (va_A [(x5, .inr (8, [.ref wm, .ref wt, .ref wv, .ref wk, .int 1, .ref we, .ref wf, .int 0, .ref p, .int g, .long 9007199254740991, .int 4095, .int 0, .int 0, .int 0, .int 0, .int 0])), (wm, .inr (2, [.ref na, .ref nb, .int 0, .int 0, .int 0])), (p, .inr (4, [.ref ps, .ref pc, .int 0, .int 0, .int 0, .int 0])), (wv, aJ cJ 16384 (fun _ => 0)), (wk, aI cI 4096 (fun _ => 0)), (wt, .inr (1, [.ref ta, .ref tb, .ref tc, .ref td, .int 0, .int 0, .int 0])), (td, aI cI 8192 (fun _ => 0)), (ta, aJ cJ 4096 (fun _ => 0)), (tb, aJ cJ 4096 (fun _ => 0)), (tc, aI cI 4096 (fun _ => 0))] sz)) 0 0 (va_A [(x5, .inr (8, [.ref wm, .ref wt, .ref wv, .ref wk, .int 1, .ref we, .ref wf, .int 0, .ref p, .int g, .long 9007199254740991, .int 4095, .int 0, .int 0, .int 0, .int 0, .int 0])), (wm, .inr (2, [.ref na, .ref nb, .int 0, .int 0, .int 0])), (p, .inr (4, [.ref ps, .ref pc, .int 0, .int 0, .int 0, .int 0])), (wv, aJ cJ 16384 (fun _ => 0)), (wk, aI cI 4096 (fun _ => 0)), (wt, .inr (1, [.ref ta, .ref tb, .ref tc, .ref td, .int 0, .int 0, .int 0])), (td, aI cI 8192 (fun _ => 0)), (ta, aJ cJ 4096 (fun _ => 0)), (tb, aJ cJ 4096 (fun _ => 0)), (tc, aI cI 4096 (fun _ => 0))] sz) := by
  refine Met.ofW (cc := cX8_countUnshown) (maxL := 12) (ret := (some .int)) (by decide) rfl ?_
  intro pp_ ee_ ss_ mm_ args below meth cc_ s₁ B hml hv
  obtain ⟨rfl, hsz, hP, hE, hD0⟩ := hv
  have hx := B.exec
  have hb := B.bytes
  have hr := B.returns
  have hts := atoms_spec (ws := wsX8_countUnshown) B.pre
  have hown : ss_.vm.findClass RX8 = some mm_.cls := findClass_of_methodNamed B.named
  have hlocks := B.notSynchronized
  have hK := hE.1
  have hiX1 : ∀ w ∈ wsX10, w ∈ wsX8_countUnshown := by decide +kernel
  have hiX4 : ∀ w ∈ wsX40, w ∈ wsX8_countUnshown := by decide +kernel
  have hiX8 : ∀ w ∈ wsX80, w ∈ wsX8_countUnshown := by decide +kernel
  subst hsz
  have hD := hD0.self (sz := ss_.heap.size)
  generalize hAe : va_A [(x5, .inr (8, [.ref wm, .ref wt, .ref wv, .ref wk, .int 1, .ref we, .ref wf, .int 0, .ref p, .int g, .long 9007199254740991, .int 4095, .int 0, .int 0, .int 0, .int 0, .int 0])), (wm, .inr (2, [.ref na, .ref nb, .int 0, .int 0, .int 0])), (p, .inr (4, [.ref ps, .ref pc, .int 0, .int 0, .int 0, .int 0])), (wv, aJ cJ 16384 (fun _ => 0)), (wk, aI cI 4096 (fun _ => 0)), (wt, .inr (1, [.ref ta, .ref tb, .ref tc, .ref td, .int 0, .int 0, .int 0])), (td, aI cI 8192 (fun _ => 0)), (ta, aJ cJ 4096 (fun _ => 0)), (tb, aJ cJ 4096 (fun _ => 0)), (tc, aI cI 4096 (fun _ => 0))] ss_.heap.size = A at hD ⊢
  have hA : ∀ q : Nat, ss_.heap.size ≤ q → A q := fun q h => by rw [← hAe]; exact Or.inr h
  have hS : va_S A ss_.heap ss_.heap [] := va_S.rf
  have hP : va_P (dC, dI) vwCl [(x5, .inr (8, [.ref wm, .ref wt, .ref wv, .ref wk, .int 1, .ref we, .ref wf, .int 0, .ref p, .int g, .long 9007199254740991, .int 4095, .int 0, .int 0, .int 0, .int 0, .int 0])), (wm, .inr (2, [.ref na, .ref nb, .int 0, .int 0, .int 0])), (p, .inr (4, [.ref ps, .ref pc, .int 0, .int 0, .int 0, .int 0])), (wv, aJ cJ 16384 (fun _ => 0)), (wk, aI cI 4096 (fun _ => 0)), (wt, .inr (1, [.ref ta, .ref tb, .ref tc, .ref td, .int 0, .int 0, .int 0])), (td, aI cI 8192 (fun _ => 0)), (ta, aJ cJ 4096 (fun _ => 0)), (tb, aJ cJ 4096 (fun _ => 0)), (tc, aI cI 4096 (fun _ => 0))] ss_.heap := hP
  have hl := lv_entry ([.ref x5, .int o, .int 4095, .int 4095]) (n := 12) (Nat.le_of_ble_eq_true rfl)
  rw [lg_entry_eq]
  generalize (lg_sl ([.ref x5, .int o, .int 4095, .int 4095]) ++ List.replicate (12 - (lg_sl ([.ref x5, .int o, .int 4095, .int 4095])).length) Slot.unset).toArray = ls at hl ⊢
  have hl : lv_has ls 12 [(0, .ref x5), (1, .int o), (2, .int 4095), (3, .int 4095)] := hl
  refine lv_aload_n hx hb dX8_countUnshown_0 rfl (lv_at hl 0 rfl) ?_
  refine va_get (D := (dC, dI)) (ci := 8) (v := .int 0) (C := RX8) (T := TX8) (N := 17) hx hb hts hiX8 hown hK hP 0 rfl rfl 12 (by decide) (hts (.fieldLink RX8 56 "WatchedPrograms$Watch" "secretCells" "I") (by decide +kernel)) (fun _ h9 => h9) rfl dX8_countUnshown_1 ?_
  refine lv_aload_n hx hb dX8_countUnshown_4 rfl (lv_at hl 0 rfl) ?_
  refine va_get (D := (dC, dI)) (ci := 8) (v := .ref p) (C := RX8) (T := TX8) (N := 17) hx hb hts hiX8 hown hK hP 0 rfl rfl 8 (by decide) (hts (.fieldLink RX8 46 "WatchedPrograms$Watch" "program" "LWatchedPrograms$Program;") (by decide +kernel)) (fun _ h9 => h9) rfl dX8_countUnshown_5 ?_
  refine va_get (D := (dC, dI)) (ci := 4) (v := .int 0) (C := RX4) (T := TX4) (N := 6) hx hb hts hiX4 hown hK hP 2 rfl rfl 5 (by decide) (hts (.fieldLink RX8 69 "WatchedPrograms$Program" "used" "I") (by decide +kernel)) (fun _ h9 => h9) rfl dX8_countUnshown_8 ?_
  refine lv_iand hx hb dX8_countUnshown_11 ?_
  refine zi (y := 0) (by decide) ?_
  refine lv_iload_n hx hb dX8_countUnshown_12 rfl (lv_at hl 2 rfl) ?_
  refine lv_iload_n hx hb dX8_countUnshown_13 rfl (lv_at hl 3 rfl) ?_
  refine lv_ior hx hb dX8_countUnshown_14 ?_
  refine zi (y := 4095) (by decide) ?_
  refine lv_iconst (v := (-1)) hx hb dX8_countUnshown_15 (by decide) ?_
  refine lv_ixor hx hb dX8_countUnshown_16 ?_
  refine zi (y := (-4096)) (by decide) ?_
  refine lv_iand hx hb dX8_countUnshown_17 ?_
  refine zi (y := 0) (by decide) ?_
  refine lv_istore (lv' := [(4, .int 0), (0, .ref x5), (1, .int o), (2, .int 4095), (3, .int 4095)]) hx hb dX8_countUnshown_18 hl (by decide) rfl (fun ls hl => ?_)
  refine lv_iload hx hb dX8_countUnshown_20 (lv_at hl 0 rfl) ?_
  refine vp_callSi (va_Run.run (va_runSN (As := [.int 0]) (rest := []) ⟨hx, hb, hml, hown, hts⟩ (c_nOf0 l dC dI cI cJ cS   ) ⟨va_cnB 1 hts gX8_countUnshown_X9_numbersOf_n72 rfl rfl rfl hE.2.2.2.2.2.2.2.2.2.2.1 (hts (.initialized RX9) (by decide +kernel)) (by decide +kernel) ⟨Nat.le_of_ble_eq_true rfl, Nat.le_of_ble_eq_true rfl⟩, (hts (.static yX9_numbersOf) (by decide +kernel)), trivial⟩ (preR (hP.sub (ws' := []) [] rfl) hE) rfl rfl hl.1 rfl (lv_room (Nat.le_of_ble_eq_true rfl)) dX8_countUnshown_22 ⟨by decide +kernel, by decide +kernel⟩)) (fun r_1 hr_2 => ?_)
  obtain rfl := hr_2
  refine lv_istore (lv' := [(5, .int 1), (4, .int 0), (0, .ref x5), (1, .int o), (2, .int 4095), (3, .int 4095)]) hx hb dX8_countUnshown_25 hl (by decide) rfl (fun ls hl => ?_)
  refine lv_iload_n hx hb dX8_countUnshown_27 rfl (lv_at hl 4 rfl) ?_
  refine lv_aload_n hx hb dX8_countUnshown_28 rfl (lv_at hl 2 rfl) ?_
  refine va_get (D := (dC, dI)) (ci := 8) (v := .long 9007199254740991) (C := RX8) (T := TX8) (N := 17) hx hb hts hiX8 hown hK hP 0 rfl rfl 10 (by decide) (hts (.fieldLink RX8 65 "WatchedPrograms$Watch" "lens" "J") (by decide +kernel)) (fun _ h9 => h9) rfl dX8_countUnshown_29 ?_
  refine lv_ldc2 (v := 4602678819172646912) hx hb hown (hts (.constantLong RX8 59 (4602678819172646912)) (by decide +kernel)) dX8_countUnshown_32 ?_
  refine lv_land hx hb dX8_countUnshown_35 ?_
  refine zl (y := 0) (by decide) ?_
  refine vp_callSl (va_Run.run (va_runS (As := [.int 4095, .long 0]) (rest := []) ⟨hx, hb, hml, hown, hts⟩ (c_lensOf0 l dC dI cI cJ cS   ) (va_cwS 2 hts gX8_countUnshown_X8_lensOf rfl rfl rfl (by decide +kernel) ⟨Nat.le_of_ble_eq_true rfl, Nat.le_of_ble_eq_true rfl⟩) (preR (hP.sub (ws' := []) [] rfl) hE) rfl rfl hl.1 rfl (lv_room (Nat.le_of_ble_eq_true rfl)) dX8_countUnshown_36 ⟨by decide +kernel, by decide +kernel⟩)) (fun r_3 hr_4 => ?_)
  obtain rfl := hr_4
  refine lv_lstore (lv' := [(6, .long 9007199254740991), (5, .int 1), (4, .int 0), (0, .ref x5), (1, .int o), (2, .int 4095), (3, .int 4095)]) hx hb dX8_countUnshown_39 hl (by decide) rfl (fun ls hl => ?_)
  refine lv_iload_n hx hb dX8_countUnshown_41 rfl (lv_at hl 6 rfl) ?_
  refine lv_aload_n hx hb dX8_countUnshown_42 rfl (lv_at hl 3 rfl) ?_
  refine va_get (D := (dC, dI)) (ci := 8) (v := .long 9007199254740991) (C := RX8) (T := TX8) (N := 17) hx hb hts hiX8 hown hK hP 0 rfl rfl 10 (by decide) (hts (.fieldLink RX8 65 "WatchedPrograms$Watch" "lens" "J") (by decide +kernel)) (fun _ h9 => h9) rfl dX8_countUnshown_43 ?_
  refine lv_ldc2 (v := 4602678819172646912) hx hb hown (hts (.constantLong RX8 59 (4602678819172646912)) (by decide +kernel)) dX8_countUnshown_46 ?_
  refine lv_land hx hb dX8_countUnshown_49 ?_
  refine zl (y := 0) (by decide) ?_
  refine vp_callSl (va_Run.run (va_runS (As := [.int 4095, .long 0]) (rest := []) ⟨hx, hb, hml, hown, hts⟩ (c_lensOf0 l dC dI cI cJ cS   ) (va_cwS 2 hts gX8_countUnshown_X8_lensOf rfl rfl rfl (by decide +kernel) ⟨Nat.le_of_ble_eq_true rfl, Nat.le_of_ble_eq_true rfl⟩) (preR (hP.sub (ws' := []) [] rfl) hE) rfl rfl hl.1 rfl (lv_room (Nat.le_of_ble_eq_true rfl)) dX8_countUnshown_50 ⟨by decide +kernel, by decide +kernel⟩)) (fun r_5 hr_6 => ?_)
  obtain rfl := hr_6
  refine lv_lstore (lv' := [(8, .long 9007199254740991), (6, .long 9007199254740991), (5, .int 1), (4, .int 0), (0, .ref x5), (1, .int o), (2, .int 4095), (3, .int 4095)]) hx hb dX8_countUnshown_53 hl (by decide) rfl (fun ls hl => ?_)
  refine lv_aload_n hx hb dX8_countUnshown_55 rfl (lv_at hl 4 rfl) ?_
  refine va_get (D := (dC, dI)) (ci := 8) (v := .ref wt) (C := RX8) (T := TX8) (N := 17) hx hb hts hiX8 hown hK hP 0 rfl rfl 1 (by decide) (hts (.fieldLink RX8 21 "WatchedPrograms$Watch" "table" "LWatchedPrograms$HeapTable;") (by decide +kernel)) (fun _ h9 => h9) rfl dX8_countUnshown_56 ?_
  refine lv_iload hx hb dX8_countUnshown_59 (lv_at hl 2 rfl) ?_
  have hFc := va_free (wc := [(wt, .inr (1, [.ref ta, .ref tb, .ref tc, .ref td, .int 0, .int 0, .int 0])), (td, aI cI 8192 (fun _ => 0))]) hD hS hA [5, 6] rfl
  refine zCv (wr := [(x5, .inr (8, [.ref wm, .ref wt, .ref wv, .ref wk, .int 1, .ref we, .ref wf, .int 0, .ref p, .int g, .long 9007199254740991, .int 4095, .int 0, .int 0, .int 0, .int 0, .int 0])), (wm, .inr (2, [.ref na, .ref nb, .int 0, .int 0, .int 0])), (p, .inr (4, [.ref ps, .ref pc, .int 0, .int 0, .int 0, .int 0])), (wv, aJ cJ 16384 (fun _ => 0)), (wk, aI cI 4096 (fun _ => 0)), (ta, aJ cJ 4096 (fun _ => 0)), (tb, aJ cJ 4096 (fun _ => 0)), (tc, aI cI 4096 (fun _ => 0))]) hP hD hS hFc [5, 6] [0, 1, 2, 3, 4, 7, 8, 9] rfl rfl (by decide) (by decide) (va_runV (As := [.int 1]) (rest := []) ⟨hx, hb, hml, hown, hts⟩ (c_tbegin l dC dI cI cJ cS ss_.heap.size wt ta tb tc td ) (cwV 1 hts gX8_countUnshown_X1_begin rfl rfl rfl (by decide +kernel) ⟨Nat.le_of_ble_eq_true rfl, Nat.le_of_ble_eq_true rfl⟩) (preEV (hP.sub (ws' := [(wt, .inr (1, [.ref ta, .ref tb, .ref tc, .ref td, .int 0, .int 0, .int 0])), (td, aI cI 8192 (fun _ => 0))]) [5, 6] rfl) hE (hD.sub (ws' := [(wt, .inr (1, [.ref ta, .ref tb, .ref tc, .ref td, .int 0, .int 0, .int 0])), (td, aI cI 8192 (fun _ => 0))]) [5, 6] (by decide) rfl) 0 (ci := 1) rfl rfl) rfl rfl hl.1 rfl (lv_room (Nat.le_of_ble_eq_true rfl)) dX8_countUnshown_61 ⟨by decide +kernel, by decide +kernel⟩) (fun u_9 H locs hr_8 hP hD hS => ?_)
  try dsimp only at hr_8
  have hP : va_P (dC, dI) vwCl [(x5, .inr (8, [.ref wm, .ref wt, .ref wv, .ref wk, .int 1, .ref we, .ref wf, .int 0, .ref p, .int g, .long 9007199254740991, .int 4095, .int 0, .int 0, .int 0, .int 0, .int 0])), (wm, .inr (2, [.ref na, .ref nb, .int 0, .int 0, .int 0])), (p, .inr (4, [.ref ps, .ref pc, .int 0, .int 0, .int 0, .int 0])), (wv, aJ cJ 16384 (fun _ => 0)), (wk, aI cI 4096 (fun _ => 0)), (ta, aJ cJ 4096 (fun _ => 0)), (tb, aJ cJ 4096 (fun _ => 0)), (tc, aI cI 4096 (fun _ => 0)), (wt, .inr (1, [.ref ta, .ref tb, .ref tc, .ref td, .int 1, .int 0, .int 0])), (td, aI cI 8192 (upd (upd (fun _ => 0) 0 0) 1 0))] H := hP
  have hD : va_D A [(x5, .inr (8, [.ref wm, .ref wt, .ref wv, .ref wk, .int 1, .ref we, .ref wf, .int 0, .ref p, .int g, .long 9007199254740991, .int 4095, .int 0, .int 0, .int 0, .int 0, .int 0])), (wm, .inr (2, [.ref na, .ref nb, .int 0, .int 0, .int 0])), (p, .inr (4, [.ref ps, .ref pc, .int 0, .int 0, .int 0, .int 0])), (wv, aJ cJ 16384 (fun _ => 0)), (wk, aI cI 4096 (fun _ => 0)), (ta, aJ cJ 4096 (fun _ => 0)), (tb, aJ cJ 4096 (fun _ => 0)), (tc, aI cI 4096 (fun _ => 0)), (wt, .inr (1, [.ref ta, .ref tb, .ref tc, .ref td, .int 1, .int 0, .int 0])), (td, aI cI 8192 (upd (upd (fun _ => 0) 0 0) 1 0))] := hD
  refine lv_iconst (v := 0) hx hb dX8_countUnshown_64 (by decide) ?_
  refine lv_istore (lv' := [(10, .int 0), (8, .long 9007199254740991), (6, .long 9007199254740991), (5, .int 1), (4, .int 0), (0, .ref x5), (1, .int o), (2, .int 4095), (3, .int 4095)]) hx hb dX8_countUnshown_65 hl (by decide) rfl (fun ls hl => ?_)
  refine lv_iconst (v := 0) hx hb dX8_countUnshown_67 (by decide) ?_
  refine lv_istore (lv' := [(11, .int 0), (10, .int 0), (8, .long 9007199254740991), (6, .long 9007199254740991), (5, .int 1), (4, .int 0), (0, .ref x5), (1, .int o), (2, .int 4095), (3, .int 4095)]) hx hb dX8_countUnshown_68 hl (by decide) rfl (fun ls hl => ?_)
  refine lv_iload hx hb dX8_countUnshown_70 (lv_at hl 0 rfl) ?_
  refine lv_iload hx hb dX8_countUnshown_72 (lv_at hl 4 rfl) ?_
  refine lv_icmp_ge (tgt := 125) hx hb dX8_countUnshown_74 (by decide) (fun c_10 => absurd c_10 (by decide)) (fun _ => ?_)
  refine lv_aload_n hx hb dX8_countUnshown_77 rfl (lv_at hl 6 rfl) ?_
  refine va_get (D := (dC, dI)) (ci := 8) (v := .ref wt) (C := RX8) (T := TX8) (N := 17) hx hb hts hiX8 hown hK hP 0 rfl rfl 1 (by decide) (hts (.fieldLink RX8 21 "WatchedPrograms$Watch" "table" "LWatchedPrograms$HeapTable;") (by decide +kernel)) (fun _ h9 => h9) rfl dX8_countUnshown_78 ?_
  refine lv_aload_n hx hb dX8_countUnshown_81 rfl (lv_at hl 6 rfl) ?_
  refine lv_iload_n hx hb dX8_countUnshown_82 rfl (lv_at hl 7 rfl) ?_
  refine lv_iload hx hb dX8_countUnshown_83 (lv_at hl 1 rfl) ?_
  refine lv_ior hx hb dX8_countUnshown_85 ?_
  refine zi (y := o) Int32.or_zero ?_
  refine lv_iconst (v := 1) hx hb dX8_countUnshown_86 (by decide) ?_
  refine lv_iconst (v := 0) hx hb dX8_countUnshown_87 (by decide) ?_
  have hFc := va_free (wc := [(x5, .inr (8, [.ref wm, .ref wt, .ref wv, .ref wk, .int 1, .ref we, .ref wf, .int 0, .ref p, .int g, .long 9007199254740991, .int 4095, .int 0, .int 0, .int 0, .int 0, .int 0])), (wm, .inr (2, [.ref na, .ref nb, .int 0, .int 0, .int 0])), (p, .inr (4, [.ref ps, .ref pc, .int 0, .int 0, .int 0, .int 0])), (wv, aJ cJ 16384 (fun _ => 0)), (wk, aI cI 4096 (fun _ => 0))]) hD hS hA [0, 1, 2, 3, 4] rfl
  refine zCl (wr := [(ta, aJ cJ 4096 (fun _ => 0)), (tb, aJ cJ 4096 (fun _ => 0)), (tc, aI cI 4096 (fun _ => 0)), (wt, .inr (1, [.ref ta, .ref tb, .ref tc, .ref td, .int 1, .int 0, .int 0])), (td, aI cI 8192 (upd (upd (fun _ => 0) 0 0) 1 0))]) hP hD hS hFc [0, 1, 2, 3, 4] [5, 6, 7, 8, 9] rfl rfl (by decide) (by decide) (va_runV (As := [.int o, .int 1, .int 0]) (rest := [.ref wt]) ⟨hx, hb, hml, hown, hts⟩ (c_look1 l dC dI cI cJ cS H.size x5 o 1 wm wt wv wk we wf p g 9007199254740991 0 0 na nb ps pc ) (cwV 3 hts gX8_countUnshown_X8_look rfl rfl rfl (by decide +kernel) ⟨Nat.le_of_ble_eq_true rfl, Nat.le_of_ble_eq_true rfl⟩) (preEV (hP.sub (ws' := [(x5, .inr (8, [.ref wm, .ref wt, .ref wv, .ref wk, .int 1, .ref we, .ref wf, .int 0, .ref p, .int g, .long 9007199254740991, .int 4095, .int 0, .int 0, .int 0, .int 0, .int 0])), (wm, .inr (2, [.ref na, .ref nb, .int 0, .int 0, .int 0])), (p, .inr (4, [.ref ps, .ref pc, .int 0, .int 0, .int 0, .int 0])), (wv, aJ cJ 16384 (fun _ => 0)), (wk, aI cI 4096 (fun _ => 0))]) [0, 1, 2, 3, 4] rfl) hE (hD.sub (ws' := [(x5, .inr (8, [.ref wm, .ref wt, .ref wv, .ref wk, .int 1, .ref we, .ref wf, .int 0, .ref p, .int g, .long 9007199254740991, .int 4095, .int 0, .int 0, .int 0, .int 0, .int 0])), (wm, .inr (2, [.ref na, .ref nb, .int 0, .int 0, .int 0])), (p, .inr (4, [.ref ps, .ref pc, .int 0, .int 0, .int 0, .int 0])), (wv, aJ cJ 16384 (fun _ => 0)), (wk, aI cI 4096 (fun _ => 0))]) [0, 1, 2, 3, 4] (by decide) rfl) 0 (ci := 8) rfl rfl) rfl rfl hl.1 rfl (lv_room (Nat.le_of_ble_eq_true rfl)) dX8_countUnshown_88 ⟨by decide +kernel, by decide +kernel⟩) (fun r_11 u_13 H locs hr_12 hP hD hS => ?_)
  try dsimp only at hr_12
  have hP : va_P (dC, dI) vwCl [(ta, aJ cJ 4096 (fun _ => 0)), (tb, aJ cJ 4096 (fun _ => 0)), (tc, aI cI 4096 (fun _ => 0)), (wt, .inr (1, [.ref ta, .ref tb, .ref tc, .ref td, .int 1, .int 0, .int 0])), (td, aI cI 8192 (upd (upd (fun _ => 0) 0 0) 1 0)), (x5, .inr (8, [.ref wm, .ref wt, .ref wv, .ref wk, .int 1, .ref we, .ref wf, .int 0, .ref p, .int g, .long 9007199254740991, .int 4095, .int 0, .int 0, .int 0, .int 0, .int 0])), (wv, aJ cJ 16384 (vp_updL (vp_updL (vp_updL (vp_updL (fun _ => 0) 0 1) 4096 1) 8192 1) 12288 1)), (wk, aI cI 4096 (upd (fun _ => 0) 0 1)), (wm, .inr (2, [.ref na, .ref nb, .int 0, .int 0, .int 0])), (p, .inr (4, [.ref ps, .ref pc, .int 0, .int 0, .int 0, .int 0]))] H := hP
  have hD : va_D A [(ta, aJ cJ 4096 (fun _ => 0)), (tb, aJ cJ 4096 (fun _ => 0)), (tc, aI cI 4096 (fun _ => 0)), (wt, .inr (1, [.ref ta, .ref tb, .ref tc, .ref td, .int 1, .int 0, .int 0])), (td, aI cI 8192 (upd (upd (fun _ => 0) 0 0) 1 0)), (x5, .inr (8, [.ref wm, .ref wt, .ref wv, .ref wk, .int 1, .ref we, .ref wf, .int 0, .ref p, .int g, .long 9007199254740991, .int 4095, .int 0, .int 0, .int 0, .int 0, .int 0])), (wv, aJ cJ 16384 (vp_updL (vp_updL (vp_updL (vp_updL (fun _ => 0) 0 1) 4096 1) 8192 1) 12288 1)), (wk, aI cI 4096 (upd (fun _ => 0) 0 1)), (wm, .inr (2, [.ref na, .ref nb, .int 0, .int 0, .int 0])), (p, .inr (4, [.ref ps, .ref pc, .int 0, .int 0, .int 0, .int 0]))] := hD
  obtain rfl := hr_12
  refine lv_lload hx hb dX8_countUnshown_91 (lv_at hl 3 rfl) ?_
  refine lv_land hx hb dX8_countUnshown_93 ?_
  refine zl (y := 1) (by decide) ?_
  refine lv_aload_n hx hb dX8_countUnshown_94 rfl (lv_at hl 6 rfl) ?_
  refine lv_iload_n hx hb dX8_countUnshown_95 rfl (lv_at hl 7 rfl) ?_
  refine lv_iload hx hb dX8_countUnshown_96 (lv_at hl 1 rfl) ?_
  refine lv_ior hx hb dX8_countUnshown_98 ?_
  refine zi (y := o) Int32.or_zero ?_
  refine lv_iconst (v := 2) hx hb dX8_countUnshown_99 (by decide) ?_
  refine lv_iconst (v := 0) hx hb dX8_countUnshown_100 (by decide) ?_
  have hFc := va_free (wc := [(x5, .inr (8, [.ref wm, .ref wt, .ref wv, .ref wk, .int 1, .ref we, .ref wf, .int 0, .ref p, .int g, .long 9007199254740991, .int 4095, .int 0, .int 0, .int 0, .int 0, .int 0])), (wv, aJ cJ 16384 (vp_updL (vp_updL (vp_updL (vp_updL (fun _ => 0) 0 1) 4096 1) 8192 1) 12288 1)), (wk, aI cI 4096 (upd (fun _ => 0) 0 1)), (wm, .inr (2, [.ref na, .ref nb, .int 0, .int 0, .int 0])), (p, .inr (4, [.ref ps, .ref pc, .int 0, .int 0, .int 0, .int 0]))]) hD hS hA [5, 6, 7, 8, 9] rfl
  refine zCl (wr := [(ta, aJ cJ 4096 (fun _ => 0)), (tb, aJ cJ 4096 (fun _ => 0)), (tc, aI cI 4096 (fun _ => 0)), (wt, .inr (1, [.ref ta, .ref tb, .ref tc, .ref td, .int 1, .int 0, .int 0])), (td, aI cI 8192 (upd (upd (fun _ => 0) 0 0) 1 0))]) hP hD hS hFc [5, 6, 7, 8, 9] [0, 1, 2, 3, 4] rfl rfl (by decide) (by decide) (va_runV (As := [.int o, .int 2, .int 0]) (rest := [.long 1, .ref wt]) ⟨hx, hb, hml, hown, hts⟩ (c_look2 l dC dI cI cJ cS H.size x5 o 2 wm wt wv wk we wf p g 9007199254740991 0 0 na nb ps pc ) (cwV 3 hts gX8_countUnshown_X8_look rfl rfl rfl (by decide +kernel) ⟨Nat.le_of_ble_eq_true rfl, Nat.le_of_ble_eq_true rfl⟩) (preEV (hP.sub (ws' := [(x5, .inr (8, [.ref wm, .ref wt, .ref wv, .ref wk, .int 1, .ref we, .ref wf, .int 0, .ref p, .int g, .long 9007199254740991, .int 4095, .int 0, .int 0, .int 0, .int 0, .int 0])), (wv, aJ cJ 16384 (vp_updL (vp_updL (vp_updL (vp_updL (fun _ => 0) 0 1) 4096 1) 8192 1) 12288 1)), (wk, aI cI 4096 (upd (fun _ => 0) 0 1)), (wm, .inr (2, [.ref na, .ref nb, .int 0, .int 0, .int 0])), (p, .inr (4, [.ref ps, .ref pc, .int 0, .int 0, .int 0, .int 0]))]) [5, 6, 7, 8, 9] rfl) hE (hD.sub (ws' := [(x5, .inr (8, [.ref wm, .ref wt, .ref wv, .ref wk, .int 1, .ref we, .ref wf, .int 0, .ref p, .int g, .long 9007199254740991, .int 4095, .int 0, .int 0, .int 0, .int 0, .int 0])), (wv, aJ cJ 16384 (vp_updL (vp_updL (vp_updL (vp_updL (fun _ => 0) 0 1) 4096 1) 8192 1) 12288 1)), (wk, aI cI 4096 (upd (fun _ => 0) 0 1)), (wm, .inr (2, [.ref na, .ref nb, .int 0, .int 0, .int 0])), (p, .inr (4, [.ref ps, .ref pc, .int 0, .int 0, .int 0, .int 0]))]) [5, 6, 7, 8, 9] (by decide) rfl) 0 (ci := 8) rfl rfl) rfl rfl hl.1 rfl (lv_room (Nat.le_of_ble_eq_true rfl)) dX8_countUnshown_101 ⟨by decide +kernel, by decide +kernel⟩) (fun r_14 u_16 H locs hr_15 hP hD hS => ?_)
  try dsimp only at hr_15
  have hP : va_P (dC, dI) vwCl [(ta, aJ cJ 4096 (fun _ => 0)), (tb, aJ cJ 4096 (fun _ => 0)), (tc, aI cI 4096 (fun _ => 0)), (wt, .inr (1, [.ref ta, .ref tb, .ref tc, .ref td, .int 1, .int 0, .int 0])), (td, aI cI 8192 (upd (upd (fun _ => 0) 0 0) 1 0)), (x5, .inr (8, [.ref wm, .ref wt, .ref wv, .ref wk, .int 1, .ref we, .ref wf, .int 0, .ref p, .int g, .long 9007199254740991, .int 4095, .int 0, .int 0, .int 0, .int 0, .int 0])), (wv, aJ cJ 16384 (vp_updL (vp_updL (vp_updL (vp_updL (fun _ => 0) 0 1) 4096 1) 8192 1) 12288 1)), (wk, aI cI 4096 (upd (fun _ => 0) 0 1)), (wm, .inr (2, [.ref na, .ref nb, .int 0, .int 0, .int 0])), (p, .inr (4, [.ref ps, .ref pc, .int 0, .int 0, .int 0, .int 0]))] H := hP
  have hD : va_D A [(ta, aJ cJ 4096 (fun _ => 0)), (tb, aJ cJ 4096 (fun _ => 0)), (tc, aI cI 4096 (fun _ => 0)), (wt, .inr (1, [.ref ta, .ref tb, .ref tc, .ref td, .int 1, .int 0, .int 0])), (td, aI cI 8192 (upd (upd (fun _ => 0) 0 0) 1 0)), (x5, .inr (8, [.ref wm, .ref wt, .ref wv, .ref wk, .int 1, .ref we, .ref wf, .int 0, .ref p, .int g, .long 9007199254740991, .int 4095, .int 0, .int 0, .int 0, .int 0, .int 0])), (wv, aJ cJ 16384 (vp_updL (vp_updL (vp_updL (vp_updL (fun _ => 0) 0 1) 4096 1) 8192 1) 12288 1)), (wk, aI cI 4096 (upd (fun _ => 0) 0 1)), (wm, .inr (2, [.ref na, .ref nb, .int 0, .int 0, .int 0])), (p, .inr (4, [.ref ps, .ref pc, .int 0, .int 0, .int 0, .int 0]))] := hD
  obtain rfl := hr_15
  refine lv_lload hx hb dX8_countUnshown_104 (lv_at hl 2 rfl) ?_
  refine lv_land hx hb dX8_countUnshown_106 ?_
  refine zl (y := 1) (by decide) ?_
  have hFc := va_free (wc := [(wt, .inr (1, [.ref ta, .ref tb, .ref tc, .ref td, .int 1, .int 0, .int 0])), (td, aI cI 8192 (upd (upd (fun _ => 0) 0 0) 1 0)), (ta, aJ cJ 4096 (fun _ => 0)), (tb, aJ cJ 4096 (fun _ => 0)), (tc, aI cI 4096 (fun _ => 0))]) hD hS hA [3, 4, 0, 1, 2] rfl
  refine zCv (wr := [(x5, .inr (8, [.ref wm, .ref wt, .ref wv, .ref wk, .int 1, .ref we, .ref wf, .int 0, .ref p, .int g, .long 9007199254740991, .int 4095, .int 0, .int 0, .int 0, .int 0, .int 0])), (wv, aJ cJ 16384 (vp_updL (vp_updL (vp_updL (vp_updL (fun _ => 0) 0 1) 4096 1) 8192 1) 12288 1)), (wk, aI cI 4096 (upd (fun _ => 0) 0 1)), (wm, .inr (2, [.ref na, .ref nb, .int 0, .int 0, .int 0])), (p, .inr (4, [.ref ps, .ref pc, .int 0, .int 0, .int 0, .int 0]))]) hP hD hS hFc [3, 4, 0, 1, 2] [5, 6, 7, 8, 9] rfl rfl (by decide) (by decide) (va_runV (As := [.long 1, .long 1]) (rest := []) ⟨hx, hb, hml, hown, hts⟩ (c_tput1 l dC dI cI cJ cS H.size wt ta tb tc td ) (cwV 2 hts gX8_countUnshown_X1_put rfl rfl rfl (by decide +kernel) ⟨Nat.le_of_ble_eq_true rfl, Nat.le_of_ble_eq_true rfl⟩) (preEV (hP.sub (ws' := [(wt, .inr (1, [.ref ta, .ref tb, .ref tc, .ref td, .int 1, .int 0, .int 0])), (td, aI cI 8192 (upd (upd (fun _ => 0) 0 0) 1 0)), (ta, aJ cJ 4096 (fun _ => 0)), (tb, aJ cJ 4096 (fun _ => 0)), (tc, aI cI 4096 (fun _ => 0))]) [3, 4, 0, 1, 2] rfl) hE (hD.sub (ws' := [(wt, .inr (1, [.ref ta, .ref tb, .ref tc, .ref td, .int 1, .int 0, .int 0])), (td, aI cI 8192 (upd (upd (fun _ => 0) 0 0) 1 0)), (ta, aJ cJ 4096 (fun _ => 0)), (tb, aJ cJ 4096 (fun _ => 0)), (tc, aI cI 4096 (fun _ => 0))]) [3, 4, 0, 1, 2] (by decide) rfl) 0 (ci := 1) rfl rfl) rfl rfl hl.1 rfl (lv_room (Nat.le_of_ble_eq_true rfl)) dX8_countUnshown_107 ⟨by decide +kernel, by decide +kernel⟩) (fun u_19 H locs hr_18 hP hD hS => ?_)
  try dsimp only at hr_18
  have hP : va_P (dC, dI) vwCl [(x5, .inr (8, [.ref wm, .ref wt, .ref wv, .ref wk, .int 1, .ref we, .ref wf, .int 0, .ref p, .int g, .long 9007199254740991, .int 4095, .int 0, .int 0, .int 0, .int 0, .int 0])), (wv, aJ cJ 16384 (vp_updL (vp_updL (vp_updL (vp_updL (fun _ => 0) 0 1) 4096 1) 8192 1) 12288 1)), (wk, aI cI 4096 (upd (fun _ => 0) 0 1)), (wm, .inr (2, [.ref na, .ref nb, .int 0, .int 0, .int 0])), (p, .inr (4, [.ref ps, .ref pc, .int 0, .int 0, .int 0, .int 0])), (td, aI cI 8192 (upd (upd (upd (fun _ => 0) 0 0) 1 0) 1 1)), (ta, aJ cJ 4096 (vp_updL (fun _ => 0) 0 1)), (tb, aJ cJ 4096 (vp_updL (fun _ => 0) 0 1)), (wt, .inr (1, [.ref ta, .ref tb, .ref tc, .ref td, .int 1, .int 1, .int 1])), (tc, aI cI 4096 (upd (upd (fun _ => 0) 0 0) 0 1))] H := hP
  have hD : va_D A [(x5, .inr (8, [.ref wm, .ref wt, .ref wv, .ref wk, .int 1, .ref we, .ref wf, .int 0, .ref p, .int g, .long 9007199254740991, .int 4095, .int 0, .int 0, .int 0, .int 0, .int 0])), (wv, aJ cJ 16384 (vp_updL (vp_updL (vp_updL (vp_updL (fun _ => 0) 0 1) 4096 1) 8192 1) 12288 1)), (wk, aI cI 4096 (upd (fun _ => 0) 0 1)), (wm, .inr (2, [.ref na, .ref nb, .int 0, .int 0, .int 0])), (p, .inr (4, [.ref ps, .ref pc, .int 0, .int 0, .int 0, .int 0])), (td, aI cI 8192 (upd (upd (upd (fun _ => 0) 0 0) 1 0) 1 1)), (ta, aJ cJ 4096 (vp_updL (fun _ => 0) 0 1)), (tb, aJ cJ 4096 (vp_updL (fun _ => 0) 0 1)), (wt, .inr (1, [.ref ta, .ref tb, .ref tc, .ref td, .int 1, .int 1, .int 1])), (tc, aI cI 4096 (upd (upd (fun _ => 0) 0 0) 0 1))] := hD
  refine lv_iload hx hb dX8_countUnshown_110 (lv_at hl 1 rfl) ?_
  refine lv_iload hx hb dX8_countUnshown_112 (lv_at hl 5 rfl) ?_
  refine vp_callSi (va_Run.run (va_runSN (As := [.int 0, .int 0]) (rest := []) ⟨hx, hb, hml, hown, hts⟩ (c_following0 l dC dI cI cJ cS   ) ⟨va_cnB 2 hts gX8_countUnshown_X9_following_n88 rfl rfl rfl hE.2.2.2.2.2.2.2.2.2.2.2.2.1 (hts (.initialized RX9) (by decide +kernel)) (by decide +kernel) ⟨Nat.le_of_ble_eq_true rfl, Nat.le_of_ble_eq_true rfl⟩, (hts (.static yX9_following) (by decide +kernel)), trivial⟩ (preR (hP.sub (ws' := []) [] rfl) hE) rfl rfl hl.1 rfl (lv_room (Nat.le_of_ble_eq_true rfl)) dX8_countUnshown_114 ⟨by decide +kernel, by decide +kernel⟩)) (fun r_20 hr_21 => ?_)
  obtain rfl := hr_21
  refine lv_istore (lv' := [(10, .int 0), (11, .int 0), (8, .long 9007199254740991), (6, .long 9007199254740991), (5, .int 1), (4, .int 0), (0, .ref x5), (1, .int o), (2, .int 4095), (3, .int 4095)]) hx hb dX8_countUnshown_117 hl (by decide) rfl (fun ls hl => ?_)
  refine lv_iinc (v := 1) (lv' := [(11, .int 1), (10, .int 0), (8, .long 9007199254740991), (6, .long 9007199254740991), (5, .int 1), (4, .int 0), (0, .ref x5), (1, .int o), (2, .int 4095), (3, .int 4095)]) hx hb dX8_countUnshown_119 hl (k := 1) rfl (by decide) (by decide) rfl (fun ls hl => ?_)
  refine lv_goto (tgt := 70) hx hb dX8_countUnshown_122 (by decide) ?_
  refine lv_iload hx hb dX8_countUnshown_70 (lv_at hl 0 rfl) ?_
  refine lv_iload hx hb dX8_countUnshown_72 (lv_at hl 4 rfl) ?_
  refine lv_icmp_ge (tgt := 125) hx hb dX8_countUnshown_74 (by decide) (fun _ => ?_) (fun c_22 => absurd (by decide) c_22)
  refine lv_aload_n hx hb dX8_countUnshown_125 rfl (lv_at hl 6 rfl) ?_
  refine va_get (D := (dC, dI)) (ci := 8) (v := .ref wt) (C := RX8) (T := TX8) (N := 17) hx hb hts hiX8 hown hK hP 0 rfl rfl 1 (by decide) (hts (.fieldLink RX8 21 "WatchedPrograms$Watch" "table" "LWatchedPrograms$HeapTable;") (by decide +kernel)) (fun _ h9 => h9) rfl dX8_countUnshown_126 ?_
  refine va_get (D := (dC, dI)) (ci := 1) (v := .int 1) (C := RX1) (T := TX1) (N := 7) hx hb hts hiX1 hown hK hP 8 rfl rfl 5 (by decide) (hts (.fieldLink RX8 92 "WatchedPrograms$HeapTable" "many" "I") (by decide +kernel)) (fun _ h9 => h9) rfl dX8_countUnshown_129 ?_
  have hP9 := hP.sub (ws' := [(x5, .inr (8, [.ref wm, .ref wt, .ref wv, .ref wk, .int 1, .ref we, .ref wf, .int 0, .ref p, .int g, .long 9007199254740991, .int 4095, .int 0, .int 0, .int 0, .int 0, .int 0])), (wv, aJ cJ 16384 (vp_updL (vp_updL (vp_updL (vp_updL (fun _ => 0) 0 1) 4096 1) 8192 1) 12288 1)), (wk, aI cI 4096 (upd (fun _ => 0) 0 1)), (wm, .inr (2, [.ref na, .ref nb, .int 0, .int 0, .int 0])), (p, .inr (4, [.ref ps, .ref pc, .int 0, .int 0, .int 0, .int 0])), (td, aI cI 8192 (upd (upd (upd (fun _ => 0) 0 0) 1 0) 1 1)), (ta, aJ cJ 4096 (vp_updL (fun _ => 0) 0 1)), (tb, aJ cJ 4096 (vp_updL (fun _ => 0) 0 1)), (wt, .inr (1, [.ref ta, .ref tb, .ref tc, .ref td, .int 1, .int 1, .int 1])), (tc, aI cI 4096 (upd (upd (fun _ => 0) 0 0) 0 1))]) [0, 1, 2, 3, 4, 5, 6, 7, 8, 9] rfl
  have hD9 := hD.sub (ws' := [(x5, .inr (8, [.ref wm, .ref wt, .ref wv, .ref wk, .int 1, .ref we, .ref wf, .int 0, .ref p, .int g, .long 9007199254740991, .int 4095, .int 0, .int 0, .int 0, .int 0, .int 0])), (wv, aJ cJ 16384 (vp_updL (vp_updL (vp_updL (vp_updL (fun _ => 0) 0 1) 4096 1) 8192 1) 12288 1)), (wk, aI cI 4096 (upd (fun _ => 0) 0 1)), (wm, .inr (2, [.ref na, .ref nb, .int 0, .int 0, .int 0])), (p, .inr (4, [.ref ps, .ref pc, .int 0, .int 0, .int 0, .int 0])), (td, aI cI 8192 (upd (upd (upd (fun _ => 0) 0 0) 1 0) 1 1)), (ta, aJ cJ 4096 (vp_updL (fun _ => 0) 0 1)), (tb, aJ cJ 4096 (vp_updL (fun _ => 0) 0 1)), (wt, .inr (1, [.ref ta, .ref tb, .ref tc, .ref td, .int 1, .int 1, .int 1])), (tc, aI cI 4096 (upd (upd (fun _ => 0) 0 0) 0 1))]) [0, 1, 2, 3, 4, 5, 6, 7, 8, 9] (by decide) rfl
  exact W.iret (v := 1) hx hb hr (fun tt_ ht hW => ⟨⟨_, (), rfl, rfl, by rw [ht]; exact hP9, hD9⟩, hS.F ht⟩) hS.2.2 dX8_countUnshown_132
set_option maxHeartbeats 1000000 in
set_option maxRecDepth 100000 in
theorem c_countBoth0 (l : Launch) (dC : Nat → ClassId) (dI : Nat → Nat → Nat) (cI cJ cS : ClassId) (sz : Nat) (x5 : Nat) (o : Int32) (wm : Nat) (wt : Nat) (wv : Nat) (wk : Nat) (we : Nat) (wf : Nat) (p : Nat) (g : Int32) (na : Nat) (nb : Nat) (ps : Nat) (pc : Nat) (ta : Nat) (tb : Nat) (tc : Nat) (td : Nat)  : Met l yX8_countBoth wsX8_countBoth ({ frames := 5, cells := 0, slots := 0, locals := 114 }) (va_Pc [.ref x5, .int o, .int 4095, .int 4095] (PE dC dI cI cJ cS [(x5, .inr (8, [.ref wm, .ref wt, .ref wv, .ref wk, .int 1, .ref we, .ref wf, .int 0, .ref p, .int g, .long 9007199254740991, .int 4095, .int 0, .int 0, .int 0, .int 0, .int 0])), (wm, .inr (2, [.ref na, .ref nb, .int 0, .int 0, .int 0])), (p, .inr (4, [.ref ps, .ref pc, .int 0, .int 0, .int 0, .int 0])), (wv, aJ cJ 16384 (fun _ => 0)), (wk, aI cI 4096 (fun _ => 0)), (wt, .inr (1, [.ref ta, .ref tb, .ref tc, .ref td, .int 0, .int 0, .int 0])), (td, aI cI 8192 (fun _ => 0)), (ta, aJ cJ 4096 (fun _ => 0)), (tb, aJ cJ 4096 (fun _ => 0)), (tc, aI cI 4096 (fun _ => 0))] sz)) (va_Qi (fun (r : Int32) (_ : Unit) => r = 1) (BE dC dI (va_A [(x5, .inr (8, [.ref wm, .ref wt, .ref wv, .ref wk, .int 1, .ref we, .ref wf, .int 0, .ref p, .int g, .long 9007199254740991, .int 4095, .int 0, .int 0, .int 0, .int 0, .int 0])), (wm, .inr (2, [.ref na, .ref nb, .int 0, .int 0, .int 0])), (p, .inr (4, [.ref ps, .ref pc, .int 0, .int 0, .int 0, .int 0])), (wv, aJ cJ 16384 (fun _ => 0)), (wk, aI cI 4096 (fun _ => 0)), (wt, .inr (1, [.ref ta, .ref tb, .ref tc, .ref td, .int 0, .int 0, .int 0])), (td, aI cI 8192 (fun _ => 0)), (ta, aJ cJ 4096 (fun _ => 0)), (tb, aJ cJ 4096 (fun _ => 0)), (tc, aI cI 4096 (fun _ => 0))] sz) (fun (_ : Unit) => [(x5, .inr (8, [.ref wm, .ref wt, .ref wv, .ref wk, .int 1, .ref we, .ref wf, .int 0, .ref p, .int g, .long 9007199254740991, .int 4095, .int 0, .int 0, .int 0, .int 0, .int 0])), (wv, aJ cJ 16384 (vp_updL (vp_updL (vp_updL (vp_updL (fun _ => 0) 0 1) 4096 1) 8192 1) 12288 1)), (wk, aI cI 4096 (upd (fun _ => 0) 0 1)), (wm, .inr (2, [.ref na, .ref nb, .int 0, .int 0, .int 0])), (p, .inr (4, [.ref ps, .ref pc, .int 0, .int 0, .int 0, .int 0])), (td, aI cI 8192 (upd (upd (upd (fun _ => 0) 0 0) 1 0) 1 1)), (ta, aJ cJ 4096 (vp_updL (fun _ => 0) 0 1)), (tb, aJ cJ 4096 (vp_updL (fun _ => 0) 0 1)), (wt, .inr (1, [.ref ta, .ref tb, .ref tc, .ref td, .int 1, .int 1, .int 1])), (tc, aI cI 4096 (upd (upd (fun _ => 0) 0 0) 0 1))])) (va_A [(x5, .inr (8, [.ref wm, .ref wt, .ref wv, .ref wk, .int 1, .ref we, .ref wf, .int 0, .ref p, .int g, .long 9007199254740991, .int 4095, .int 0, .int 0, .int 0, .int 0, .int 0])), (wm, .inr (2, [.ref na, .ref nb, .int 0, .int 0, .int 0])), (p, .inr (4, [.ref ps, .ref pc, .int 0, .int 0, .int 0, .int 0])), (wv, aJ cJ 16384 (fun _ => 0)), (wk, aI cI 4096 (fun _ => 0)), (wt, .inr (1, [.ref ta, .ref tb, .ref tc, .ref td, .int 0, .int 0, .int 0])), (td, aI cI 8192 (fun _ => 0)), (ta, aJ cJ 4096 (fun _ => 0)), (tb, aJ cJ 4096 (fun _ => 0)), (tc, aI cI 4096 (fun _ => 0))] sz)) 0 0 (va_A [(x5, .inr (8, [.ref wm, .ref wt, .ref wv, .ref wk, .int 1, .ref we, .ref wf, .int 0, .ref p, .int g, .long 9007199254740991, .int 4095, .int 0, .int 0, .int 0, .int 0, .int 0])), (wm, .inr (2, [.ref na, .ref nb, .int 0, .int 0, .int 0])), (p, .inr (4, [.ref ps, .ref pc, .int 0, .int 0, .int 0, .int 0])), (wv, aJ cJ 16384 (fun _ => 0)), (wk, aI cI 4096 (fun _ => 0)), (wt, .inr (1, [.ref ta, .ref tb, .ref tc, .ref td, .int 0, .int 0, .int 0])), (td, aI cI 8192 (fun _ => 0)), (ta, aJ cJ 4096 (fun _ => 0)), (tb, aJ cJ 4096 (fun _ => 0)), (tc, aI cI 4096 (fun _ => 0))] sz) := by
  refine Met.ofW (cc := cX8_countBoth) (maxL := 10) (ret := (some .int)) (by decide) rfl ?_
  intro pp_ ee_ ss_ mm_ args below meth cc_ s₁ B hml hv
  obtain ⟨rfl, hsz, hP, hE, hD0⟩ := hv
  have hx := B.exec
  have hb := B.bytes
  have hr := B.returns
  have hts := atoms_spec (ws := wsX8_countBoth) B.pre
  have hown : ss_.vm.findClass RX8 = some mm_.cls := findClass_of_methodNamed B.named
  have hlocks := B.notSynchronized
  have hK := hE.1
  have hiX4 : ∀ w ∈ wsX40, w ∈ wsX8_countBoth := by decide +kernel
  have hiX8 : ∀ w ∈ wsX80, w ∈ wsX8_countBoth := by decide +kernel
  subst hsz
  have hD := hD0.self (sz := ss_.heap.size)
  generalize hAe : va_A [(x5, .inr (8, [.ref wm, .ref wt, .ref wv, .ref wk, .int 1, .ref we, .ref wf, .int 0, .ref p, .int g, .long 9007199254740991, .int 4095, .int 0, .int 0, .int 0, .int 0, .int 0])), (wm, .inr (2, [.ref na, .ref nb, .int 0, .int 0, .int 0])), (p, .inr (4, [.ref ps, .ref pc, .int 0, .int 0, .int 0, .int 0])), (wv, aJ cJ 16384 (fun _ => 0)), (wk, aI cI 4096 (fun _ => 0)), (wt, .inr (1, [.ref ta, .ref tb, .ref tc, .ref td, .int 0, .int 0, .int 0])), (td, aI cI 8192 (fun _ => 0)), (ta, aJ cJ 4096 (fun _ => 0)), (tb, aJ cJ 4096 (fun _ => 0)), (tc, aI cI 4096 (fun _ => 0))] ss_.heap.size = A at hD ⊢
  have hA : ∀ q : Nat, ss_.heap.size ≤ q → A q := fun q h => by rw [← hAe]; exact Or.inr h
  have hS : va_S A ss_.heap ss_.heap [] := va_S.rf
  have hP : va_P (dC, dI) vwCl [(x5, .inr (8, [.ref wm, .ref wt, .ref wv, .ref wk, .int 1, .ref we, .ref wf, .int 0, .ref p, .int g, .long 9007199254740991, .int 4095, .int 0, .int 0, .int 0, .int 0, .int 0])), (wm, .inr (2, [.ref na, .ref nb, .int 0, .int 0, .int 0])), (p, .inr (4, [.ref ps, .ref pc, .int 0, .int 0, .int 0, .int 0])), (wv, aJ cJ 16384 (fun _ => 0)), (wk, aI cI 4096 (fun _ => 0)), (wt, .inr (1, [.ref ta, .ref tb, .ref tc, .ref td, .int 0, .int 0, .int 0])), (td, aI cI 8192 (fun _ => 0)), (ta, aJ cJ 4096 (fun _ => 0)), (tb, aJ cJ 4096 (fun _ => 0)), (tc, aI cI 4096 (fun _ => 0))] ss_.heap := hP
  have hl := lv_entry ([.ref x5, .int o, .int 4095, .int 4095]) (n := 10) (Nat.le_of_ble_eq_true rfl)
  rw [lg_entry_eq]
  generalize (lg_sl ([.ref x5, .int o, .int 4095, .int 4095]) ++ List.replicate (10 - (lg_sl ([.ref x5, .int o, .int 4095, .int 4095])).length) Slot.unset).toArray = ls at hl ⊢
  have hl : lv_has ls 10 [(0, .ref x5), (1, .int o), (2, .int 4095), (3, .int 4095)] := hl
  refine lv_iload_n hx hb dX8_countBoth_0 rfl (lv_at hl 2 rfl) ?_
  refine lv_iload_n hx hb dX8_countBoth_1 rfl (lv_at hl 3 rfl) ?_
  refine lv_ior hx hb dX8_countBoth_2 ?_
  refine zi (y := 4095) (by decide) ?_
  refine lv_aload_n hx hb dX8_countBoth_3 rfl (lv_at hl 0 rfl) ?_
  refine va_get (D := (dC, dI)) (ci := 8) (v := .int 0) (C := RX8) (T := TX8) (N := 17) hx hb hts hiX8 hown hK hP 0 rfl rfl 12 (by decide) (hts (.fieldLink RX8 56 "WatchedPrograms$Watch" "secretCells" "I") (by decide +kernel)) (fun _ h9 => h9) rfl dX8_countBoth_4 ?_
  refine lv_iand hx hb dX8_countBoth_7 ?_
  refine zi (y := 0) (by decide) ?_
  refine lv_istore (lv' := [(4, .int 0), (0, .ref x5), (1, .int o), (2, .int 4095), (3, .int 4095)]) hx hb dX8_countBoth_8 hl (by decide) rfl (fun ls hl => ?_)
  refine lv_iload hx hb dX8_countBoth_10 (lv_at hl 0 rfl) ?_
  refine lv_aload_n hx hb dX8_countBoth_12 rfl (lv_at hl 1 rfl) ?_
  refine va_get (D := (dC, dI)) (ci := 8) (v := .ref p) (C := RX8) (T := TX8) (N := 17) hx hb hts hiX8 hown hK hP 0 rfl rfl 8 (by decide) (hts (.fieldLink RX8 46 "WatchedPrograms$Watch" "program" "LWatchedPrograms$Program;") (by decide +kernel)) (fun _ h9 => h9) rfl dX8_countBoth_13 ?_
  refine va_get (D := (dC, dI)) (ci := 4) (v := .int 0) (C := RX4) (T := TX4) (N := 6) hx hb hts hiX4 hown hK hP 2 rfl rfl 5 (by decide) (hts (.fieldLink RX8 69 "WatchedPrograms$Program" "used" "I") (by decide +kernel)) (fun _ h9 => h9) rfl dX8_countBoth_16 ?_
  refine lv_iand hx hb dX8_countBoth_19 ?_
  refine zi (y := 0) (by decide) ?_
  refine lv_istore (lv' := [(5, .int 0), (4, .int 0), (0, .ref x5), (1, .int o), (2, .int 4095), (3, .int 4095)]) hx hb dX8_countBoth_20 hl (by decide) rfl (fun ls hl => ?_)
  refine lv_iload hx hb dX8_countBoth_22 (lv_at hl 0 rfl) ?_
  refine vp_callSi (va_Run.run (va_runSN (As := [.int 0]) (rest := []) ⟨hx, hb, hml, hown, hts⟩ (c_nOf0 l dC dI cI cJ cS   ) ⟨va_cnB 1 hts gX8_countBoth_X9_numbersOf_n72 rfl rfl rfl hE.2.2.2.2.2.2.2.2.2.2.1 (hts (.initialized RX9) (by decide +kernel)) (by decide +kernel) ⟨Nat.le_of_ble_eq_true rfl, Nat.le_of_ble_eq_true rfl⟩, (hts (.static yX9_numbersOf) (by decide +kernel)), trivial⟩ (preR (hP.sub (ws' := []) [] rfl) hE) rfl rfl hl.1 rfl (lv_room (Nat.le_of_ble_eq_true rfl)) dX8_countBoth_24 ⟨by decide +kernel, by decide +kernel⟩)) (fun r_1 hr_2 => ?_)
  obtain rfl := hr_2
  refine lv_istore (lv' := [(6, .int 1), (5, .int 0), (4, .int 0), (0, .ref x5), (1, .int o), (2, .int 4095), (3, .int 4095)]) hx hb dX8_countBoth_27 hl (by decide) rfl (fun ls hl => ?_)
  refine lv_iconst (v := 0) hx hb dX8_countBoth_29 (by decide) ?_
  refine lv_istore (lv' := [(7, .int 0), (6, .int 1), (5, .int 0), (4, .int 0), (0, .ref x5), (1, .int o), (2, .int 4095), (3, .int 4095)]) hx hb dX8_countBoth_30 hl (by decide) rfl (fun ls hl => ?_)
  refine lv_iconst (v := 0) hx hb dX8_countBoth_32 (by decide) ?_
  refine lv_istore (lv' := [(8, .int 0), (7, .int 0), (6, .int 1), (5, .int 0), (4, .int 0), (0, .ref x5), (1, .int o), (2, .int 4095), (3, .int 4095)]) hx hb dX8_countBoth_33 hl (by decide) rfl (fun ls hl => ?_)
  refine lv_iconst (v := 0) hx hb dX8_countBoth_35 (by decide) ?_
  refine lv_istore (lv' := [(9, .int 0), (8, .int 0), (7, .int 0), (6, .int 1), (5, .int 0), (4, .int 0), (0, .ref x5), (1, .int o), (2, .int 4095), (3, .int 4095)]) hx hb dX8_countBoth_36 hl (by decide) rfl (fun ls hl => ?_)
  refine lv_iload hx hb dX8_countBoth_38 (lv_at hl 0 rfl) ?_
  refine lv_iload hx hb dX8_countBoth_40 (lv_at hl 3 rfl) ?_
  refine lv_icmp_ge (tgt := 75) hx hb dX8_countBoth_42 (by decide) (fun c_3 => absurd c_3 (by decide)) (fun _ => ?_)
  refine lv_iload hx hb dX8_countBoth_45 (lv_at hl 1 rfl) ?_
  refine lv_aload_n hx hb dX8_countBoth_47 rfl (lv_at hl 6 rfl) ?_
  refine lv_iload_n hx hb dX8_countBoth_48 rfl (lv_at hl 7 rfl) ?_
  refine lv_iload hx hb dX8_countBoth_49 (lv_at hl 2 rfl) ?_
  refine lv_ior hx hb dX8_countBoth_51 ?_
  refine zi (y := o) Int32.or_zero ?_
  refine lv_iload_n hx hb dX8_countBoth_52 rfl (lv_at hl 8 rfl) ?_
  refine lv_iload_n hx hb dX8_countBoth_53 rfl (lv_at hl 9 rfl) ?_
  have hFc := va_free (wc := [(x5, .inr (8, [.ref wm, .ref wt, .ref wv, .ref wk, .int 1, .ref we, .ref wf, .int 0, .ref p, .int g, .long 9007199254740991, .int 4095, .int 0, .int 0, .int 0, .int 0, .int 0])), (wm, .inr (2, [.ref na, .ref nb, .int 0, .int 0, .int 0])), (p, .inr (4, [.ref ps, .ref pc, .int 0, .int 0, .int 0, .int 0])), (wv, aJ cJ 16384 (fun _ => 0)), (wk, aI cI 4096 (fun _ => 0)), (wt, .inr (1, [.ref ta, .ref tb, .ref tc, .ref td, .int 0, .int 0, .int 0])), (td, aI cI 8192 (fun _ => 0)), (ta, aJ cJ 4096 (fun _ => 0)), (tb, aJ cJ 4096 (fun _ => 0)), (tc, aI cI 4096 (fun _ => 0))]) hD hS hA [0, 1, 2, 3, 4, 5, 6, 7, 8, 9] rfl
  refine zCi (wr := []) hP hD hS hFc [0, 1, 2, 3, 4, 5, 6, 7, 8, 9] [] rfl rfl (by decide) (by decide) (va_runV (As := [.int o, .int 4095, .int 4095]) (rest := [.int 0]) ⟨hx, hb, hml, hown, hts⟩ (c_countUnshown0 l dC dI cI cJ cS ss_.heap.size x5 o wm wt wv wk we wf p g na nb ps pc ta tb tc td ) (cwV 3 hts gX8_countBoth_X8_countUnshown rfl rfl rfl (by decide +kernel) ⟨Nat.le_of_ble_eq_true rfl, Nat.le_of_ble_eq_true rfl⟩) (preEV (hP.sub (ws' := [(x5, .inr (8, [.ref wm, .ref wt, .ref wv, .ref wk, .int 1, .ref we, .ref wf, .int 0, .ref p, .int g, .long 9007199254740991, .int 4095, .int 0, .int 0, .int 0, .int 0, .int 0])), (wm, .inr (2, [.ref na, .ref nb, .int 0, .int 0, .int 0])), (p, .inr (4, [.ref ps, .ref pc, .int 0, .int 0, .int 0, .int 0])), (wv, aJ cJ 16384 (fun _ => 0)), (wk, aI cI 4096 (fun _ => 0)), (wt, .inr (1, [.ref ta, .ref tb, .ref tc, .ref td, .int 0, .int 0, .int 0])), (td, aI cI 8192 (fun _ => 0)), (ta, aJ cJ 4096 (fun _ => 0)), (tb, aJ cJ 4096 (fun _ => 0)), (tc, aI cI 4096 (fun _ => 0))]) [0, 1, 2, 3, 4, 5, 6, 7, 8, 9] rfl) hE (hD.sub (ws' := [(x5, .inr (8, [.ref wm, .ref wt, .ref wv, .ref wk, .int 1, .ref we, .ref wf, .int 0, .ref p, .int g, .long 9007199254740991, .int 4095, .int 0, .int 0, .int 0, .int 0, .int 0])), (wm, .inr (2, [.ref na, .ref nb, .int 0, .int 0, .int 0])), (p, .inr (4, [.ref ps, .ref pc, .int 0, .int 0, .int 0, .int 0])), (wv, aJ cJ 16384 (fun _ => 0)), (wk, aI cI 4096 (fun _ => 0)), (wt, .inr (1, [.ref ta, .ref tb, .ref tc, .ref td, .int 0, .int 0, .int 0])), (td, aI cI 8192 (fun _ => 0)), (ta, aJ cJ 4096 (fun _ => 0)), (tb, aJ cJ 4096 (fun _ => 0)), (tc, aI cI 4096 (fun _ => 0))]) [0, 1, 2, 3, 4, 5, 6, 7, 8, 9] (by decide) rfl) 0 (ci := 8) rfl rfl) rfl rfl hl.1 rfl (lv_room (Nat.le_of_ble_eq_true rfl)) dX8_countBoth_54 ⟨by decide +kernel, by decide +kernel⟩) (fun r_4 u_6 H locs hr_5 hP hD hS => ?_)
  try dsimp only at hr_5
  have hP : va_P (dC, dI) vwCl [(x5, .inr (8, [.ref wm, .ref wt, .ref wv, .ref wk, .int 1, .ref we, .ref wf, .int 0, .ref p, .int g, .long 9007199254740991, .int 4095, .int 0, .int 0, .int 0, .int 0, .int 0])), (wv, aJ cJ 16384 (vp_updL (vp_updL (vp_updL (vp_updL (fun _ => 0) 0 1) 4096 1) 8192 1) 12288 1)), (wk, aI cI 4096 (upd (fun _ => 0) 0 1)), (wm, .inr (2, [.ref na, .ref nb, .int 0, .int 0, .int 0])), (p, .inr (4, [.ref ps, .ref pc, .int 0, .int 0, .int 0, .int 0])), (td, aI cI 8192 (upd (upd (upd (fun _ => 0) 0 0) 1 0) 1 1)), (ta, aJ cJ 4096 (vp_updL (fun _ => 0) 0 1)), (tb, aJ cJ 4096 (vp_updL (fun _ => 0) 0 1)), (wt, .inr (1, [.ref ta, .ref tb, .ref tc, .ref td, .int 1, .int 1, .int 1])), (tc, aI cI 4096 (upd (upd (fun _ => 0) 0 0) 0 1))] H := hP
  have hD : va_D A [(x5, .inr (8, [.ref wm, .ref wt, .ref wv, .ref wk, .int 1, .ref we, .ref wf, .int 0, .ref p, .int g, .long 9007199254740991, .int 4095, .int 0, .int 0, .int 0, .int 0, .int 0])), (wv, aJ cJ 16384 (vp_updL (vp_updL (vp_updL (vp_updL (fun _ => 0) 0 1) 4096 1) 8192 1) 12288 1)), (wk, aI cI 4096 (upd (fun _ => 0) 0 1)), (wm, .inr (2, [.ref na, .ref nb, .int 0, .int 0, .int 0])), (p, .inr (4, [.ref ps, .ref pc, .int 0, .int 0, .int 0, .int 0])), (td, aI cI 8192 (upd (upd (upd (fun _ => 0) 0 0) 1 0) 1 1)), (ta, aJ cJ 4096 (vp_updL (fun _ => 0) 0 1)), (tb, aJ cJ 4096 (vp_updL (fun _ => 0) 0 1)), (wt, .inr (1, [.ref ta, .ref tb, .ref tc, .ref td, .int 1, .int 1, .int 1])), (tc, aI cI 4096 (upd (upd (fun _ => 0) 0 0) 0 1))] := hD
  obtain rfl := hr_5
  refine lv_iadd hx hb dX8_countBoth_57 ?_
  refine zi (y := 1) (by decide) ?_
  refine lv_istore (lv' := [(8, .int 1), (9, .int 0), (7, .int 0), (6, .int 1), (5, .int 0), (4, .int 0), (0, .ref x5), (1, .int o), (2, .int 4095), (3, .int 4095)]) hx hb dX8_countBoth_58 hl (by decide) rfl (fun ls hl => ?_)
  refine lv_iload hx hb dX8_countBoth_60 (lv_at hl 2 rfl) ?_
  refine lv_iload hx hb dX8_countBoth_62 (lv_at hl 4 rfl) ?_
  refine vp_callSi (va_Run.run (va_runSN (As := [.int 0, .int 0]) (rest := []) ⟨hx, hb, hml, hown, hts⟩ (c_following0 l dC dI cI cJ cS   ) ⟨va_cnB 2 hts gX8_countBoth_X9_following_n88 rfl rfl rfl hE.2.2.2.2.2.2.2.2.2.2.2.2.1 (hts (.initialized RX9) (by decide +kernel)) (by decide +kernel) ⟨Nat.le_of_ble_eq_true rfl, Nat.le_of_ble_eq_true rfl⟩, (hts (.static yX9_following) (by decide +kernel)), trivial⟩ (preR (hP.sub (ws' := []) [] rfl) hE) rfl rfl hl.1 rfl (lv_room (Nat.le_of_ble_eq_true rfl)) dX8_countBoth_64 ⟨by decide +kernel, by decide +kernel⟩)) (fun r_7 hr_8 => ?_)
  obtain rfl := hr_8
  refine lv_istore (lv' := [(7, .int 0), (8, .int 1), (9, .int 0), (6, .int 1), (5, .int 0), (4, .int 0), (0, .ref x5), (1, .int o), (2, .int 4095), (3, .int 4095)]) hx hb dX8_countBoth_67 hl (by decide) rfl (fun ls hl => ?_)
  refine lv_iinc (v := 1) (lv' := [(9, .int 1), (7, .int 0), (8, .int 1), (6, .int 1), (5, .int 0), (4, .int 0), (0, .ref x5), (1, .int o), (2, .int 4095), (3, .int 4095)]) hx hb dX8_countBoth_69 hl (k := 2) rfl (by decide) (by decide) rfl (fun ls hl => ?_)
  refine lv_goto (tgt := 38) hx hb dX8_countBoth_72 (by decide) ?_
  refine lv_iload hx hb dX8_countBoth_38 (lv_at hl 0 rfl) ?_
  refine lv_iload hx hb dX8_countBoth_40 (lv_at hl 3 rfl) ?_
  refine lv_icmp_ge (tgt := 75) hx hb dX8_countBoth_42 (by decide) (fun _ => ?_) (fun c_9 => absurd (by decide) c_9)
  refine lv_iload hx hb dX8_countBoth_75 (lv_at hl 2 rfl) ?_
  refine lv_iload hx hb dX8_countBoth_77 (lv_at hl 5 rfl) ?_
  refine lv_aload_n hx hb dX8_countBoth_79 rfl (lv_at hl 6 rfl) ?_
  refine va_get (D := (dC, dI)) (ci := 8) (v := .ref p) (C := RX8) (T := TX8) (N := 17) hx hb hts hiX8 hown hK hP 0 rfl rfl 8 (by decide) (hts (.fieldLink RX8 46 "WatchedPrograms$Watch" "program" "LWatchedPrograms$Program;") (by decide +kernel)) (fun _ h9 => h9) rfl dX8_countBoth_80 ?_
  refine va_get (D := (dC, dI)) (ci := 4) (v := .int 0) (C := RX4) (T := TX4) (N := 6) hx hb hts hiX4 hown hK hP 4 rfl rfl 5 (by decide) (hts (.fieldLink RX8 69 "WatchedPrograms$Program" "used" "I") (by decide +kernel)) (fun _ h9 => h9) rfl dX8_countBoth_83 ?_
  refine lv_iconst (v := (-1)) hx hb dX8_countBoth_86 (by decide) ?_
  refine lv_ixor hx hb dX8_countBoth_87 ?_
  refine zi (y := (-1)) (by decide) ?_
  refine lv_iand hx hb dX8_countBoth_88 ?_
  refine zi (y := 0) (by decide) ?_
  refine vp_callSi (va_Run.run (va_runSN (As := [.int 0]) (rest := [.int 1]) ⟨hx, hb, hml, hown, hts⟩ (c_nOf0 l dC dI cI cJ cS   ) ⟨va_cnB 1 hts gX8_countBoth_X9_numbersOf_n72 rfl rfl rfl hE.2.2.2.2.2.2.2.2.2.2.1 (hts (.initialized RX9) (by decide +kernel)) (by decide +kernel) ⟨Nat.le_of_ble_eq_true rfl, Nat.le_of_ble_eq_true rfl⟩, (hts (.static yX9_numbersOf) (by decide +kernel)), trivial⟩ (preR (hP.sub (ws' := []) [] rfl) hE) rfl rfl hl.1 rfl (lv_room (Nat.le_of_ble_eq_true rfl)) dX8_countBoth_89 ⟨by decide +kernel, by decide +kernel⟩)) (fun r_10 hr_11 => ?_)
  obtain rfl := hr_11
  refine lv_imul hx hb dX8_countBoth_92 ?_
  refine zi (y := 1) (by decide) ?_
  have hP9 := hP.sub (ws' := [(x5, .inr (8, [.ref wm, .ref wt, .ref wv, .ref wk, .int 1, .ref we, .ref wf, .int 0, .ref p, .int g, .long 9007199254740991, .int 4095, .int 0, .int 0, .int 0, .int 0, .int 0])), (wv, aJ cJ 16384 (vp_updL (vp_updL (vp_updL (vp_updL (fun _ => 0) 0 1) 4096 1) 8192 1) 12288 1)), (wk, aI cI 4096 (upd (fun _ => 0) 0 1)), (wm, .inr (2, [.ref na, .ref nb, .int 0, .int 0, .int 0])), (p, .inr (4, [.ref ps, .ref pc, .int 0, .int 0, .int 0, .int 0])), (td, aI cI 8192 (upd (upd (upd (fun _ => 0) 0 0) 1 0) 1 1)), (ta, aJ cJ 4096 (vp_updL (fun _ => 0) 0 1)), (tb, aJ cJ 4096 (vp_updL (fun _ => 0) 0 1)), (wt, .inr (1, [.ref ta, .ref tb, .ref tc, .ref td, .int 1, .int 1, .int 1])), (tc, aI cI 4096 (upd (upd (fun _ => 0) 0 0) 0 1))]) [0, 1, 2, 3, 4, 5, 6, 7, 8, 9] rfl
  have hD9 := hD.sub (ws' := [(x5, .inr (8, [.ref wm, .ref wt, .ref wv, .ref wk, .int 1, .ref we, .ref wf, .int 0, .ref p, .int g, .long 9007199254740991, .int 4095, .int 0, .int 0, .int 0, .int 0, .int 0])), (wv, aJ cJ 16384 (vp_updL (vp_updL (vp_updL (vp_updL (fun _ => 0) 0 1) 4096 1) 8192 1) 12288 1)), (wk, aI cI 4096 (upd (fun _ => 0) 0 1)), (wm, .inr (2, [.ref na, .ref nb, .int 0, .int 0, .int 0])), (p, .inr (4, [.ref ps, .ref pc, .int 0, .int 0, .int 0, .int 0])), (td, aI cI 8192 (upd (upd (upd (fun _ => 0) 0 0) 1 0) 1 1)), (ta, aJ cJ 4096 (vp_updL (fun _ => 0) 0 1)), (tb, aJ cJ 4096 (vp_updL (fun _ => 0) 0 1)), (wt, .inr (1, [.ref ta, .ref tb, .ref tc, .ref td, .int 1, .int 1, .int 1])), (tc, aI cI 4096 (upd (upd (fun _ => 0) 0 0) 0 1))]) [0, 1, 2, 3, 4, 5, 6, 7, 8, 9] (by decide) rfl
  exact W.iret (v := 1) hx hb hr (fun tt_ ht hW => ⟨⟨_, (), rfl, rfl, by rw [ht]; exact hP9, hD9⟩, hS.F ht⟩) hS.2.2 dX8_countBoth_93
set_option maxHeartbeats 1000000 in
set_option maxRecDepth 100000 in
theorem c_safeWithout0 (l : Launch) (dC : Nat → ClassId) (dI : Nat → Nat → Nat) (cI cJ cS : ClassId) (x5 : Nat) (wm : Nat) (wt : Nat) (wv : Nat) (wk : Nat) (we : Nat) (wf : Nat) (p : Nat) (g : Int32) (ps : Nat) (pc : Nat)  : Met l yX8_isSafeWithout wsX8_isSafeWithout ({ frames := 3, cells := 0, slots := 0, locals := 69 }) (va_Pc [.ref x5, .int 0] (PR dC dI cI cJ cS [(x5, .inr (8, [.ref wm, .ref wt, .ref wv, .ref wk, .int 1, .ref we, .ref wf, .int 0, .ref p, .int g, .long 9007199254740991, .int 4095, .int 0, .int 0, .int 0, .int 0, .int 0])), (p, .inr (4, [.ref ps, .ref pc, .int 0, .int 0, .int 0, .int 0]))])) (vp_Si (fun r : Int32 => r = 1)) 0 0 (fun _ => False) := by
  refine Met.ofW (cc := cX8_isSafeWithout) (maxL := 6) (ret := (some .boolean)) (by decide) rfl ?_
  intro pp_ ee_ ss_ mm_ args below meth cc_ s₁ B hml hv
  obtain ⟨rfl, hP, hE⟩ := hv
  have hx := B.exec
  have hb := B.bytes
  have hr := B.returns
  have hts := atoms_spec (ws := wsX8_isSafeWithout) B.pre
  have hown : ss_.vm.findClass RX8 = some mm_.cls := findClass_of_methodNamed B.named
  have hlocks := B.notSynchronized
  have hK := hE.1
  have hiX8 : ∀ w ∈ wsX80, w ∈ wsX8_isSafeWithout := by decide +kernel
  have hP : va_P (dC, dI) vwCl [(x5, .inr (8, [.ref wm, .ref wt, .ref wv, .ref wk, .int 1, .ref we, .ref wf, .int 0, .ref p, .int g, .long 9007199254740991, .int 4095, .int 0, .int 0, .int 0, .int 0, .int 0])), (p, .inr (4, [.ref ps, .ref pc, .int 0, .int 0, .int 0, .int 0]))] ss_.heap := hP
  have hl := lv_entry ([.ref x5, .int 0]) (n := 6) (Nat.le_of_ble_eq_true rfl)
  rw [lg_entry_eq]
  generalize (lg_sl ([.ref x5, .int 0]) ++ List.replicate (6 - (lg_sl ([.ref x5, .int 0])).length) Slot.unset).toArray = ls at hl ⊢
  have hl : lv_has ls 6 [(0, .ref x5), (1, .int 0)] := hl
  refine lv_iconst (v := 0) hx hb dX8_isSafeWithout_0 (by decide) ?_
  refine lv_istore_n (lv' := [(2, .int 0), (0, .ref x5), (1, .int 0)]) hx hb dX8_isSafeWithout_1 rfl hl (by decide) rfl (fun ls hl => ?_)
  refine lv_iload_n hx hb dX8_isSafeWithout_2 rfl (lv_at hl 0 rfl) ?_
  refine lv_aload_n hx hb dX8_isSafeWithout_3 rfl (lv_at hl 1 rfl) ?_
  refine va_get (D := (dC, dI)) (ci := 8) (v := .int 0) (C := RX8) (T := TX8) (N := 17) hx hb hts hiX8 hown hK hP 0 rfl rfl 7 (by decide) (hts (.fieldLink RX8 129 "WatchedPrograms$Watch" "telltales" "I") (by decide +kernel)) (fun _ h9 => h9) rfl dX8_isSafeWithout_4 ?_
  refine lv_icmp_ge (tgt := 77) hx hb dX8_isSafeWithout_7 (by decide) (fun _ => ?_) (fun c_1 => absurd (by decide) c_1)
  refine lv_aload_n hx hb dX8_isSafeWithout_77 rfl (lv_at hl 1 rfl) ?_
  refine lv_iload_n hx hb dX8_isSafeWithout_78 rfl (lv_at hl 2 rfl) ?_
  refine vp_callSi (va_Run.run (va_runV (As := [.int 0]) (rest := []) ⟨hx, hb, hml, hown, hts⟩ (c_findPair0 l dC dI cI cJ cS  x5 wm wt wv wk we wf p g ps pc ) (cwV 1 hts gX8_isSafeWithout_X8_findPair rfl rfl rfl (by decide +kernel) ⟨Nat.le_of_ble_eq_true rfl, Nat.le_of_ble_eq_true rfl⟩) (preRV (hP.sub (ws' := [(x5, .inr (8, [.ref wm, .ref wt, .ref wv, .ref wk, .int 1, .ref we, .ref wf, .int 0, .ref p, .int g, .long 9007199254740991, .int 4095, .int 0, .int 0, .int 0, .int 0, .int 0])), (p, .inr (4, [.ref ps, .ref pc, .int 0, .int 0, .int 0, .int 0]))]) [0, 1] rfl) hE 0 (ci := 8) rfl rfl) rfl rfl hl.1 rfl (lv_room (Nat.le_of_ble_eq_true rfl)) dX8_isSafeWithout_79 ⟨by decide +kernel, by decide +kernel⟩)) (fun r_2 hr_3 => ?_)
  obtain rfl := hr_3
  refine lv_if_ne (tgt := 87) hx hb dX8_isSafeWithout_82 (by decide) (fun c_4 => absurd (by decide) c_4) (fun _ => ?_)
  refine lv_iconst (v := 1) hx hb dX8_isSafeWithout_85 (by decide) ?_
  exact W.zret (v := 1) hx hb hr (by decide) (fun tt_ ht hW => ⟨_, rfl, rfl, ht⟩) (fun _ h => by cases h) dX8_isSafeWithout_86
set_option maxHeartbeats 1000000 in
set_option maxRecDepth 100000 in
theorem c_fewest0 (l : Launch) (dC : Nat → ClassId) (dI : Nat → Nat → Nat) (cI cJ cS : ClassId) (sz : Nat) (x5 : Nat) (wm : Nat) (wt : Nat) (wv : Nat) (wk : Nat) (we : Nat) (wf : Nat) (p : Nat) (g : Int32) (ps : Nat) (pc : Nat)  : Met l yX8_fewestStopped wsX8_fewestStopped ({ frames := 4, cells := 0, slots := 0, locals := 94 }) (va_Pc [.ref x5] (PE dC dI cI cJ cS [(x5, .inr (8, [.ref wm, .ref wt, .ref wv, .ref wk, .int 1, .ref we, .ref wf, .int 0, .ref p, .int g, .long 9007199254740991, .int 4095, .int 0, .int 0, .int 0, .int 0, .int 0])), (p, .inr (4, [.ref ps, .ref pc, .int 0, .int 0, .int 0, .int 0]))] sz)) (va_Qi (fun (r : Int32) (_ : Unit) => r = 0) (BE dC dI (va_A [(x5, .inr (8, [.ref wm, .ref wt, .ref wv, .ref wk, .int 1, .ref we, .ref wf, .int 0, .ref p, .int g, .long 9007199254740991, .int 4095, .int 0, .int 0, .int 0, .int 0, .int 0])), (p, .inr (4, [.ref ps, .ref pc, .int 0, .int 0, .int 0, .int 0]))] sz) (fun (_ : Unit) => [(x5, .inr (8, [.ref wm, .ref wt, .ref wv, .ref wk, .int 1, .ref we, .ref wf, .int 0, .ref p, .int g, .long 9007199254740991, .int 4095, .int 0, .int 0, .int 0, .int 0, .int 0])), (p, .inr (4, [.ref ps, .ref pc, .int 0, .int 0, .int 0, .int 0]))])) (va_A [(x5, .inr (8, [.ref wm, .ref wt, .ref wv, .ref wk, .int 1, .ref we, .ref wf, .int 0, .ref p, .int g, .long 9007199254740991, .int 4095, .int 0, .int 0, .int 0, .int 0, .int 0])), (p, .inr (4, [.ref ps, .ref pc, .int 0, .int 0, .int 0, .int 0]))] sz)) 0 0 (va_A [(x5, .inr (8, [.ref wm, .ref wt, .ref wv, .ref wk, .int 1, .ref we, .ref wf, .int 0, .ref p, .int g, .long 9007199254740991, .int 4095, .int 0, .int 0, .int 0, .int 0, .int 0])), (p, .inr (4, [.ref ps, .ref pc, .int 0, .int 0, .int 0, .int 0]))] sz) := by
  refine Met.ofW (cc := cX8_fewestStopped) (maxL := 4) (ret := (some .int)) (by decide) rfl ?_
  intro pp_ ee_ ss_ mm_ args below meth cc_ s₁ B hml hv
  obtain ⟨rfl, hsz, hP, hE, hD0⟩ := hv
  have hx := B.exec
  have hb := B.bytes
  have hr := B.returns
  have hts := atoms_spec (ws := wsX8_fewestStopped) B.pre
  have hown : ss_.vm.findClass RX8 = some mm_.cls := findClass_of_methodNamed B.named
  have hlocks := B.notSynchronized
  have hK := hE.1
  have hiX4 : ∀ w ∈ wsX40, w ∈ wsX8_fewestStopped := by decide +kernel
  have hiX8 : ∀ w ∈ wsX80, w ∈ wsX8_fewestStopped := by decide +kernel
  subst hsz
  have hD := hD0.self (sz := ss_.heap.size)
  generalize hAe : va_A [(x5, .inr (8, [.ref wm, .ref wt, .ref wv, .ref wk, .int 1, .ref we, .ref wf, .int 0, .ref p, .int g, .long 9007199254740991, .int 4095, .int 0, .int 0, .int 0, .int 0, .int 0])), (p, .inr (4, [.ref ps, .ref pc, .int 0, .int 0, .int 0, .int 0]))] ss_.heap.size = A at hD ⊢
  have hA : ∀ q : Nat, ss_.heap.size ≤ q → A q := fun q h => by rw [← hAe]; exact Or.inr h
  have hS : va_S A ss_.heap ss_.heap [] := va_S.rf
  have hP : va_P (dC, dI) vwCl [(x5, .inr (8, [.ref wm, .ref wt, .ref wv, .ref wk, .int 1, .ref we, .ref wf, .int 0, .ref p, .int g, .long 9007199254740991, .int 4095, .int 0, .int 0, .int 0, .int 0, .int 0])), (p, .inr (4, [.ref ps, .ref pc, .int 0, .int 0, .int 0, .int 0]))] ss_.heap := hP
  have hl := lv_entry ([.ref x5]) (n := 4) (Nat.le_of_ble_eq_true rfl)
  rw [lg_entry_eq]
  generalize (lg_sl ([.ref x5]) ++ List.replicate (4 - (lg_sl ([.ref x5])).length) Slot.unset).toArray = ls at hl ⊢
  have hl : lv_has ls 4 [(0, .ref x5)] := hl
  refine lv_aload_n hx hb dX8_fewestStopped_0 rfl (lv_at hl 0 rfl) ?_
  refine va_get (D := (dC, dI)) (ci := 8) (v := .ref p) (C := RX8) (T := TX8) (N := 17) hx hb hts hiX8 hown hK hP 0 rfl rfl 8 (by decide) (hts (.fieldLink RX8 46 "WatchedPrograms$Watch" "program" "LWatchedPrograms$Program;") (by decide +kernel)) (fun _ h9 => h9) rfl dX8_fewestStopped_1 ?_
  refine va_get (D := (dC, dI)) (ci := 4) (v := .int 0) (C := RX4) (T := TX4) (N := 6) hx hb hts hiX4 hown hK hP 1 rfl rfl 4 (by decide) (hts (.fieldLink RX8 121 "WatchedPrograms$Program" "outs" "I") (by decide +kernel)) (fun _ h9 => h9) rfl dX8_fewestStopped_4 ?_
  refine lv_bipush (v := 8) hx hb dX8_fewestStopped_7 (by decide) ?_
  refine va_mmin hx hb (hml.trans hl.1.symm) hown (hts (.methodLink RX8 124 Lib.Math.min.name) (by decide +kernel)) (hts (.static Lib.Math.min.name) (by decide +kernel)) (hts (.initialized "java/lang/Math") (by decide +kernel)) (hts (.code Lib.Math.min.name Lib.Math.min.code 2 (some .int)) (by decide +kernel)) (Nat.le_of_ble_eq_true rfl) (Nat.le_of_ble_eq_true rfl) (Nat.le_of_ble_eq_true rfl) (Nat.le_of_ble_eq_true rfl) dX8_fewestStopped_9 ?_
  refine zi (y := 0) (by decide) ?_
  refine lv_istore_n (lv' := [(1, .int 0), (0, .ref x5)]) hx hb dX8_fewestStopped_12 rfl hl (by decide) rfl (fun ls hl => ?_)
  refine lv_aload_n hx hb dX8_fewestStopped_13 rfl (lv_at hl 1 rfl) ?_
  refine lv_iconst (v := 0) hx hb dX8_fewestStopped_14 (by decide) ?_
  refine va_put (D := (dC, dI)) (ci := 8) (v := .int 0) (ty := .int) (C := RX8) (T := TX8) (N := 17) hx hb hts hiX8 tyX8 tyX8_ok nmX8 hown hK hP hD hS 0 rfl rfl 7 (by decide) (hts (.fieldLink RX8 129 "WatchedPrograms$Watch" "telltales" "I") (by decide +kernel)) (fun _ h9 => h9) rfl (by decide +kernel) rfl rfl (Nat.le_of_ble_eq_true rfl) dX8_fewestStopped_15 (fun H locs hP hD hS => ?_)
  have hP : va_P (dC, dI) vwCl [(x5, .inr (8, [.ref wm, .ref wt, .ref wv, .ref wk, .int 1, .ref we, .ref wf, .int 0, .ref p, .int g, .long 9007199254740991, .int 4095, .int 0, .int 0, .int 0, .int 0, .int 0])), (p, .inr (4, [.ref ps, .ref pc, .int 0, .int 0, .int 0, .int 0]))] H := hP
  have hD : va_D A [(x5, .inr (8, [.ref wm, .ref wt, .ref wv, .ref wk, .int 1, .ref we, .ref wf, .int 0, .ref p, .int g, .long 9007199254740991, .int 4095, .int 0, .int 0, .int 0, .int 0, .int 0])), (p, .inr (4, [.ref ps, .ref pc, .int 0, .int 0, .int 0, .int 0]))] := hD
  refine lv_iconst (v := 0) hx hb dX8_fewestStopped_18 (by decide) ?_
  refine lv_istore_n (lv' := [(2, .int 0), (1, .int 0), (0, .ref x5)]) hx hb dX8_fewestStopped_19 rfl hl (by decide) rfl (fun ls hl => ?_)
  refine lv_iload_n hx hb dX8_fewestStopped_20 rfl (lv_at hl 0 rfl) ?_
  refine lv_iload_n hx hb dX8_fewestStopped_21 rfl (lv_at hl 1 rfl) ?_
  refine lv_icmp_gt (tgt := 64) hx hb dX8_fewestStopped_22 (by decide) (fun c_1 => absurd c_1 (by decide)) (fun _ => ?_)
  refine lv_iconst (v := 0) hx hb dX8_fewestStopped_25 (by decide) ?_
  refine lv_istore_n (lv' := [(3, .int 0), (2, .int 0), (1, .int 0), (0, .ref x5)]) hx hb dX8_fewestStopped_26 rfl hl (by decide) rfl (fun ls hl => ?_)
  refine lv_iload_n hx hb dX8_fewestStopped_27 rfl (lv_at hl 0 rfl) ?_
  refine lv_iconst (v := 1) hx hb dX8_fewestStopped_28 (by decide) ?_
  refine lv_iload_n hx hb dX8_fewestStopped_29 rfl (lv_at hl 2 rfl) ?_
  refine lv_ishl hx hb dX8_fewestStopped_30 ?_
  refine zi (y := 1) (by decide) ?_
  refine lv_icmp_ge (tgt := 58) hx hb dX8_fewestStopped_31 (by decide) (fun c_2 => absurd c_2 (by decide)) (fun _ => ?_)
  refine lv_iload_n hx hb dX8_fewestStopped_34 rfl (lv_at hl 0 rfl) ?_
  refine vp_callSi (va_Run.run (va_runS (As := [.int 0]) (rest := []) ⟨hx, hb, hml, hown, hts⟩ (c_bc0 l dC dI cI cJ cS   ) (va_cwS 1 hts gX8_fewestStopped_J6_bitCount_0f7a4 rfl rfl rfl (by decide +kernel) ⟨Nat.le_of_ble_eq_true rfl, Nat.le_of_ble_eq_true rfl⟩) (preR (hP.sub (ws' := []) [] rfl) hE) rfl rfl hl.1 rfl (lv_room (Nat.le_of_ble_eq_true rfl)) dX8_fewestStopped_35 ⟨by decide +kernel, by decide +kernel⟩)) (fun r_3 hr_4 => ?_)
  obtain rfl := hr_4
  refine lv_iload_n hx hb dX8_fewestStopped_38 rfl (lv_at hl 1 rfl) ?_
  refine lv_icmp_ne (tgt := 52) hx hb dX8_fewestStopped_39 (by decide) (fun c_5 => absurd (by decide) c_5) (fun _ => ?_)
  refine lv_aload_n hx hb dX8_fewestStopped_42 rfl (lv_at hl 3 rfl) ?_
  refine lv_iload_n hx hb dX8_fewestStopped_43 rfl (lv_at hl 0 rfl) ?_
  refine vp_callSi (va_Run.run (va_runV (As := [.int 0]) (rest := []) ⟨hx, hb, hml, hown, hts⟩ (c_safeWithout0 l dC dI cI cJ cS  x5 wm wt wv wk we wf p g ps pc ) (cwV 1 hts gX8_fewestStopped_X8_isSafeWithout rfl rfl rfl (by decide +kernel) ⟨Nat.le_of_ble_eq_true rfl, Nat.le_of_ble_eq_true rfl⟩) (preRV (hP.sub (ws' := [(x5, .inr (8, [.ref wm, .ref wt, .ref wv, .ref wk, .int 1, .ref we, .ref wf, .int 0, .ref p, .int g, .long 9007199254740991, .int 4095, .int 0, .int 0, .int 0, .int 0, .int 0])), (p, .inr (4, [.ref ps, .ref pc, .int 0, .int 0, .int 0, .int 0]))]) [0, 1] rfl) hE 0 (ci := 8) rfl rfl) rfl rfl hl.1 rfl (lv_room (Nat.le_of_ble_eq_true rfl)) dX8_fewestStopped_44 ⟨by decide +kernel, by decide +kernel⟩)) (fun r_6 hr_7 => ?_)
  obtain rfl := hr_7
  refine lv_if_eq (tgt := 52) hx hb dX8_fewestStopped_47 (by decide) (fun c_8 => absurd c_8 (by decide)) (fun _ => ?_)
  refine lv_iload_n hx hb dX8_fewestStopped_50 rfl (lv_at hl 0 rfl) ?_
  have hP9 := hP.sub (ws' := [(x5, .inr (8, [.ref wm, .ref wt, .ref wv, .ref wk, .int 1, .ref we, .ref wf, .int 0, .ref p, .int g, .long 9007199254740991, .int 4095, .int 0, .int 0, .int 0, .int 0, .int 0])), (p, .inr (4, [.ref ps, .ref pc, .int 0, .int 0, .int 0, .int 0]))]) [0, 1] rfl
  have hD9 := hD.sub (ws' := [(x5, .inr (8, [.ref wm, .ref wt, .ref wv, .ref wk, .int 1, .ref we, .ref wf, .int 0, .ref p, .int g, .long 9007199254740991, .int 4095, .int 0, .int 0, .int 0, .int 0, .int 0])), (p, .inr (4, [.ref ps, .ref pc, .int 0, .int 0, .int 0, .int 0]))]) [0, 1] (by decide) rfl
  exact W.iret (v := 0) hx hb hr (fun tt_ ht hW => ⟨⟨_, (), rfl, rfl, by rw [ht]; exact hP9, hD9⟩, hS.F ht⟩) hS.2.2 dX8_fewestStopped_51
set_option maxHeartbeats 1000000 in
set_option maxRecDepth 100000 in
theorem c_countHeaps1 (l : Launch) (dC : Nat → ClassId) (dI : Nat → Nat → Nat) (cI cJ cS : ClassId) (sz : Nat) (x5 : Nat) (o : Int32) (wm : Nat) (wt : Nat) (wv : Nat) (wk : Nat) (we : Nat) (wf : Nat) (p : Nat) (g : Int32) (na : Nat) (nb : Nat) (ps : Nat) (pc : Nat) (ta : Nat) (tb : Nat) (tc : Nat) (td : Nat)  : Met l yX8_countHeaps wsX8_countHeaps ({ frames := 4, cells := 0, slots := 0, locals := 83 }) (va_Pc [.ref x5, .int o] (PE dC dI cI cJ cS [(x5, .inr (8, [.ref wm, .ref wt, .ref wv, .ref wk, .int 1, .ref we, .ref wf, .int 0, .ref p, .int g, .long 4611686018427387903, .int 4095, .int 0, .int 0, .int 0, .int 0, .int 0])), (wm, .inr (2, [.ref na, .ref nb, .int 0, .int 0, .int 0])), (p, .inr (4, [.ref ps, .ref pc, .int 0, .int 0, .int 0, .int 0])), (wv, aJ cJ 16384 (fun _ => 0)), (wk, aI cI 4096 (fun _ => 0)), (wt, .inr (1, [.ref ta, .ref tb, .ref tc, .ref td, .int 0, .int 0, .int 0])), (td, aI cI 8192 (fun _ => 0)), (ta, aJ cJ 4096 (fun _ => 0)), (tb, aJ cJ 4096 (fun _ => 0)), (tc, aI cI 4096 (fun _ => 0))] sz)) (va_Qi (fun (r : Int32) (_ : Unit) => r = 1) (BE dC dI (va_A [(x5, .inr (8, [.ref wm, .ref wt, .ref wv, .ref wk, .int 1, .ref we, .ref wf, .int 0, .ref p, .int g, .long 4611686018427387903, .int 4095, .int 0, .int 0, .int 0, .int 0, .int 0])), (wm, .inr (2, [.ref na, .ref nb, .int 0, .int 0, .int 0])), (p, .inr (4, [.ref ps, .ref pc, .int 0, .int 0, .int 0, .int 0])), (wv, aJ cJ 16384 (fun _ => 0)), (wk, aI cI 4096 (fun _ => 0)), (wt, .inr (1, [.ref ta, .ref tb, .ref tc, .ref td, .int 0, .int 0, .int 0])), (td, aI cI 8192 (fun _ => 0)), (ta, aJ cJ 4096 (fun _ => 0)), (tb, aJ cJ 4096 (fun _ => 0)), (tc, aI cI 4096 (fun _ => 0))] sz) (fun (_ : Unit) => [(x5, .inr (8, [.ref wm, .ref wt, .ref wv, .ref wk, .int 1, .ref we, .ref wf, .int 0, .ref p, .int g, .long 4611686018427387903, .int 4095, .int 0, .int 0, .int 0, .int 0, .int 0])), (wv, aJ cJ 16384 (vp_updL (vp_updL (vp_updL (vp_updL (fun _ => 0) 0 1) 4096 1) 8192 1) 12288 1)), (wk, aI cI 4096 (upd (fun _ => 0) 0 1)), (wm, .inr (2, [.ref na, .ref nb, .int 0, .int 0, .int 0])), (p, .inr (4, [.ref ps, .ref pc, .int 0, .int 0, .int 0, .int 0])), (td, aI cI 8192 (upd (upd (upd (fun _ => 0) 0 0) 1 0) 1 1)), (ta, aJ cJ 4096 (vp_updL (fun _ => 0) 0 1)), (tb, aJ cJ 4096 (vp_updL (fun _ => 0) 0 0)), (wt, .inr (1, [.ref ta, .ref tb, .ref tc, .ref td, .int 1, .int 1, .int 1])), (tc, aI cI 4096 (upd (upd (fun _ => 0) 0 0) 0 1))])) (va_A [(x5, .inr (8, [.ref wm, .ref wt, .ref wv, .ref wk, .int 1, .ref we, .ref wf, .int 0, .ref p, .int g, .long 4611686018427387903, .int 4095, .int 0, .int 0, .int 0, .int 0, .int 0])), (wm, .inr (2, [.ref na, .ref nb, .int 0, .int 0, .int 0])), (p, .inr (4, [.ref ps, .ref pc, .int 0, .int 0, .int 0, .int 0])), (wv, aJ cJ 16384 (fun _ => 0)), (wk, aI cI 4096 (fun _ => 0)), (wt, .inr (1, [.ref ta, .ref tb, .ref tc, .ref td, .int 0, .int 0, .int 0])), (td, aI cI 8192 (fun _ => 0)), (ta, aJ cJ 4096 (fun _ => 0)), (tb, aJ cJ 4096 (fun _ => 0)), (tc, aI cI 4096 (fun _ => 0))] sz)) 0 0 (va_A [(x5, .inr (8, [.ref wm, .ref wt, .ref wv, .ref wk, .int 1, .ref we, .ref wf, .int 0, .ref p, .int g, .long 4611686018427387903, .int 4095, .int 0, .int 0, .int 0, .int 0, .int 0])), (wm, .inr (2, [.ref na, .ref nb, .int 0, .int 0, .int 0])), (p, .inr (4, [.ref ps, .ref pc, .int 0, .int 0, .int 0, .int 0])), (wv, aJ cJ 16384 (fun _ => 0)), (wk, aI cI 4096 (fun _ => 0)), (wt, .inr (1, [.ref ta, .ref tb, .ref tc, .ref td, .int 0, .int 0, .int 0])), (td, aI cI 8192 (fun _ => 0)), (ta, aJ cJ 4096 (fun _ => 0)), (tb, aJ cJ 4096 (fun _ => 0)), (tc, aI cI 4096 (fun _ => 0))] sz) := by
  refine Met.ofW (cc := cX8_countHeaps) (maxL := 6) (ret := (some .int)) (by decide) rfl ?_
  intro pp_ ee_ ss_ mm_ args below meth cc_ s₁ B hml hv
  obtain ⟨rfl, hsz, hP, hE, hD0⟩ := hv
  have hx := B.exec
  have hb := B.bytes
  have hr := B.returns
  have hts := atoms_spec (ws := wsX8_countHeaps) B.pre
  have hown : ss_.vm.findClass RX8 = some mm_.cls := findClass_of_methodNamed B.named
  have hlocks := B.notSynchronized
  have hK := hE.1
  have hiX1 : ∀ w ∈ wsX10, w ∈ wsX8_countHeaps := by decide +kernel
  have hiX4 : ∀ w ∈ wsX40, w ∈ wsX8_countHeaps := by decide +kernel
  have hiX8 : ∀ w ∈ wsX80, w ∈ wsX8_countHeaps := by decide +kernel
  subst hsz
  have hD := hD0.self (sz := ss_.heap.size)
  generalize hAe : va_A [(x5, .inr (8, [.ref wm, .ref wt, .ref wv, .ref wk, .int 1, .ref we, .ref wf, .int 0, .ref p, .int g, .long 4611686018427387903, .int 4095, .int 0, .int 0, .int 0, .int 0, .int 0])), (wm, .inr (2, [.ref na, .ref nb, .int 0, .int 0, .int 0])), (p, .inr (4, [.ref ps, .ref pc, .int 0, .int 0, .int 0, .int 0])), (wv, aJ cJ 16384 (fun _ => 0)), (wk, aI cI 4096 (fun _ => 0)), (wt, .inr (1, [.ref ta, .ref tb, .ref tc, .ref td, .int 0, .int 0, .int 0])), (td, aI cI 8192 (fun _ => 0)), (ta, aJ cJ 4096 (fun _ => 0)), (tb, aJ cJ 4096 (fun _ => 0)), (tc, aI cI 4096 (fun _ => 0))] ss_.heap.size = A at hD ⊢
  have hA : ∀ q : Nat, ss_.heap.size ≤ q → A q := fun q h => by rw [← hAe]; exact Or.inr h
  have hS : va_S A ss_.heap ss_.heap [] := va_S.rf
  have hP : va_P (dC, dI) vwCl [(x5, .inr (8, [.ref wm, .ref wt, .ref wv, .ref wk, .int 1, .ref we, .ref wf, .int 0, .ref p, .int g, .long 4611686018427387903, .int 4095, .int 0, .int 0, .int 0, .int 0, .int 0])), (wm, .inr (2, [.ref na, .ref nb, .int 0, .int 0, .int 0])), (p, .inr (4, [.ref ps, .ref pc, .int 0, .int 0, .int 0, .int 0])), (wv, aJ cJ 16384 (fun _ => 0)), (wk, aI cI 4096 (fun _ => 0)), (wt, .inr (1, [.ref ta, .ref tb, .ref tc, .ref td, .int 0, .int 0, .int 0])), (td, aI cI 8192 (fun _ => 0)), (ta, aJ cJ 4096 (fun _ => 0)), (tb, aJ cJ 4096 (fun _ => 0)), (tc, aI cI 4096 (fun _ => 0))] ss_.heap := hP
  have hl := lv_entry ([.ref x5, .int o]) (n := 6) (Nat.le_of_ble_eq_true rfl)
  rw [lg_entry_eq]
  generalize (lg_sl ([.ref x5, .int o]) ++ List.replicate (6 - (lg_sl ([.ref x5, .int o])).length) Slot.unset).toArray = ls at hl ⊢
  have hl : lv_has ls 6 [(0, .ref x5), (1, .int o)] := hl
  refine lv_aload_n hx hb dX8_countHeaps_0 rfl (lv_at hl 0 rfl) ?_
  refine va_get (D := (dC, dI)) (ci := 8) (v := .int 0) (C := RX8) (T := TX8) (N := 17) hx hb hts hiX8 hown hK hP 0 rfl rfl 12 (by decide) (hts (.fieldLink RX8 56 "WatchedPrograms$Watch" "secretCells" "I") (by decide +kernel)) (fun _ h9 => h9) rfl dX8_countHeaps_1 ?_
  refine lv_aload_n hx hb dX8_countHeaps_4 rfl (lv_at hl 0 rfl) ?_
  refine va_get (D := (dC, dI)) (ci := 8) (v := .ref p) (C := RX8) (T := TX8) (N := 17) hx hb hts hiX8 hown hK hP 0 rfl rfl 8 (by decide) (hts (.fieldLink RX8 46 "WatchedPrograms$Watch" "program" "LWatchedPrograms$Program;") (by decide +kernel)) (fun _ h9 => h9) rfl dX8_countHeaps_5 ?_
  refine va_get (D := (dC, dI)) (ci := 4) (v := .int 0) (C := RX4) (T := TX4) (N := 6) hx hb hts hiX4 hown hK hP 2 rfl rfl 5 (by decide) (hts (.fieldLink RX8 69 "WatchedPrograms$Program" "used" "I") (by decide +kernel)) (fun _ h9 => h9) rfl dX8_countHeaps_8 ?_
  refine lv_iand hx hb dX8_countHeaps_11 ?_
  refine zi (y := 0) (by decide) ?_
  refine lv_istore_n (lv' := [(2, .int 0), (0, .ref x5), (1, .int o)]) hx hb dX8_countHeaps_12 rfl hl (by decide) rfl (fun ls hl => ?_)
  refine lv_iload_n hx hb dX8_countHeaps_13 rfl (lv_at hl 0 rfl) ?_
  refine vp_callSi (va_Run.run (va_runSN (As := [.int 0]) (rest := []) ⟨hx, hb, hml, hown, hts⟩ (c_nOf0 l dC dI cI cJ cS   ) ⟨va_cnB 1 hts gX8_countHeaps_X9_numbersOf_n72 rfl rfl rfl hE.2.2.2.2.2.2.2.2.2.2.1 (hts (.initialized RX9) (by decide +kernel)) (by decide +kernel) ⟨Nat.le_of_ble_eq_true rfl, Nat.le_of_ble_eq_true rfl⟩, (hts (.static yX9_numbersOf) (by decide +kernel)), trivial⟩ (preR (hP.sub (ws' := []) [] rfl) hE) rfl rfl hl.1 rfl (lv_room (Nat.le_of_ble_eq_true rfl)) dX8_countHeaps_14 ⟨by decide +kernel, by decide +kernel⟩)) (fun r_1 hr_2 => ?_)
  obtain rfl := hr_2
  refine lv_istore_n (lv' := [(3, .int 1), (2, .int 0), (0, .ref x5), (1, .int o)]) hx hb dX8_countHeaps_17 rfl hl (by decide) rfl (fun ls hl => ?_)
  refine lv_aload_n hx hb dX8_countHeaps_18 rfl (lv_at hl 2 rfl) ?_
  refine va_get (D := (dC, dI)) (ci := 8) (v := .ref wt) (C := RX8) (T := TX8) (N := 17) hx hb hts hiX8 hown hK hP 0 rfl rfl 1 (by decide) (hts (.fieldLink RX8 21 "WatchedPrograms$Watch" "table" "LWatchedPrograms$HeapTable;") (by decide +kernel)) (fun _ h9 => h9) rfl dX8_countHeaps_19 ?_
  refine lv_iload_n hx hb dX8_countHeaps_22 rfl (lv_at hl 0 rfl) ?_
  have hFc := va_free (wc := [(wt, .inr (1, [.ref ta, .ref tb, .ref tc, .ref td, .int 0, .int 0, .int 0])), (td, aI cI 8192 (fun _ => 0))]) hD hS hA [5, 6] rfl
  refine zCv (wr := [(x5, .inr (8, [.ref wm, .ref wt, .ref wv, .ref wk, .int 1, .ref we, .ref wf, .int 0, .ref p, .int g, .long 4611686018427387903, .int 4095, .int 0, .int 0, .int 0, .int 0, .int 0])), (wm, .inr (2, [.ref na, .ref nb, .int 0, .int 0, .int 0])), (p, .inr (4, [.ref ps, .ref pc, .int 0, .int 0, .int 0, .int 0])), (wv, aJ cJ 16384 (fun _ => 0)), (wk, aI cI 4096 (fun _ => 0)), (ta, aJ cJ 4096 (fun _ => 0)), (tb, aJ cJ 4096 (fun _ => 0)), (tc, aI cI 4096 (fun _ => 0))]) hP hD hS hFc [5, 6] [0, 1, 2, 3, 4, 7, 8, 9] rfl rfl (by decide) (by decide) (va_runV (As := [.int 1]) (rest := []) ⟨hx, hb, hml, hown, hts⟩ (c_tbegin l dC dI cI cJ cS ss_.heap.size wt ta tb tc td ) (cwV 1 hts gX8_countHeaps_X1_begin rfl rfl rfl (by decide +kernel) ⟨Nat.le_of_ble_eq_true rfl, Nat.le_of_ble_eq_true rfl⟩) (preEV (hP.sub (ws' := [(wt, .inr (1, [.ref ta, .ref tb, .ref tc, .ref td, .int 0, .int 0, .int 0])), (td, aI cI 8192 (fun _ => 0))]) [5, 6] rfl) hE (hD.sub (ws' := [(wt, .inr (1, [.ref ta, .ref tb, .ref tc, .ref td, .int 0, .int 0, .int 0])), (td, aI cI 8192 (fun _ => 0))]) [5, 6] (by decide) rfl) 0 (ci := 1) rfl rfl) rfl rfl hl.1 rfl (lv_room (Nat.le_of_ble_eq_true rfl)) dX8_countHeaps_23 ⟨by decide +kernel, by decide +kernel⟩) (fun u_5 H locs hr_4 hP hD hS => ?_)
  try dsimp only at hr_4
  have hP : va_P (dC, dI) vwCl [(x5, .inr (8, [.ref wm, .ref wt, .ref wv, .ref wk, .int 1, .ref we, .ref wf, .int 0, .ref p, .int g, .long 4611686018427387903, .int 4095, .int 0, .int 0, .int 0, .int 0, .int 0])), (wm, .inr (2, [.ref na, .ref nb, .int 0, .int 0, .int 0])), (p, .inr (4, [.ref ps, .ref pc, .int 0, .int 0, .int 0, .int 0])), (wv, aJ cJ 16384 (fun _ => 0)), (wk, aI cI 4096 (fun _ => 0)), (ta, aJ cJ 4096 (fun _ => 0)), (tb, aJ cJ 4096 (fun _ => 0)), (tc, aI cI 4096 (fun _ => 0)), (wt, .inr (1, [.ref ta, .ref tb, .ref tc, .ref td, .int 1, .int 0, .int 0])), (td, aI cI 8192 (upd (upd (fun _ => 0) 0 0) 1 0))] H := hP
  have hD : va_D A [(x5, .inr (8, [.ref wm, .ref wt, .ref wv, .ref wk, .int 1, .ref we, .ref wf, .int 0, .ref p, .int g, .long 4611686018427387903, .int 4095, .int 0, .int 0, .int 0, .int 0, .int 0])), (wm, .inr (2, [.ref na, .ref nb, .int 0, .int 0, .int 0])), (p, .inr (4, [.ref ps, .ref pc, .int 0, .int 0, .int 0, .int 0])), (wv, aJ cJ 16384 (fun _ => 0)), (wk, aI cI 4096 (fun _ => 0)), (ta, aJ cJ 4096 (fun _ => 0)), (tb, aJ cJ 4096 (fun _ => 0)), (tc, aI cI 4096 (fun _ => 0)), (wt, .inr (1, [.ref ta, .ref tb, .ref tc, .ref td, .int 1, .int 0, .int 0])), (td, aI cI 8192 (upd (upd (fun _ => 0) 0 0) 1 0))] := hD
  refine lv_iconst (v := 0) hx hb dX8_countHeaps_26 (by decide) ?_
  refine lv_istore (lv' := [(4, .int 0), (3, .int 1), (2, .int 0), (0, .ref x5), (1, .int o)]) hx hb dX8_countHeaps_27 hl (by decide) rfl (fun ls hl => ?_)
  refine lv_iconst (v := 0) hx hb dX8_countHeaps_29 (by decide) ?_
  refine lv_istore (lv' := [(5, .int 0), (4, .int 0), (3, .int 1), (2, .int 0), (0, .ref x5), (1, .int o)]) hx hb dX8_countHeaps_30 hl (by decide) rfl (fun ls hl => ?_)
  refine lv_iload hx hb dX8_countHeaps_32 (lv_at hl 0 rfl) ?_
  refine lv_iload_n hx hb dX8_countHeaps_34 rfl (lv_at hl 2 rfl) ?_
  refine lv_icmp_ge (tgt := 78) hx hb dX8_countHeaps_35 (by decide) (fun c_6 => absurd c_6 (by decide)) (fun _ => ?_)
  refine lv_aload_n hx hb dX8_countHeaps_38 rfl (lv_at hl 4 rfl) ?_
  refine va_get (D := (dC, dI)) (ci := 8) (v := .ref wt) (C := RX8) (T := TX8) (N := 17) hx hb hts hiX8 hown hK hP 0 rfl rfl 1 (by decide) (hts (.fieldLink RX8 21 "WatchedPrograms$Watch" "table" "LWatchedPrograms$HeapTable;") (by decide +kernel)) (fun _ h9 => h9) rfl dX8_countHeaps_39 ?_
  refine lv_aload_n hx hb dX8_countHeaps_42 rfl (lv_at hl 4 rfl) ?_
  refine lv_iload_n hx hb dX8_countHeaps_43 rfl (lv_at hl 5 rfl) ?_
  refine lv_iload hx hb dX8_countHeaps_44 (lv_at hl 1 rfl) ?_
  refine lv_ior hx hb dX8_countHeaps_46 ?_
  refine zi (y := o) Int32.or_zero ?_
  refine lv_aload_n hx hb dX8_countHeaps_47 rfl (lv_at hl 4 rfl) ?_
  refine va_get (D := (dC, dI)) (ci := 8) (v := .int g) (C := RX8) (T := TX8) (N := 17) hx hb hts hiX8 hown hK hP 0 rfl rfl 9 (by decide) (hts (.fieldLink RX8 50 "WatchedPrograms$Watch" "watcher" "I") (by decide +kernel)) (fun _ h9 => h9) rfl dX8_countHeaps_48 ?_
  refine lv_iconst (v := 0) hx hb dX8_countHeaps_51 (by decide) ?_
  have hFc := va_free (wc := [(x5, .inr (8, [.ref wm, .ref wt, .ref wv, .ref wk, .int 1, .ref we, .ref wf, .int 0, .ref p, .int g, .long 4611686018427387903, .int 4095, .int 0, .int 0, .int 0, .int 0, .int 0])), (wm, .inr (2, [.ref na, .ref nb, .int 0, .int 0, .int 0])), (p, .inr (4, [.ref ps, .ref pc, .int 0, .int 0, .int 0, .int 0])), (wv, aJ cJ 16384 (fun _ => 0)), (wk, aI cI 4096 (fun _ => 0))]) hD hS hA [0, 1, 2, 3, 4] rfl
  refine zCl (wr := [(ta, aJ cJ 4096 (fun _ => 0)), (tb, aJ cJ 4096 (fun _ => 0)), (tc, aI cI 4096 (fun _ => 0)), (wt, .inr (1, [.ref ta, .ref tb, .ref tc, .ref td, .int 1, .int 0, .int 0])), (td, aI cI 8192 (upd (upd (fun _ => 0) 0 0) 1 0))]) hP hD hS hFc [0, 1, 2, 3, 4] [5, 6, 7, 8, 9] rfl rfl (by decide) (by decide) (va_runV (As := [.int o, .int g, .int 0]) (rest := [.ref wt]) ⟨hx, hb, hml, hown, hts⟩ (c_look1 l dC dI cI cJ cS H.size x5 o g wm wt wv wk we wf p g 4611686018427387903 0 0 na nb ps pc ) (cwV 3 hts gX8_countHeaps_X8_look rfl rfl rfl (by decide +kernel) ⟨Nat.le_of_ble_eq_true rfl, Nat.le_of_ble_eq_true rfl⟩) (preEV (hP.sub (ws' := [(x5, .inr (8, [.ref wm, .ref wt, .ref wv, .ref wk, .int 1, .ref we, .ref wf, .int 0, .ref p, .int g, .long 4611686018427387903, .int 4095, .int 0, .int 0, .int 0, .int 0, .int 0])), (wm, .inr (2, [.ref na, .ref nb, .int 0, .int 0, .int 0])), (p, .inr (4, [.ref ps, .ref pc, .int 0, .int 0, .int 0, .int 0])), (wv, aJ cJ 16384 (fun _ => 0)), (wk, aI cI 4096 (fun _ => 0))]) [0, 1, 2, 3, 4] rfl) hE (hD.sub (ws' := [(x5, .inr (8, [.ref wm, .ref wt, .ref wv, .ref wk, .int 1, .ref we, .ref wf, .int 0, .ref p, .int g, .long 4611686018427387903, .int 4095, .int 0, .int 0, .int 0, .int 0, .int 0])), (wm, .inr (2, [.ref na, .ref nb, .int 0, .int 0, .int 0])), (p, .inr (4, [.ref ps, .ref pc, .int 0, .int 0, .int 0, .int 0])), (wv, aJ cJ 16384 (fun _ => 0)), (wk, aI cI 4096 (fun _ => 0))]) [0, 1, 2, 3, 4] (by decide) rfl) 0 (ci := 8) rfl rfl) rfl rfl hl.1 rfl (lv_room (Nat.le_of_ble_eq_true rfl)) dX8_countHeaps_52 ⟨by decide +kernel, by decide +kernel⟩) (fun r_7 u_9 H locs hr_8 hP hD hS => ?_)
  try dsimp only at hr_8
  have hP : va_P (dC, dI) vwCl [(ta, aJ cJ 4096 (fun _ => 0)), (tb, aJ cJ 4096 (fun _ => 0)), (tc, aI cI 4096 (fun _ => 0)), (wt, .inr (1, [.ref ta, .ref tb, .ref tc, .ref td, .int 1, .int 0, .int 0])), (td, aI cI 8192 (upd (upd (fun _ => 0) 0 0) 1 0)), (x5, .inr (8, [.ref wm, .ref wt, .ref wv, .ref wk, .int 1, .ref we, .ref wf, .int 0, .ref p, .int g, .long 4611686018427387903, .int 4095, .int 0, .int 0, .int 0, .int 0, .int 0])), (wv, aJ cJ 16384 (vp_updL (vp_updL (vp_updL (vp_updL (fun _ => 0) 0 1) 4096 1) 8192 1) 12288 1)), (wk, aI cI 4096 (upd (fun _ => 0) 0 1)), (wm, .inr (2, [.ref na, .ref nb, .int 0, .int 0, .int 0])), (p, .inr (4, [.ref ps, .ref pc, .int 0, .int 0, .int 0, .int 0]))] H := hP
  have hD : va_D A [(ta, aJ cJ 4096 (fun _ => 0)), (tb, aJ cJ 4096 (fun _ => 0)), (tc, aI cI 4096 (fun _ => 0)), (wt, .inr (1, [.ref ta, .ref tb, .ref tc, .ref td, .int 1, .int 0, .int 0])), (td, aI cI 8192 (upd (upd (fun _ => 0) 0 0) 1 0)), (x5, .inr (8, [.ref wm, .ref wt, .ref wv, .ref wk, .int 1, .ref we, .ref wf, .int 0, .ref p, .int g, .long 4611686018427387903, .int 4095, .int 0, .int 0, .int 0, .int 0, .int 0])), (wv, aJ cJ 16384 (vp_updL (vp_updL (vp_updL (vp_updL (fun _ => 0) 0 1) 4096 1) 8192 1) 12288 1)), (wk, aI cI 4096 (upd (fun _ => 0) 0 1)), (wm, .inr (2, [.ref na, .ref nb, .int 0, .int 0, .int 0])), (p, .inr (4, [.ref ps, .ref pc, .int 0, .int 0, .int 0, .int 0]))] := hD
  obtain rfl := hr_8
  refine lv_aload_n hx hb dX8_countHeaps_55 rfl (lv_at hl 4 rfl) ?_
  refine va_get (D := (dC, dI)) (ci := 8) (v := .long 4611686018427387903) (C := RX8) (T := TX8) (N := 17) hx hb hts hiX8 hown hK hP 5 rfl rfl 10 (by decide) (hts (.fieldLink RX8 65 "WatchedPrograms$Watch" "lens" "J") (by decide +kernel)) (fun _ h9 => h9) rfl dX8_countHeaps_56 ?_
  refine lv_land hx hb dX8_countHeaps_59 ?_
  refine zl (y := 1) (by decide) ?_
  refine lv_lconst (v := 0) hx hb dX8_countHeaps_60 (by decide) ?_
  have hFc := va_free (wc := [(wt, .inr (1, [.ref ta, .ref tb, .ref tc, .ref td, .int 1, .int 0, .int 0])), (td, aI cI 8192 (upd (upd (fun _ => 0) 0 0) 1 0)), (ta, aJ cJ 4096 (fun _ => 0)), (tb, aJ cJ 4096 (fun _ => 0)), (tc, aI cI 4096 (fun _ => 0))]) hD hS hA [3, 4, 0, 1, 2] rfl
  refine zCv (wr := [(x5, .inr (8, [.ref wm, .ref wt, .ref wv, .ref wk, .int 1, .ref we, .ref wf, .int 0, .ref p, .int g, .long 4611686018427387903, .int 4095, .int 0, .int 0, .int 0, .int 0, .int 0])), (wv, aJ cJ 16384 (vp_updL (vp_updL (vp_updL (vp_updL (fun _ => 0) 0 1) 4096 1) 8192 1) 12288 1)), (wk, aI cI 4096 (upd (fun _ => 0) 0 1)), (wm, .inr (2, [.ref na, .ref nb, .int 0, .int 0, .int 0])), (p, .inr (4, [.ref ps, .ref pc, .int 0, .int 0, .int 0, .int 0]))]) hP hD hS hFc [3, 4, 0, 1, 2] [5, 6, 7, 8, 9] rfl rfl (by decide) (by decide) (va_runV (As := [.long 1, .long 0]) (rest := []) ⟨hx, hb, hml, hown, hts⟩ (c_tput0 l dC dI cI cJ cS H.size wt ta tb tc td ) (cwV 2 hts gX8_countHeaps_X1_put rfl rfl rfl (by decide +kernel) ⟨Nat.le_of_ble_eq_true rfl, Nat.le_of_ble_eq_true rfl⟩) (preEV (hP.sub (ws' := [(wt, .inr (1, [.ref ta, .ref tb, .ref tc, .ref td, .int 1, .int 0, .int 0])), (td, aI cI 8192 (upd (upd (fun _ => 0) 0 0) 1 0)), (ta, aJ cJ 4096 (fun _ => 0)), (tb, aJ cJ 4096 (fun _ => 0)), (tc, aI cI 4096 (fun _ => 0))]) [3, 4, 0, 1, 2] rfl) hE (hD.sub (ws' := [(wt, .inr (1, [.ref ta, .ref tb, .ref tc, .ref td, .int 1, .int 0, .int 0])), (td, aI cI 8192 (upd (upd (fun _ => 0) 0 0) 1 0)), (ta, aJ cJ 4096 (fun _ => 0)), (tb, aJ cJ 4096 (fun _ => 0)), (tc, aI cI 4096 (fun _ => 0))]) [3, 4, 0, 1, 2] (by decide) rfl) 0 (ci := 1) rfl rfl) rfl rfl hl.1 rfl (lv_room (Nat.le_of_ble_eq_true rfl)) dX8_countHeaps_61 ⟨by decide +kernel, by decide +kernel⟩) (fun u_12 H locs hr_11 hP hD hS => ?_)
  try dsimp only at hr_11
  have hP : va_P (dC, dI) vwCl [(x5, .inr (8, [.ref wm, .ref wt, .ref wv, .ref wk, .int 1, .ref we, .ref wf, .int 0, .ref p, .int g, .long 4611686018427387903, .int 4095, .int 0, .int 0, .int 0, .int 0, .int 0])), (wv, aJ cJ 16384 (vp_updL (vp_updL (vp_updL (vp_updL (fun _ => 0) 0 1) 4096 1) 8192 1) 12288 1)), (wk, aI cI 4096 (upd (fun _ => 0) 0 1)), (wm, .inr (2, [.ref na, .ref nb, .int 0, .int 0, .int 0])), (p, .inr (4, [.ref ps, .ref pc, .int 0, .int 0, .int 0, .int 0])), (td, aI cI 8192 (upd (upd (upd (fun _ => 0) 0 0) 1 0) 1 1)), (ta, aJ cJ 4096 (vp_updL (fun _ => 0) 0 1)), (tb, aJ cJ 4096 (vp_updL (fun _ => 0) 0 0)), (wt, .inr (1, [.ref ta, .ref tb, .ref tc, .ref td, .int 1, .int 1, .int 1])), (tc, aI cI 4096 (upd (upd (fun _ => 0) 0 0) 0 1))] H := hP
  have hD : va_D A [(x5, .inr (8, [.ref wm, .ref wt, .ref wv, .ref wk, .int 1, .ref we, .ref wf, .int 0, .ref p, .int g, .long 4611686018427387903, .int 4095, .int 0, .int 0, .int 0, .int 0, .int 0])), (wv, aJ cJ 16384 (vp_updL (vp_updL (vp_updL (vp_updL (fun _ => 0) 0 1) 4096 1) 8192 1) 12288 1)), (wk, aI cI 4096 (upd (fun _ => 0) 0 1)), (wm, .inr (2, [.ref na, .ref nb, .int 0, .int 0, .int 0])), (p, .inr (4, [.ref ps, .ref pc, .int 0, .int 0, .int 0, .int 0])), (td, aI cI 8192 (upd (upd (upd (fun _ => 0) 0 0) 1 0) 1 1)), (ta, aJ cJ 4096 (vp_updL (fun _ => 0) 0 1)), (tb, aJ cJ 4096 (vp_updL (fun _ => 0) 0 0)), (wt, .inr (1, [.ref ta, .ref tb, .ref tc, .ref td, .int 1, .int 1, .int 1])), (tc, aI cI 4096 (upd (upd (fun _ => 0) 0 0) 0 1))] := hD
  refine lv_iload hx hb dX8_countHeaps_64 (lv_at hl 1 rfl) ?_
  refine lv_iload_n hx hb dX8_countHeaps_66 rfl (lv_at hl 3 rfl) ?_
  refine vp_callSi (va_Run.run (va_runSN (As := [.int 0, .int 0]) (rest := []) ⟨hx, hb, hml, hown, hts⟩ (c_following0 l dC dI cI cJ cS   ) ⟨va_cnB 2 hts gX8_countHeaps_X9_following_n88 rfl rfl rfl hE.2.2.2.2.2.2.2.2.2.2.2.2.1 (hts (.initialized RX9) (by decide +kernel)) (by decide +kernel) ⟨Nat.le_of_ble_eq_true rfl, Nat.le_of_ble_eq_true rfl⟩, (hts (.static yX9_following) (by decide +kernel)), trivial⟩ (preR (hP.sub (ws' := []) [] rfl) hE) rfl rfl hl.1 rfl (lv_room (Nat.le_of_ble_eq_true rfl)) dX8_countHeaps_67 ⟨by decide +kernel, by decide +kernel⟩)) (fun r_13 hr_14 => ?_)
  obtain rfl := hr_14
  refine lv_istore (lv' := [(4, .int 0), (5, .int 0), (3, .int 1), (2, .int 0), (0, .ref x5), (1, .int o)]) hx hb dX8_countHeaps_70 hl (by decide) rfl (fun ls hl => ?_)
  refine lv_iinc (v := 1) (lv' := [(5, .int 1), (4, .int 0), (3, .int 1), (2, .int 0), (0, .ref x5), (1, .int o)]) hx hb dX8_countHeaps_72 hl (k := 1) rfl (by decide) (by decide) rfl (fun ls hl => ?_)
  refine lv_goto (tgt := 32) hx hb dX8_countHeaps_75 (by decide) ?_
  refine lv_iload hx hb dX8_countHeaps_32 (lv_at hl 0 rfl) ?_
  refine lv_iload_n hx hb dX8_countHeaps_34 rfl (lv_at hl 2 rfl) ?_
  refine lv_icmp_ge (tgt := 78) hx hb dX8_countHeaps_35 (by decide) (fun _ => ?_) (fun c_15 => absurd (by decide) c_15)
  refine lv_aload_n hx hb dX8_countHeaps_78 rfl (lv_at hl 4 rfl) ?_
  refine va_get (D := (dC, dI)) (ci := 8) (v := .ref wt) (C := RX8) (T := TX8) (N := 17) hx hb hts hiX8 hown hK hP 0 rfl rfl 1 (by decide) (hts (.fieldLink RX8 21 "WatchedPrograms$Watch" "table" "LWatchedPrograms$HeapTable;") (by decide +kernel)) (fun _ h9 => h9) rfl dX8_countHeaps_79 ?_
  refine va_get (D := (dC, dI)) (ci := 1) (v := .int 1) (C := RX1) (T := TX1) (N := 7) hx hb hts hiX1 hown hK hP 8 rfl rfl 5 (by decide) (hts (.fieldLink RX8 92 "WatchedPrograms$HeapTable" "many" "I") (by decide +kernel)) (fun _ h9 => h9) rfl dX8_countHeaps_82 ?_
  have hP9 := hP.sub (ws' := [(x5, .inr (8, [.ref wm, .ref wt, .ref wv, .ref wk, .int 1, .ref we, .ref wf, .int 0, .ref p, .int g, .long 4611686018427387903, .int 4095, .int 0, .int 0, .int 0, .int 0, .int 0])), (wv, aJ cJ 16384 (vp_updL (vp_updL (vp_updL (vp_updL (fun _ => 0) 0 1) 4096 1) 8192 1) 12288 1)), (wk, aI cI 4096 (upd (fun _ => 0) 0 1)), (wm, .inr (2, [.ref na, .ref nb, .int 0, .int 0, .int 0])), (p, .inr (4, [.ref ps, .ref pc, .int 0, .int 0, .int 0, .int 0])), (td, aI cI 8192 (upd (upd (upd (fun _ => 0) 0 0) 1 0) 1 1)), (ta, aJ cJ 4096 (vp_updL (fun _ => 0) 0 1)), (tb, aJ cJ 4096 (vp_updL (fun _ => 0) 0 0)), (wt, .inr (1, [.ref ta, .ref tb, .ref tc, .ref td, .int 1, .int 1, .int 1])), (tc, aI cI 4096 (upd (upd (fun _ => 0) 0 0) 0 1))]) [0, 1, 2, 3, 4, 5, 6, 7, 8, 9] rfl
  have hD9 := hD.sub (ws' := [(x5, .inr (8, [.ref wm, .ref wt, .ref wv, .ref wk, .int 1, .ref we, .ref wf, .int 0, .ref p, .int g, .long 4611686018427387903, .int 4095, .int 0, .int 0, .int 0, .int 0, .int 0])), (wv, aJ cJ 16384 (vp_updL (vp_updL (vp_updL (vp_updL (fun _ => 0) 0 1) 4096 1) 8192 1) 12288 1)), (wk, aI cI 4096 (upd (fun _ => 0) 0 1)), (wm, .inr (2, [.ref na, .ref nb, .int 0, .int 0, .int 0])), (p, .inr (4, [.ref ps, .ref pc, .int 0, .int 0, .int 0, .int 0])), (td, aI cI 8192 (upd (upd (upd (fun _ => 0) 0 0) 1 0) 1 1)), (ta, aJ cJ 4096 (vp_updL (fun _ => 0) 0 1)), (tb, aJ cJ 4096 (vp_updL (fun _ => 0) 0 0)), (wt, .inr (1, [.ref ta, .ref tb, .ref tc, .ref td, .int 1, .int 1, .int 1])), (tc, aI cI 4096 (upd (upd (fun _ => 0) 0 0) 0 1))]) [0, 1, 2, 3, 4, 5, 6, 7, 8, 9] (by decide) rfl
  exact W.iret (v := 1) hx hb hr (fun tt_ ht hW => ⟨⟨_, (), rfl, rfl, by rw [ht]; exact hP9, hD9⟩, hS.F ht⟩) hS.2.2 dX8_countHeaps_85
set_option maxHeartbeats 1000000 in
set_option maxRecDepth 100000 in
theorem c_untried1 (l : Launch) (dC : Nat → ClassId) (dI : Nat → Nat → Nat) (cI cJ cS : ClassId) (x5 : Nat) (wm : Nat) (wt : Nat) (wv : Nat) (wk : Nat) (we : Nat) (wf : Nat) (p : Nat) (g : Int32) (ps : Nat) (pc : Nat)  : Met l yX8_untriedSecrets wsX8_untriedSecrets ({ frames := 2, cells := 0, slots := 0, locals := 40 }) (va_Pc [.ref x5] (PR dC dI cI cJ cS [(x5, .inr (8, [.ref wm, .ref wt, .ref wv, .ref wk, .int 1, .ref we, .ref wf, .int 0, .ref p, .int g, .long 4611686018427387903, .int 4095, .int 0, .int 0, .int 0, .int 0, .int 0])), (p, .inr (4, [.ref ps, .ref pc, .int 0, .int 0, .int 0, .int 0]))])) (vp_Si (fun r : Int32 => r = 1)) 0 0 (fun _ => False) := by
  refine Met.ofW (cc := cX8_untriedSecrets) (maxL := 1) (ret := (some .int)) (by decide) rfl ?_
  intro pp_ ee_ ss_ mm_ args below meth cc_ s₁ B hml hv
  obtain ⟨rfl, hP, hE⟩ := hv
  have hx := B.exec
  have hb := B.bytes
  have hr := B.returns
  have hts := atoms_spec (ws := wsX8_untriedSecrets) B.pre
  have hown : ss_.vm.findClass RX8 = some mm_.cls := findClass_of_methodNamed B.named
  have hlocks := B.notSynchronized
  have hK := hE.1
  have hiX4 : ∀ w ∈ wsX40, w ∈ wsX8_untriedSecrets := by decide +kernel
  have hiX8 : ∀ w ∈ wsX80, w ∈ wsX8_untriedSecrets := by decide +kernel
  have hP : va_P (dC, dI) vwCl [(x5, .inr (8, [.ref wm, .ref wt, .ref wv, .ref wk, .int 1, .ref we, .ref wf, .int 0, .ref p, .int g, .long 4611686018427387903, .int 4095, .int 0, .int 0, .int 0, .int 0, .int 0])), (p, .inr (4, [.ref ps, .ref pc, .int 0, .int 0, .int 0, .int 0]))] ss_.heap := hP
  have hl := lv_entry ([.ref x5]) (n := 1) (Nat.le_of_ble_eq_true rfl)
  rw [lg_entry_eq]
  generalize (lg_sl ([.ref x5]) ++ List.replicate (1 - (lg_sl ([.ref x5])).length) Slot.unset).toArray = ls at hl ⊢
  have hl : lv_has ls 1 [(0, .ref x5)] := hl
  refine lv_aload_n hx hb dX8_untriedSecrets_0 rfl (lv_at hl 0 rfl) ?_
  refine va_get (D := (dC, dI)) (ci := 8) (v := .int 0) (C := RX8) (T := TX8) (N := 17) hx hb hts hiX8 hown hK hP 0 rfl rfl 12 (by decide) (hts (.fieldLink RX8 56 "WatchedPrograms$Watch" "secretCells" "I") (by decide +kernel)) (fun _ h9 => h9) rfl dX8_untriedSecrets_1 ?_
  refine lv_aload_n hx hb dX8_untriedSecrets_4 rfl (lv_at hl 0 rfl) ?_
  refine va_get (D := (dC, dI)) (ci := 8) (v := .ref p) (C := RX8) (T := TX8) (N := 17) hx hb hts hiX8 hown hK hP 0 rfl rfl 8 (by decide) (hts (.fieldLink RX8 46 "WatchedPrograms$Watch" "program" "LWatchedPrograms$Program;") (by decide +kernel)) (fun _ h9 => h9) rfl dX8_untriedSecrets_5 ?_
  refine va_get (D := (dC, dI)) (ci := 4) (v := .int 0) (C := RX4) (T := TX4) (N := 6) hx hb hts hiX4 hown hK hP 1 rfl rfl 5 (by decide) (hts (.fieldLink RX8 69 "WatchedPrograms$Program" "used" "I") (by decide +kernel)) (fun _ h9 => h9) rfl dX8_untriedSecrets_8 ?_
  refine lv_iconst (v := (-1)) hx hb dX8_untriedSecrets_11 (by decide) ?_
  refine lv_ixor hx hb dX8_untriedSecrets_12 ?_
  refine zi (y := (-1)) (by decide) ?_
  refine lv_iand hx hb dX8_untriedSecrets_13 ?_
  refine zi (y := 0) (by decide) ?_
  refine vp_callSi (va_Run.run (va_runSN (As := [.int 0]) (rest := []) ⟨hx, hb, hml, hown, hts⟩ (c_nOf0 l dC dI cI cJ cS   ) ⟨va_cnB 1 hts gX8_untriedSecrets_X9_numbersOf_n72 rfl rfl rfl hE.2.2.2.2.2.2.2.2.2.2.1 (hts (.initialized RX9) (by decide +kernel)) (by decide +kernel) ⟨Nat.le_of_ble_eq_true rfl, Nat.le_of_ble_eq_true rfl⟩, (hts (.static yX9_numbersOf) (by decide +kernel)), trivial⟩ (preR (hP.sub (ws' := []) [] rfl) hE) rfl rfl hl.1 rfl (lv_room (Nat.le_of_ble_eq_true rfl)) dX8_untriedSecrets_14 ⟨by decide +kernel, by decide +kernel⟩)) (fun r_1 hr_2 => ?_)
  obtain rfl := hr_2
  exact W.iret (v := 1) hx hb hr (fun tt_ ht hW => ⟨_, rfl, rfl, ht⟩) (fun _ h => by cases h) dX8_untriedSecrets_17
set_option maxHeartbeats 1000000 in
set_option maxRecDepth 100000 in
theorem c_greatest1 (l : Launch) (dC : Nat → ClassId) (dI : Nat → Nat → Nat) (cI cJ cS : ClassId) (x5 : Nat) (wm : Nat) (wt : Nat) (wv : Nat) (wk : Nat) (we : Nat) (wf : Nat) (p : Nat) (g : Int32) (ps : Nat) (pc : Nat) (ta : Nat) (tb : Nat) (tc : Nat) (td : Nat)  : Met l yX8_greatestHeap wsX8_greatestHeap ({ frames := 3, cells := 0, slots := 0, locals := 60 }) (va_Pc [.ref x5] (PR dC dI cI cJ cS [(x5, .inr (8, [.ref wm, .ref wt, .ref wv, .ref wk, .int 1, .ref we, .ref wf, .int 0, .ref p, .int g, .long 4611686018427387903, .int 4095, .int 0, .int 0, .int 0, .int 0, .int 0])), (p, .inr (4, [.ref ps, .ref pc, .int 0, .int 0, .int 0, .int 0])), (wt, .inr (1, [.ref ta, .ref tb, .ref tc, .ref td, .int 1, .int 1, .int 1]))])) (vp_Si (fun r : Int32 => r = 1)) 0 0 (fun _ => False) := by
  refine Met.ofW (cc := cX8_greatestHeap) (maxL := 1) (ret := (some .int)) (by decide) rfl ?_
  intro pp_ ee_ ss_ mm_ args below meth cc_ s₁ B hml hv
  obtain ⟨rfl, hP, hE⟩ := hv
  have hx := B.exec
  have hb := B.bytes
  have hr := B.returns
  have hts := atoms_spec (ws := wsX8_greatestHeap) B.pre
  have hown : ss_.vm.findClass RX8 = some mm_.cls := findClass_of_methodNamed B.named
  have hlocks := B.notSynchronized
  have hK := hE.1
  have hiX1 : ∀ w ∈ wsX10, w ∈ wsX8_greatestHeap := by decide +kernel
  have hiX8 : ∀ w ∈ wsX80, w ∈ wsX8_greatestHeap := by decide +kernel
  have hP : va_P (dC, dI) vwCl [(x5, .inr (8, [.ref wm, .ref wt, .ref wv, .ref wk, .int 1, .ref we, .ref wf, .int 0, .ref p, .int g, .long 4611686018427387903, .int 4095, .int 0, .int 0, .int 0, .int 0, .int 0])), (p, .inr (4, [.ref ps, .ref pc, .int 0, .int 0, .int 0, .int 0])), (wt, .inr (1, [.ref ta, .ref tb, .ref tc, .ref td, .int 1, .int 1, .int 1]))] ss_.heap := hP
  have hl := lv_entry ([.ref x5]) (n := 1) (Nat.le_of_ble_eq_true rfl)
  rw [lg_entry_eq]
  generalize (lg_sl ([.ref x5]) ++ List.replicate (1 - (lg_sl ([.ref x5])).length) Slot.unset).toArray = ls at hl ⊢
  have hl : lv_has ls 1 [(0, .ref x5)] := hl
  refine lv_aload_n hx hb dX8_greatestHeap_0 rfl (lv_at hl 0 rfl) ?_
  refine va_get (D := (dC, dI)) (ci := 8) (v := .ref wt) (C := RX8) (T := TX8) (N := 17) hx hb hts hiX8 hown hK hP 0 rfl rfl 1 (by decide) (hts (.fieldLink RX8 21 "WatchedPrograms$Watch" "table" "LWatchedPrograms$HeapTable;") (by decide +kernel)) (fun _ h9 => h9) rfl dX8_greatestHeap_1 ?_
  refine va_get (D := (dC, dI)) (ci := 1) (v := .int 1) (C := RX1) (T := TX1) (N := 7) hx hb hts hiX1 hown hK hP 2 rfl rfl 6 (by decide) (hts (.fieldLink RX8 95 "WatchedPrograms$HeapTable" "greatest" "I") (by decide +kernel)) (fun _ h9 => h9) rfl dX8_greatestHeap_4 ?_
  refine lv_aload_n hx hb dX8_greatestHeap_7 rfl (lv_at hl 0 rfl) ?_
  refine vp_callSi (va_Run.run (va_runV (As := []) (rest := [.int 1]) ⟨hx, hb, hml, hown, hts⟩ (c_untried1 l dC dI cI cJ cS  x5 wm wt wv wk we wf p g ps pc ) (cwV 0 hts gX8_greatestHeap_X8_untriedSecrets rfl rfl rfl (by decide +kernel) ⟨Nat.le_of_ble_eq_true rfl, Nat.le_of_ble_eq_true rfl⟩) (preRV (hP.sub (ws' := [(x5, .inr (8, [.ref wm, .ref wt, .ref wv, .ref wk, .int 1, .ref we, .ref wf, .int 0, .ref p, .int g, .long 4611686018427387903, .int 4095, .int 0, .int 0, .int 0, .int 0, .int 0])), (p, .inr (4, [.ref ps, .ref pc, .int 0, .int 0, .int 0, .int 0]))]) [0, 1] rfl) hE 0 (ci := 8) rfl rfl) rfl rfl hl.1 rfl (lv_room (Nat.le_of_ble_eq_true rfl)) dX8_greatestHeap_8 ⟨by decide +kernel, by decide +kernel⟩)) (fun r_1 hr_2 => ?_)
  obtain rfl := hr_2
  refine lv_imul hx hb dX8_greatestHeap_11 ?_
  refine zi (y := 1) (by decide) ?_
  exact W.iret (v := 1) hx hb hr (fun tt_ ht hW => ⟨_, rfl, rfl, ht⟩) (fun _ h => by cases h) dX8_greatestHeap_12
set_option maxHeartbeats 1000000 in
set_option maxRecDepth 100000 in
theorem c_findHeap1 (l : Launch) (dC : Nat → ClassId) (dI : Nat → Nat → Nat) (cI cJ cS : ClassId) (sz : Nat) (x5 : Nat) (o : Int32) (wm : Nat) (wt : Nat) (wv : Nat) (wk : Nat) (we : Nat) (wf : Nat) (p : Nat) (g : Int32) (na : Nat) (nb : Nat) (ps : Nat) (pc : Nat)  : Met l yX8_findHeap wsX8_findHeap ({ frames := 4, cells := 0, slots := 0, locals := 83 }) (va_Pc [.ref x5, .int o, .int 0] (PE dC dI cI cJ cS [(x5, .inr (8, [.ref wm, .ref wt, .ref wv, .ref wk, .int 1, .ref we, .ref wf, .int 0, .ref p, .int g, .long 4611686018427387903, .int 4095, .int 0, .int 0, .int 0, .int 0, .int 0])), (wm, .inr (2, [.ref na, .ref nb, .int 0, .int 0, .int 0])), (p, .inr (4, [.ref ps, .ref pc, .int 0, .int 0, .int 0, .int 0])), (wv, aJ cJ 16384 (fun _ => 0)), (wk, aI cI 4096 (fun _ => 0))] sz)) (va_Qi (fun (r : Int32) (_ : Unit) => r = 0) (BE dC dI (va_A [(x5, .inr (8, [.ref wm, .ref wt, .ref wv, .ref wk, .int 1, .ref we, .ref wf, .int 0, .ref p, .int g, .long 4611686018427387903, .int 4095, .int 0, .int 0, .int 0, .int 0, .int 0])), (wm, .inr (2, [.ref na, .ref nb, .int 0, .int 0, .int 0])), (p, .inr (4, [.ref ps, .ref pc, .int 0, .int 0, .int 0, .int 0])), (wv, aJ cJ 16384 (fun _ => 0)), (wk, aI cI 4096 (fun _ => 0))] sz) (fun (_ : Unit) => [(x5, .inr (8, [.ref wm, .ref wt, .ref wv, .ref wk, .int 1, .ref we, .ref wf, .int 0, .ref p, .int g, .long 4611686018427387903, .int 4095, .int 0, .int 1, .int 0, .int 0, .int 0])), (wv, aJ cJ 16384 (vp_updL (vp_updL (vp_updL (vp_updL (fun _ => 0) 0 1) 4096 1) 8192 1) 12288 1)), (wk, aI cI 4096 (upd (fun _ => 0) 0 1)), (wm, .inr (2, [.ref na, .ref nb, .int 0, .int 0, .int 0])), (p, .inr (4, [.ref ps, .ref pc, .int 0, .int 0, .int 0, .int 0]))])) (va_A [(x5, .inr (8, [.ref wm, .ref wt, .ref wv, .ref wk, .int 1, .ref we, .ref wf, .int 0, .ref p, .int g, .long 4611686018427387903, .int 4095, .int 0, .int 0, .int 0, .int 0, .int 0])), (wm, .inr (2, [.ref na, .ref nb, .int 0, .int 0, .int 0])), (p, .inr (4, [.ref ps, .ref pc, .int 0, .int 0, .int 0, .int 0])), (wv, aJ cJ 16384 (fun _ => 0)), (wk, aI cI 4096 (fun _ => 0))] sz)) 0 0 (va_A [(x5, .inr (8, [.ref wm, .ref wt, .ref wv, .ref wk, .int 1, .ref we, .ref wf, .int 0, .ref p, .int g, .long 4611686018427387903, .int 4095, .int 0, .int 0, .int 0, .int 0, .int 0])), (wm, .inr (2, [.ref na, .ref nb, .int 0, .int 0, .int 0])), (p, .inr (4, [.ref ps, .ref pc, .int 0, .int 0, .int 0, .int 0])), (wv, aJ cJ 16384 (fun _ => 0)), (wk, aI cI 4096 (fun _ => 0))] sz) := by
  refine Met.ofW (cc := cX8_findHeap) (maxL := 10) (ret := (some .int)) (by decide) rfl ?_
  intro pp_ ee_ ss_ mm_ args below meth cc_ s₁ B hml hv
  obtain ⟨rfl, hsz, hP, hE, hD0⟩ := hv
  have hx := B.exec
  have hb := B.bytes
  have hr := B.returns
  have hts := atoms_spec (ws := wsX8_findHeap) B.pre
  have hown : ss_.vm.findClass RX8 = some mm_.cls := findClass_of_methodNamed B.named
  have hlocks := B.notSynchronized
  have hK := hE.1
  have hiX4 : ∀ w ∈ wsX40, w ∈ wsX8_findHeap := by decide +kernel
  have hiX8 : ∀ w ∈ wsX80, w ∈ wsX8_findHeap := by decide +kernel
  subst hsz
  have hD := hD0.self (sz := ss_.heap.size)
  generalize hAe : va_A [(x5, .inr (8, [.ref wm, .ref wt, .ref wv, .ref wk, .int 1, .ref we, .ref wf, .int 0, .ref p, .int g, .long 4611686018427387903, .int 4095, .int 0, .int 0, .int 0, .int 0, .int 0])), (wm, .inr (2, [.ref na, .ref nb, .int 0, .int 0, .int 0])), (p, .inr (4, [.ref ps, .ref pc, .int 0, .int 0, .int 0, .int 0])), (wv, aJ cJ 16384 (fun _ => 0)), (wk, aI cI 4096 (fun _ => 0))] ss_.heap.size = A at hD ⊢
  have hA : ∀ q : Nat, ss_.heap.size ≤ q → A q := fun q h => by rw [← hAe]; exact Or.inr h
  have hS : va_S A ss_.heap ss_.heap [] := va_S.rf
  have hP : va_P (dC, dI) vwCl [(x5, .inr (8, [.ref wm, .ref wt, .ref wv, .ref wk, .int 1, .ref we, .ref wf, .int 0, .ref p, .int g, .long 4611686018427387903, .int 4095, .int 0, .int 0, .int 0, .int 0, .int 0])), (wm, .inr (2, [.ref na, .ref nb, .int 0, .int 0, .int 0])), (p, .inr (4, [.ref ps, .ref pc, .int 0, .int 0, .int 0, .int 0])), (wv, aJ cJ 16384 (fun _ => 0)), (wk, aI cI 4096 (fun _ => 0))] ss_.heap := hP
  have hl := lv_entry ([.ref x5, .int o, .int 0]) (n := 10) (Nat.le_of_ble_eq_true rfl)
  rw [lg_entry_eq]
  generalize (lg_sl ([.ref x5, .int o, .int 0]) ++ List.replicate (10 - (lg_sl ([.ref x5, .int o, .int 0])).length) Slot.unset).toArray = ls at hl ⊢
  have hl : lv_has ls 10 [(0, .ref x5), (1, .int o), (2, .int 0)] := hl
  refine lv_aload_n hx hb dX8_findHeap_0 rfl (lv_at hl 0 rfl) ?_
  refine va_get (D := (dC, dI)) (ci := 8) (v := .int 0) (C := RX8) (T := TX8) (N := 17) hx hb hts hiX8 hown hK hP 0 rfl rfl 12 (by decide) (hts (.fieldLink RX8 56 "WatchedPrograms$Watch" "secretCells" "I") (by decide +kernel)) (fun _ h9 => h9) rfl dX8_findHeap_1 ?_
  refine lv_aload_n hx hb dX8_findHeap_4 rfl (lv_at hl 0 rfl) ?_
  refine va_get (D := (dC, dI)) (ci := 8) (v := .ref p) (C := RX8) (T := TX8) (N := 17) hx hb hts hiX8 hown hK hP 0 rfl rfl 8 (by decide) (hts (.fieldLink RX8 46 "WatchedPrograms$Watch" "program" "LWatchedPrograms$Program;") (by decide +kernel)) (fun _ h9 => h9) rfl dX8_findHeap_5 ?_
  refine va_get (D := (dC, dI)) (ci := 4) (v := .int 0) (C := RX4) (T := TX4) (N := 6) hx hb hts hiX4 hown hK hP 2 rfl rfl 5 (by decide) (hts (.fieldLink RX8 69 "WatchedPrograms$Program" "used" "I") (by decide +kernel)) (fun _ h9 => h9) rfl dX8_findHeap_8 ?_
  refine lv_iand hx hb dX8_findHeap_11 ?_
  refine zi (y := 0) (by decide) ?_
  refine lv_istore_n (lv' := [(3, .int 0), (0, .ref x5), (1, .int o), (2, .int 0)]) hx hb dX8_findHeap_12 rfl hl (by decide) rfl (fun ls hl => ?_)
  refine lv_iload_n hx hb dX8_findHeap_13 rfl (lv_at hl 0 rfl) ?_
  refine vp_callSi (va_Run.run (va_runSN (As := [.int 0]) (rest := []) ⟨hx, hb, hml, hown, hts⟩ (c_nOf0 l dC dI cI cJ cS   ) ⟨va_cnB 1 hts gX8_findHeap_X9_numbersOf_n72 rfl rfl rfl hE.2.2.2.2.2.2.2.2.2.2.1 (hts (.initialized RX9) (by decide +kernel)) (by decide +kernel) ⟨Nat.le_of_ble_eq_true rfl, Nat.le_of_ble_eq_true rfl⟩, (hts (.static yX9_numbersOf) (by decide +kernel)), trivial⟩ (preR (hP.sub (ws' := []) [] rfl) hE) rfl rfl hl.1 rfl (lv_room (Nat.le_of_ble_eq_true rfl)) dX8_findHeap_14 ⟨by decide +kernel, by decide +kernel⟩)) (fun r_1 hr_2 => ?_)
  obtain rfl := hr_2
  refine lv_istore (lv' := [(4, .int 1), (3, .int 0), (0, .ref x5), (1, .int o), (2, .int 0)]) hx hb dX8_findHeap_17 hl (by decide) rfl (fun ls hl => ?_)
  refine lv_aload_n hx hb dX8_findHeap_19 rfl (lv_at hl 2 rfl) ?_
  refine lv_iload_n hx hb dX8_findHeap_20 rfl (lv_at hl 3 rfl) ?_
  refine lv_iload_n hx hb dX8_findHeap_21 rfl (lv_at hl 4 rfl) ?_
  refine lv_ior hx hb dX8_findHeap_22 ?_
  refine zi (y := o) Int32.or_zero ?_
  refine lv_aload_n hx hb dX8_findHeap_23 rfl (lv_at hl 2 rfl) ?_
  refine va_get (D := (dC, dI)) (ci := 8) (v := .int g) (C := RX8) (T := TX8) (N := 17) hx hb hts hiX8 hown hK hP 0 rfl rfl 9 (by decide) (hts (.fieldLink RX8 50 "WatchedPrograms$Watch" "watcher" "I") (by decide +kernel)) (fun _ h9 => h9) rfl dX8_findHeap_24 ?_
  refine lv_iconst (v := 0) hx hb dX8_findHeap_27 (by decide) ?_
  have hFc := va_free (wc := [(x5, .inr (8, [.ref wm, .ref wt, .ref wv, .ref wk, .int 1, .ref we, .ref wf, .int 0, .ref p, .int g, .long 4611686018427387903, .int 4095, .int 0, .int 0, .int 0, .int 0, .int 0])), (wm, .inr (2, [.ref na, .ref nb, .int 0, .int 0, .int 0])), (p, .inr (4, [.ref ps, .ref pc, .int 0, .int 0, .int 0, .int 0])), (wv, aJ cJ 16384 (fun _ => 0)), (wk, aI cI 4096 (fun _ => 0))]) hD hS hA [0, 1, 2, 3, 4] rfl
  refine zCl (wr := []) hP hD hS hFc [0, 1, 2, 3, 4] [] rfl rfl (by decide) (by decide) (va_runV (As := [.int o, .int g, .int 0]) (rest := []) ⟨hx, hb, hml, hown, hts⟩ (c_look1 l dC dI cI cJ cS ss_.heap.size x5 o g wm wt wv wk we wf p g 4611686018427387903 0 0 na nb ps pc ) (cwV 3 hts gX8_findHeap_X8_look rfl rfl rfl (by decide +kernel) ⟨Nat.le_of_ble_eq_true rfl, Nat.le_of_ble_eq_true rfl⟩) (preEV (hP.sub (ws' := [(x5, .inr (8, [.ref wm, .ref wt, .ref wv, .ref wk, .int 1, .ref we, .ref wf, .int 0, .ref p, .int g, .long 4611686018427387903, .int 4095, .int 0, .int 0, .int 0, .int 0, .int 0])), (wm, .inr (2, [.ref na, .ref nb, .int 0, .int 0, .int 0])), (p, .inr (4, [.ref ps, .ref pc, .int 0, .int 0, .int 0, .int 0])), (wv, aJ cJ 16384 (fun _ => 0)), (wk, aI cI 4096 (fun _ => 0))]) [0, 1, 2, 3, 4] rfl) hE (hD.sub (ws' := [(x5, .inr (8, [.ref wm, .ref wt, .ref wv, .ref wk, .int 1, .ref we, .ref wf, .int 0, .ref p, .int g, .long 4611686018427387903, .int 4095, .int 0, .int 0, .int 0, .int 0, .int 0])), (wm, .inr (2, [.ref na, .ref nb, .int 0, .int 0, .int 0])), (p, .inr (4, [.ref ps, .ref pc, .int 0, .int 0, .int 0, .int 0])), (wv, aJ cJ 16384 (fun _ => 0)), (wk, aI cI 4096 (fun _ => 0))]) [0, 1, 2, 3, 4] (by decide) rfl) 0 (ci := 8) rfl rfl) rfl rfl hl.1 rfl (lv_room (Nat.le_of_ble_eq_true rfl)) dX8_findHeap_28 ⟨by decide +kernel, by decide +kernel⟩) (fun r_3 u_5 H locs hr_4 hP hD hS => ?_)
  try dsimp only at hr_4
  have hP : va_P (dC, dI) vwCl [(x5, .inr (8, [.ref wm, .ref wt, .ref wv, .ref wk, .int 1, .ref we, .ref wf, .int 0, .ref p, .int g, .long 4611686018427387903, .int 4095, .int 0, .int 0, .int 0, .int 0, .int 0])), (wv, aJ cJ 16384 (vp_updL (vp_updL (vp_updL (vp_updL (fun _ => 0) 0 1) 4096 1) 8192 1) 12288 1)), (wk, aI cI 4096 (upd (fun _ => 0) 0 1)), (wm, .inr (2, [.ref na, .ref nb, .int 0, .int 0, .int 0])), (p, .inr (4, [.ref ps, .ref pc, .int 0, .int 0, .int 0, .int 0]))] H := hP
  have hD : va_D A [(x5, .inr (8, [.ref wm, .ref wt, .ref wv, .ref wk, .int 1, .ref we, .ref wf, .int 0, .ref p, .int g, .long 4611686018427387903, .int 4095, .int 0, .int 0, .int 0, .int 0, .int 0])), (wv, aJ cJ 16384 (vp_updL (vp_updL (vp_updL (vp_updL (fun _ => 0) 0 1) 4096 1) 8192 1) 12288 1)), (wk, aI cI 4096 (upd (fun _ => 0) 0 1)), (wm, .inr (2, [.ref na, .ref nb, .int 0, .int 0, .int 0])), (p, .inr (4, [.ref ps, .ref pc, .int 0, .int 0, .int 0, .int 0]))] := hD
  obtain rfl := hr_4
  refine lv_aload_n hx hb dX8_findHeap_31 rfl (lv_at hl 2 rfl) ?_
  refine va_get (D := (dC, dI)) (ci := 8) (v := .long 4611686018427387903) (C := RX8) (T := TX8) (N := 17) hx hb hts hiX8 hown hK hP 0 rfl rfl 10 (by decide) (hts (.fieldLink RX8 65 "WatchedPrograms$Watch" "lens" "J") (by decide +kernel)) (fun _ h9 => h9) rfl dX8_findHeap_32 ?_
  refine lv_land hx hb dX8_findHeap_35 ?_
  refine zl (y := 1) (by decide) ?_
  refine lv_lstore (lv' := [(5, .long 1), (4, .int 1), (3, .int 0), (0, .ref x5), (1, .int o), (2, .int 0)]) hx hb dX8_findHeap_36 hl (by decide) rfl (fun ls hl => ?_)
  refine lv_iconst (v := (-1)) hx hb dX8_findHeap_38 (by decide) ?_
  refine lv_istore (lv' := [(7, .int (-1)), (5, .long 1), (4, .int 1), (3, .int 0), (0, .ref x5), (1, .int o), (2, .int 0)]) hx hb dX8_findHeap_39 hl (by decide) rfl (fun ls hl => ?_)
  refine lv_iconst (v := 0) hx hb dX8_findHeap_41 (by decide) ?_
  refine lv_istore (lv' := [(8, .int 0), (7, .int (-1)), (5, .long 1), (4, .int 1), (3, .int 0), (0, .ref x5), (1, .int o), (2, .int 0)]) hx hb dX8_findHeap_42 hl (by decide) rfl (fun ls hl => ?_)
  refine lv_aload_n hx hb dX8_findHeap_44 rfl (lv_at hl 5 rfl) ?_
  refine lv_iconst (v := 0) hx hb dX8_findHeap_45 (by decide) ?_
  refine va_put (D := (dC, dI)) (ci := 8) (v := .int 0) (ty := .int) (C := RX8) (T := TX8) (N := 17) hx hb hts hiX8 tyX8 tyX8_ok nmX8 hown hK hP hD hS 0 rfl rfl 13 (by decide) (hts (.fieldLink RX8 102 "WatchedPrograms$Watch" "foundSecrets" "I") (by decide +kernel)) (fun _ h9 => h9) rfl (by decide +kernel) rfl rfl (Nat.le_of_ble_eq_true rfl) dX8_findHeap_46 (fun H locs hP hD hS => ?_)
  have hP : va_P (dC, dI) vwCl [(x5, .inr (8, [.ref wm, .ref wt, .ref wv, .ref wk, .int 1, .ref we, .ref wf, .int 0, .ref p, .int g, .long 4611686018427387903, .int 4095, .int 0, .int 0, .int 0, .int 0, .int 0])), (wv, aJ cJ 16384 (vp_updL (vp_updL (vp_updL (vp_updL (fun _ => 0) 0 1) 4096 1) 8192 1) 12288 1)), (wk, aI cI 4096 (upd (fun _ => 0) 0 1)), (wm, .inr (2, [.ref na, .ref nb, .int 0, .int 0, .int 0])), (p, .inr (4, [.ref ps, .ref pc, .int 0, .int 0, .int 0, .int 0]))] H := hP
  have hD : va_D A [(x5, .inr (8, [.ref wm, .ref wt, .ref wv, .ref wk, .int 1, .ref we, .ref wf, .int 0, .ref p, .int g, .long 4611686018427387903, .int 4095, .int 0, .int 0, .int 0, .int 0, .int 0])), (wv, aJ cJ 16384 (vp_updL (vp_updL (vp_updL (vp_updL (fun _ => 0) 0 1) 4096 1) 8192 1) 12288 1)), (wk, aI cI 4096 (upd (fun _ => 0) 0 1)), (wm, .inr (2, [.ref na, .ref nb, .int 0, .int 0, .int 0])), (p, .inr (4, [.ref ps, .ref pc, .int 0, .int 0, .int 0, .int 0]))] := hD
  refine lv_iconst (v := 0) hx hb dX8_findHeap_49 (by decide) ?_
  refine lv_istore (lv' := [(9, .int 0), (8, .int 0), (7, .int (-1)), (5, .long 1), (4, .int 1), (3, .int 0), (0, .ref x5), (1, .int o), (2, .int 0)]) hx hb dX8_findHeap_50 hl (by decide) rfl (fun ls hl => ?_)
  refine lv_iload hx hb dX8_findHeap_52 (lv_at hl 0 rfl) ?_
  refine lv_iload hx hb dX8_findHeap_54 (lv_at hl 4 rfl) ?_
  refine lv_icmp_ge (tgt := 116) hx hb dX8_findHeap_56 (by decide) (fun c_6 => absurd c_6 (by decide)) (fun _ => ?_)
  refine lv_aload_n hx hb dX8_findHeap_59 rfl (lv_at hl 6 rfl) ?_
  refine lv_iload_n hx hb dX8_findHeap_60 rfl (lv_at hl 7 rfl) ?_
  refine lv_iload hx hb dX8_findHeap_61 (lv_at hl 1 rfl) ?_
  refine lv_ior hx hb dX8_findHeap_63 ?_
  refine zi (y := o) Int32.or_zero ?_
  refine lv_aload_n hx hb dX8_findHeap_64 rfl (lv_at hl 6 rfl) ?_
  refine va_get (D := (dC, dI)) (ci := 8) (v := .int g) (C := RX8) (T := TX8) (N := 17) hx hb hts hiX8 hown hK hP 0 rfl rfl 9 (by decide) (hts (.fieldLink RX8 50 "WatchedPrograms$Watch" "watcher" "I") (by decide +kernel)) (fun _ h9 => h9) rfl dX8_findHeap_65 ?_
  refine lv_iconst (v := 0) hx hb dX8_findHeap_68 (by decide) ?_
  have hFc := va_free (wc := [(x5, .inr (8, [.ref wm, .ref wt, .ref wv, .ref wk, .int 1, .ref we, .ref wf, .int 0, .ref p, .int g, .long 4611686018427387903, .int 4095, .int 0, .int 0, .int 0, .int 0, .int 0])), (wv, aJ cJ 16384 (vp_updL (vp_updL (vp_updL (vp_updL (fun _ => 0) 0 1) 4096 1) 8192 1) 12288 1)), (wk, aI cI 4096 (upd (fun _ => 0) 0 1)), (wm, .inr (2, [.ref na, .ref nb, .int 0, .int 0, .int 0])), (p, .inr (4, [.ref ps, .ref pc, .int 0, .int 0, .int 0, .int 0]))]) hD hS hA [0, 1, 2, 3, 4] rfl
  refine zCl (wr := []) hP hD hS hFc [0, 1, 2, 3, 4] [] rfl rfl (by decide) (by decide) (va_runV (As := [.int o, .int g, .int 0]) (rest := []) ⟨hx, hb, hml, hown, hts⟩ (c_look2 l dC dI cI cJ cS H.size x5 o g wm wt wv wk we wf p g 4611686018427387903 0 0 na nb ps pc ) (cwV 3 hts gX8_findHeap_X8_look rfl rfl rfl (by decide +kernel) ⟨Nat.le_of_ble_eq_true rfl, Nat.le_of_ble_eq_true rfl⟩) (preEV (hP.sub (ws' := [(x5, .inr (8, [.ref wm, .ref wt, .ref wv, .ref wk, .int 1, .ref we, .ref wf, .int 0, .ref p, .int g, .long 4611686018427387903, .int 4095, .int 0, .int 0, .int 0, .int 0, .int 0])), (wv, aJ cJ 16384 (vp_updL (vp_updL (vp_updL (vp_updL (fun _ => 0) 0 1) 4096 1) 8192 1) 12288 1)), (wk, aI cI 4096 (upd (fun _ => 0) 0 1)), (wm, .inr (2, [.ref na, .ref nb, .int 0, .int 0, .int 0])), (p, .inr (4, [.ref ps, .ref pc, .int 0, .int 0, .int 0, .int 0]))]) [0, 1, 2, 3, 4] rfl) hE (hD.sub (ws' := [(x5, .inr (8, [.ref wm, .ref wt, .ref wv, .ref wk, .int 1, .ref we, .ref wf, .int 0, .ref p, .int g, .long 4611686018427387903, .int 4095, .int 0, .int 0, .int 0, .int 0, .int 0])), (wv, aJ cJ 16384 (vp_updL (vp_updL (vp_updL (vp_updL (fun _ => 0) 0 1) 4096 1) 8192 1) 12288 1)), (wk, aI cI 4096 (upd (fun _ => 0) 0 1)), (wm, .inr (2, [.ref na, .ref nb, .int 0, .int 0, .int 0])), (p, .inr (4, [.ref ps, .ref pc, .int 0, .int 0, .int 0, .int 0]))]) [0, 1, 2, 3, 4] (by decide) rfl) 0 (ci := 8) rfl rfl) rfl rfl hl.1 rfl (lv_room (Nat.le_of_ble_eq_true rfl)) dX8_findHeap_69 ⟨by decide +kernel, by decide +kernel⟩) (fun r_7 u_9 H locs hr_8 hP hD hS => ?_)
  try dsimp only at hr_8
  have hP : va_P (dC, dI) vwCl [(x5, .inr (8, [.ref wm, .ref wt, .ref wv, .ref wk, .int 1, .ref we, .ref wf, .int 0, .ref p, .int g, .long 4611686018427387903, .int 4095, .int 0, .int 0, .int 0, .int 0, .int 0])), (wv, aJ cJ 16384 (vp_updL (vp_updL (vp_updL (vp_updL (fun _ => 0) 0 1) 4096 1) 8192 1) 12288 1)), (wk, aI cI 4096 (upd (fun _ => 0) 0 1)), (wm, .inr (2, [.ref na, .ref nb, .int 0, .int 0, .int 0])), (p, .inr (4, [.ref ps, .ref pc, .int 0, .int 0, .int 0, .int 0]))] H := hP
  have hD : va_D A [(x5, .inr (8, [.ref wm, .ref wt, .ref wv, .ref wk, .int 1, .ref we, .ref wf, .int 0, .ref p, .int g, .long 4611686018427387903, .int 4095, .int 0, .int 0, .int 0, .int 0, .int 0])), (wv, aJ cJ 16384 (vp_updL (vp_updL (vp_updL (vp_updL (fun _ => 0) 0 1) 4096 1) 8192 1) 12288 1)), (wk, aI cI 4096 (upd (fun _ => 0) 0 1)), (wm, .inr (2, [.ref na, .ref nb, .int 0, .int 0, .int 0])), (p, .inr (4, [.ref ps, .ref pc, .int 0, .int 0, .int 0, .int 0]))] := hD
  obtain rfl := hr_8
  refine lv_aload_n hx hb dX8_findHeap_72 rfl (lv_at hl 6 rfl) ?_
  refine va_get (D := (dC, dI)) (ci := 8) (v := .long 4611686018427387903) (C := RX8) (T := TX8) (N := 17) hx hb hts hiX8 hown hK hP 0 rfl rfl 10 (by decide) (hts (.fieldLink RX8 65 "WatchedPrograms$Watch" "lens" "J") (by decide +kernel)) (fun _ h9 => h9) rfl dX8_findHeap_73 ?_
  refine lv_land hx hb dX8_findHeap_76 ?_
  refine zl (y := 1) (by decide) ?_
  refine lv_lload hx hb dX8_findHeap_77 (lv_at hl 3 rfl) ?_
  refine W.lcmp hx hb dX8_findHeap_79 ?_
  refine zi (y := 0) (by decide) ?_
  refine lv_if_ne (tgt := 102) hx hb dX8_findHeap_80 (by decide) (fun c_10 => absurd (by decide) c_10) (fun _ => ?_)
  refine lv_iload hx hb dX8_findHeap_83 (lv_at hl 2 rfl) ?_
  refine lv_if_ge (tgt := 92) hx hb dX8_findHeap_85 (by decide) (fun c_11 => absurd c_11 (by decide)) (fun _ => ?_)
  refine lv_iload hx hb dX8_findHeap_88 (lv_at hl 1 rfl) ?_
  refine lv_istore (lv' := [(7, .int 0), (9, .int 0), (8, .int 0), (5, .long 1), (4, .int 1), (3, .int 0), (0, .ref x5), (1, .int o), (2, .int 0)]) hx hb dX8_findHeap_90 hl (by decide) rfl (fun ls hl => ?_)
  refine lv_aload_n hx hb dX8_findHeap_92 rfl (lv_at hl 6 rfl) ?_
  refine lv_dup hx hb dX8_findHeap_93 rfl ?_
  refine va_get (D := (dC, dI)) (ci := 8) (v := .int 0) (C := RX8) (T := TX8) (N := 17) hx hb hts hiX8 hown hK hP 0 rfl rfl 13 (by decide) (hts (.fieldLink RX8 102 "WatchedPrograms$Watch" "foundSecrets" "I") (by decide +kernel)) (fun _ h9 => h9) rfl dX8_findHeap_94 ?_
  refine lv_iconst (v := 1) hx hb dX8_findHeap_97 (by decide) ?_
  refine lv_iadd hx hb dX8_findHeap_98 ?_
  refine zi (y := 1) (by decide) ?_
  refine va_put (D := (dC, dI)) (ci := 8) (v := .int 1) (ty := .int) (C := RX8) (T := TX8) (N := 17) hx hb hts hiX8 tyX8 tyX8_ok nmX8 hown hK hP hD hS 0 rfl rfl 13 (by decide) (hts (.fieldLink RX8 102 "WatchedPrograms$Watch" "foundSecrets" "I") (by decide +kernel)) (fun _ h9 => h9) rfl (by decide +kernel) rfl rfl (Nat.le_of_ble_eq_true rfl) dX8_findHeap_99 (fun H locs hP hD hS => ?_)
  have hP : va_P (dC, dI) vwCl [(x5, .inr (8, [.ref wm, .ref wt, .ref wv, .ref wk, .int 1, .ref we, .ref wf, .int 0, .ref p, .int g, .long 4611686018427387903, .int 4095, .int 0, .int 1, .int 0, .int 0, .int 0])), (wv, aJ cJ 16384 (vp_updL (vp_updL (vp_updL (vp_updL (fun _ => 0) 0 1) 4096 1) 8192 1) 12288 1)), (wk, aI cI 4096 (upd (fun _ => 0) 0 1)), (wm, .inr (2, [.ref na, .ref nb, .int 0, .int 0, .int 0])), (p, .inr (4, [.ref ps, .ref pc, .int 0, .int 0, .int 0, .int 0]))] H := hP
  have hD : va_D A [(x5, .inr (8, [.ref wm, .ref wt, .ref wv, .ref wk, .int 1, .ref we, .ref wf, .int 0, .ref p, .int g, .long 4611686018427387903, .int 4095, .int 0, .int 1, .int 0, .int 0, .int 0])), (wv, aJ cJ 16384 (vp_updL (vp_updL (vp_updL (vp_updL (fun _ => 0) 0 1) 4096 1) 8192 1) 12288 1)), (wk, aI cI 4096 (upd (fun _ => 0) 0 1)), (wm, .inr (2, [.ref na, .ref nb, .int 0, .int 0, .int 0])), (p, .inr (4, [.ref ps, .ref pc, .int 0, .int 0, .int 0, .int 0]))] := hD
  refine lv_iload hx hb dX8_findHeap_102 (lv_at hl 2 rfl) ?_
  refine lv_iload_n hx hb dX8_findHeap_104 rfl (lv_at hl 5 rfl) ?_
  refine vp_callSi (va_Run.run (va_runSN (As := [.int 0, .int 0]) (rest := []) ⟨hx, hb, hml, hown, hts⟩ (c_following0 l dC dI cI cJ cS   ) ⟨va_cnB 2 hts gX8_findHeap_X9_following_n88 rfl rfl rfl hE.2.2.2.2.2.2.2.2.2.2.2.2.1 (hts (.initialized RX9) (by decide +kernel)) (by decide +kernel) ⟨Nat.le_of_ble_eq_true rfl, Nat.le_of_ble_eq_true rfl⟩, (hts (.static yX9_following) (by decide +kernel)), trivial⟩ (preR (hP.sub (ws' := []) [] rfl) hE) rfl rfl hl.1 rfl (lv_room (Nat.le_of_ble_eq_true rfl)) dX8_findHeap_105 ⟨by decide +kernel, by decide +kernel⟩)) (fun r_12 hr_13 => ?_)
  obtain rfl := hr_13
  refine lv_istore (lv' := [(8, .int 0), (7, .int 0), (9, .int 0), (5, .long 1), (4, .int 1), (3, .int 0), (0, .ref x5), (1, .int o), (2, .int 0)]) hx hb dX8_findHeap_108 hl (by decide) rfl (fun ls hl => ?_)
  refine lv_iinc (v := 1) (lv' := [(9, .int 1), (8, .int 0), (7, .int 0), (5, .long 1), (4, .int 1), (3, .int 0), (0, .ref x5), (1, .int o), (2, .int 0)]) hx hb dX8_findHeap_110 hl (k := 2) rfl (by decide) (by decide) rfl (fun ls hl => ?_)
  refine lv_goto (tgt := 52) hx hb dX8_findHeap_113 (by decide) ?_
  refine lv_iload hx hb dX8_findHeap_52 (lv_at hl 0 rfl) ?_
  refine lv_iload hx hb dX8_findHeap_54 (lv_at hl 4 rfl) ?_
  refine lv_icmp_ge (tgt := 116) hx hb dX8_findHeap_56 (by decide) (fun _ => ?_) (fun c_14 => absurd (by decide) c_14)
  refine lv_iload hx hb dX8_findHeap_116 (lv_at hl 2 rfl) ?_
  have hP9 := hP.sub (ws' := [(x5, .inr (8, [.ref wm, .ref wt, .ref wv, .ref wk, .int 1, .ref we, .ref wf, .int 0, .ref p, .int g, .long 4611686018427387903, .int 4095, .int 0, .int 1, .int 0, .int 0, .int 0])), (wv, aJ cJ 16384 (vp_updL (vp_updL (vp_updL (vp_updL (fun _ => 0) 0 1) 4096 1) 8192 1) 12288 1)), (wk, aI cI 4096 (upd (fun _ => 0) 0 1)), (wm, .inr (2, [.ref na, .ref nb, .int 0, .int 0, .int 0])), (p, .inr (4, [.ref ps, .ref pc, .int 0, .int 0, .int 0, .int 0]))]) [0, 1, 2, 3, 4] rfl
  have hD9 := hD.sub (ws' := [(x5, .inr (8, [.ref wm, .ref wt, .ref wv, .ref wk, .int 1, .ref we, .ref wf, .int 0, .ref p, .int g, .long 4611686018427387903, .int 4095, .int 0, .int 1, .int 0, .int 0, .int 0])), (wv, aJ cJ 16384 (vp_updL (vp_updL (vp_updL (vp_updL (fun _ => 0) 0 1) 4096 1) 8192 1) 12288 1)), (wk, aI cI 4096 (upd (fun _ => 0) 0 1)), (wm, .inr (2, [.ref na, .ref nb, .int 0, .int 0, .int 0])), (p, .inr (4, [.ref ps, .ref pc, .int 0, .int 0, .int 0, .int 0]))]) [0, 1, 2, 3, 4] (by decide) rfl
  exact W.iret (v := 0) hx hb hr (fun tt_ ht hW => ⟨⟨_, (), rfl, rfl, by rw [ht]; exact hP9, hD9⟩, hS.F ht⟩) hS.2.2 dX8_findHeap_118
set_option maxHeartbeats 1000000 in
set_option maxRecDepth 100000 in
theorem c_untriedF1 (l : Launch) (dC : Nat → ClassId) (dI : Nat → Nat → Nat) (cI cJ cS : ClassId) (x5 : Nat) (wm : Nat) (wt : Nat) (wv : Nat) (wk : Nat) (we : Nat) (wf : Nat) (p : Nat) (g : Int32) (ps : Nat) (pc : Nat)  : Met l yX8_untriedSecrets wsX8_untriedSecrets ({ frames := 2, cells := 0, slots := 0, locals := 40 }) (va_Pc [.ref x5] (PR dC dI cI cJ cS [(x5, .inr (8, [.ref wm, .ref wt, .ref wv, .ref wk, .int 1, .ref we, .ref wf, .int 0, .ref p, .int g, .long 4611686018427387903, .int 4095, .int 0, .int 1, .int 0, .int 0, .int 0])), (p, .inr (4, [.ref ps, .ref pc, .int 0, .int 0, .int 0, .int 0]))])) (vp_Si (fun r : Int32 => r = 1)) 0 0 (fun _ => False) := by
  refine Met.ofW (cc := cX8_untriedSecrets) (maxL := 1) (ret := (some .int)) (by decide) rfl ?_
  intro pp_ ee_ ss_ mm_ args below meth cc_ s₁ B hml hv
  obtain ⟨rfl, hP, hE⟩ := hv
  have hx := B.exec
  have hb := B.bytes
  have hr := B.returns
  have hts := atoms_spec (ws := wsX8_untriedSecrets) B.pre
  have hown : ss_.vm.findClass RX8 = some mm_.cls := findClass_of_methodNamed B.named
  have hlocks := B.notSynchronized
  have hK := hE.1
  have hiX4 : ∀ w ∈ wsX40, w ∈ wsX8_untriedSecrets := by decide +kernel
  have hiX8 : ∀ w ∈ wsX80, w ∈ wsX8_untriedSecrets := by decide +kernel
  have hP : va_P (dC, dI) vwCl [(x5, .inr (8, [.ref wm, .ref wt, .ref wv, .ref wk, .int 1, .ref we, .ref wf, .int 0, .ref p, .int g, .long 4611686018427387903, .int 4095, .int 0, .int 1, .int 0, .int 0, .int 0])), (p, .inr (4, [.ref ps, .ref pc, .int 0, .int 0, .int 0, .int 0]))] ss_.heap := hP
  have hl := lv_entry ([.ref x5]) (n := 1) (Nat.le_of_ble_eq_true rfl)
  rw [lg_entry_eq]
  generalize (lg_sl ([.ref x5]) ++ List.replicate (1 - (lg_sl ([.ref x5])).length) Slot.unset).toArray = ls at hl ⊢
  have hl : lv_has ls 1 [(0, .ref x5)] := hl
  refine lv_aload_n hx hb dX8_untriedSecrets_0 rfl (lv_at hl 0 rfl) ?_
  refine va_get (D := (dC, dI)) (ci := 8) (v := .int 0) (C := RX8) (T := TX8) (N := 17) hx hb hts hiX8 hown hK hP 0 rfl rfl 12 (by decide) (hts (.fieldLink RX8 56 "WatchedPrograms$Watch" "secretCells" "I") (by decide +kernel)) (fun _ h9 => h9) rfl dX8_untriedSecrets_1 ?_
  refine lv_aload_n hx hb dX8_untriedSecrets_4 rfl (lv_at hl 0 rfl) ?_
  refine va_get (D := (dC, dI)) (ci := 8) (v := .ref p) (C := RX8) (T := TX8) (N := 17) hx hb hts hiX8 hown hK hP 0 rfl rfl 8 (by decide) (hts (.fieldLink RX8 46 "WatchedPrograms$Watch" "program" "LWatchedPrograms$Program;") (by decide +kernel)) (fun _ h9 => h9) rfl dX8_untriedSecrets_5 ?_
  refine va_get (D := (dC, dI)) (ci := 4) (v := .int 0) (C := RX4) (T := TX4) (N := 6) hx hb hts hiX4 hown hK hP 1 rfl rfl 5 (by decide) (hts (.fieldLink RX8 69 "WatchedPrograms$Program" "used" "I") (by decide +kernel)) (fun _ h9 => h9) rfl dX8_untriedSecrets_8 ?_
  refine lv_iconst (v := (-1)) hx hb dX8_untriedSecrets_11 (by decide) ?_
  refine lv_ixor hx hb dX8_untriedSecrets_12 ?_
  refine zi (y := (-1)) (by decide) ?_
  refine lv_iand hx hb dX8_untriedSecrets_13 ?_
  refine zi (y := 0) (by decide) ?_
  refine vp_callSi (va_Run.run (va_runSN (As := [.int 0]) (rest := []) ⟨hx, hb, hml, hown, hts⟩ (c_nOf0 l dC dI cI cJ cS   ) ⟨va_cnB 1 hts gX8_untriedSecrets_X9_numbersOf_n72 rfl rfl rfl hE.2.2.2.2.2.2.2.2.2.2.1 (hts (.initialized RX9) (by decide +kernel)) (by decide +kernel) ⟨Nat.le_of_ble_eq_true rfl, Nat.le_of_ble_eq_true rfl⟩, (hts (.static yX9_numbersOf) (by decide +kernel)), trivial⟩ (preR (hP.sub (ws' := []) [] rfl) hE) rfl rfl hl.1 rfl (lv_room (Nat.le_of_ble_eq_true rfl)) dX8_untriedSecrets_14 ⟨by decide +kernel, by decide +kernel⟩)) (fun r_1 hr_2 => ?_)
  obtain rfl := hr_2
  exact W.iret (v := 1) hx hb hr (fun tt_ ht hW => ⟨_, rfl, rfl, ht⟩) (fun _ h => by cases h) dX8_untriedSecrets_17
set_option maxHeartbeats 1000000 in
set_option maxRecDepth 100000 in
theorem c_foundSize1 (l : Launch) (dC : Nat → ClassId) (dI : Nat → Nat → Nat) (cI cJ cS : ClassId) (x5 : Nat) (wm : Nat) (wt : Nat) (wv : Nat) (wk : Nat) (we : Nat) (wf : Nat) (p : Nat) (g : Int32) (ps : Nat) (pc : Nat)  : Met l yX8_foundSize wsX8_foundSize ({ frames := 3, cells := 0, slots := 0, locals := 60 }) (va_Pc [.ref x5] (PR dC dI cI cJ cS [(x5, .inr (8, [.ref wm, .ref wt, .ref wv, .ref wk, .int 1, .ref we, .ref wf, .int 0, .ref p, .int g, .long 4611686018427387903, .int 4095, .int 0, .int 1, .int 0, .int 0, .int 0])), (p, .inr (4, [.ref ps, .ref pc, .int 0, .int 0, .int 0, .int 0]))])) (vp_Si (fun r : Int32 => r = 1)) 0 0 (fun _ => False) := by
  refine Met.ofW (cc := cX8_foundSize) (maxL := 1) (ret := (some .int)) (by decide) rfl ?_
  intro pp_ ee_ ss_ mm_ args below meth cc_ s₁ B hml hv
  obtain ⟨rfl, hP, hE⟩ := hv
  have hx := B.exec
  have hb := B.bytes
  have hr := B.returns
  have hts := atoms_spec (ws := wsX8_foundSize) B.pre
  have hown : ss_.vm.findClass RX8 = some mm_.cls := findClass_of_methodNamed B.named
  have hlocks := B.notSynchronized
  have hK := hE.1
  have hiX8 : ∀ w ∈ wsX80, w ∈ wsX8_foundSize := by decide +kernel
  have hP : va_P (dC, dI) vwCl [(x5, .inr (8, [.ref wm, .ref wt, .ref wv, .ref wk, .int 1, .ref we, .ref wf, .int 0, .ref p, .int g, .long 4611686018427387903, .int 4095, .int 0, .int 1, .int 0, .int 0, .int 0])), (p, .inr (4, [.ref ps, .ref pc, .int 0, .int 0, .int 0, .int 0]))] ss_.heap := hP
  have hl := lv_entry ([.ref x5]) (n := 1) (Nat.le_of_ble_eq_true rfl)
  rw [lg_entry_eq]
  generalize (lg_sl ([.ref x5]) ++ List.replicate (1 - (lg_sl ([.ref x5])).length) Slot.unset).toArray = ls at hl ⊢
  have hl : lv_has ls 1 [(0, .ref x5)] := hl
  refine lv_aload_n hx hb dX8_foundSize_0 rfl (lv_at hl 0 rfl) ?_
  refine va_get (D := (dC, dI)) (ci := 8) (v := .int 1) (C := RX8) (T := TX8) (N := 17) hx hb hts hiX8 hown hK hP 0 rfl rfl 13 (by decide) (hts (.fieldLink RX8 102 "WatchedPrograms$Watch" "foundSecrets" "I") (by decide +kernel)) (fun _ h9 => h9) rfl dX8_foundSize_1 ?_
  refine lv_aload_n hx hb dX8_foundSize_4 rfl (lv_at hl 0 rfl) ?_
  refine vp_callSi (va_Run.run (va_runV (As := []) (rest := [.int 1]) ⟨hx, hb, hml, hown, hts⟩ (c_untriedF1 l dC dI cI cJ cS  x5 wm wt wv wk we wf p g ps pc ) (cwV 0 hts gX8_foundSize_X8_untriedSecrets rfl rfl rfl (by decide +kernel) ⟨Nat.le_of_ble_eq_true rfl, Nat.le_of_ble_eq_true rfl⟩) (preRV (hP.sub (ws' := [(x5, .inr (8, [.ref wm, .ref wt, .ref wv, .ref wk, .int 1, .ref we, .ref wf, .int 0, .ref p, .int g, .long 4611686018427387903, .int 4095, .int 0, .int 1, .int 0, .int 0, .int 0])), (p, .inr (4, [.ref ps, .ref pc, .int 0, .int 0, .int 0, .int 0]))]) [0, 1] rfl) hE 0 (ci := 8) rfl rfl) rfl rfl hl.1 rfl (lv_room (Nat.le_of_ble_eq_true rfl)) dX8_foundSize_5 ⟨by decide +kernel, by decide +kernel⟩)) (fun r_1 hr_2 => ?_)
  obtain rfl := hr_2
  refine lv_imul hx hb dX8_foundSize_8 ?_
  refine zi (y := 1) (by decide) ?_
  exact W.iret (v := 1) hx hb hr (fun tt_ ht hW => ⟨_, rfl, rfl, ht⟩) (fun _ h => by cases h) dX8_foundSize_9
set_option maxHeartbeats 1000000 in
set_option maxRecDepth 100000 in
theorem c_findPair1 (l : Launch) (dC : Nat → ClassId) (dI : Nat → Nat → Nat) (cI cJ cS : ClassId) (x5 : Nat) (wm : Nat) (wt : Nat) (wv : Nat) (wk : Nat) (we : Nat) (wf : Nat) (p : Nat) (g : Int32) (ps : Nat) (pc : Nat)  : Met l yX8_findPair wsX8_findPair ({ frames := 2, cells := 0, slots := 0, locals := 40 }) (va_Pc [.ref x5, .int 0] (PR dC dI cI cJ cS [(x5, .inr (8, [.ref wm, .ref wt, .ref wv, .ref wk, .int 1, .ref we, .ref wf, .int 0, .ref p, .int g, .long 4611686018427387903, .int 4095, .int 0, .int 0, .int 0, .int 0, .int 0])), (p, .inr (4, [.ref ps, .ref pc, .int 0, .int 0, .int 0, .int 0]))])) (vp_Si (fun r : Int32 => r = 0)) 0 0 (fun _ => False) := by
  refine Met.ofW (cc := cX8_findPair) (maxL := 10) (ret := (some .boolean)) (by decide) rfl ?_
  intro pp_ ee_ ss_ mm_ args below meth cc_ s₁ B hml hv
  obtain ⟨rfl, hP, hE⟩ := hv
  have hx := B.exec
  have hb := B.bytes
  have hr := B.returns
  have hts := atoms_spec (ws := wsX8_findPair) B.pre
  have hown : ss_.vm.findClass RX8 = some mm_.cls := findClass_of_methodNamed B.named
  have hlocks := B.notSynchronized
  have hK := hE.1
  have hiX4 : ∀ w ∈ wsX40, w ∈ wsX8_findPair := by decide +kernel
  have hiX8 : ∀ w ∈ wsX80, w ∈ wsX8_findPair := by decide +kernel
  have hP : va_P (dC, dI) vwCl [(x5, .inr (8, [.ref wm, .ref wt, .ref wv, .ref wk, .int 1, .ref we, .ref wf, .int 0, .ref p, .int g, .long 4611686018427387903, .int 4095, .int 0, .int 0, .int 0, .int 0, .int 0])), (p, .inr (4, [.ref ps, .ref pc, .int 0, .int 0, .int 0, .int 0]))] ss_.heap := hP
  have hl := lv_entry ([.ref x5, .int 0]) (n := 10) (Nat.le_of_ble_eq_true rfl)
  rw [lg_entry_eq]
  generalize (lg_sl ([.ref x5, .int 0]) ++ List.replicate (10 - (lg_sl ([.ref x5, .int 0])).length) Slot.unset).toArray = ls at hl ⊢
  have hl : lv_has ls 10 [(0, .ref x5), (1, .int 0)] := hl
  refine lv_aload_n hx hb dX8_findPair_0 rfl (lv_at hl 0 rfl) ?_
  refine va_get (D := (dC, dI)) (ci := 8) (v := .int 4095) (C := RX8) (T := TX8) (N := 17) hx hb hts hiX8 hown hK hP 0 rfl rfl 11 (by decide) (hts (.fieldLink RX8 53 "WatchedPrograms$Watch" "openCells" "I") (by decide +kernel)) (fun _ h9 => h9) rfl dX8_findPair_1 ?_
  refine lv_aload_n hx hb dX8_findPair_4 rfl (lv_at hl 0 rfl) ?_
  refine va_get (D := (dC, dI)) (ci := 8) (v := .ref p) (C := RX8) (T := TX8) (N := 17) hx hb hts hiX8 hown hK hP 0 rfl rfl 8 (by decide) (hts (.fieldLink RX8 46 "WatchedPrograms$Watch" "program" "LWatchedPrograms$Program;") (by decide +kernel)) (fun _ h9 => h9) rfl dX8_findPair_5 ?_
  refine va_get (D := (dC, dI)) (ci := 4) (v := .int 0) (C := RX4) (T := TX4) (N := 6) hx hb hts hiX4 hown hK hP 1 rfl rfl 5 (by decide) (hts (.fieldLink RX8 69 "WatchedPrograms$Program" "used" "I") (by decide +kernel)) (fun _ h9 => h9) rfl dX8_findPair_8 ?_
  refine lv_iand hx hb dX8_findPair_11 ?_
  refine zi (y := 0) (by decide) ?_
  refine lv_istore_n (lv' := [(2, .int 0), (0, .ref x5), (1, .int 0)]) hx hb dX8_findPair_12 rfl hl (by decide) rfl (fun ls hl => ?_)
  refine lv_aload_n hx hb dX8_findPair_13 rfl (lv_at hl 1 rfl) ?_
  refine va_get (D := (dC, dI)) (ci := 8) (v := .int 0) (C := RX8) (T := TX8) (N := 17) hx hb hts hiX8 hown hK hP 0 rfl rfl 12 (by decide) (hts (.fieldLink RX8 56 "WatchedPrograms$Watch" "secretCells" "I") (by decide +kernel)) (fun _ h9 => h9) rfl dX8_findPair_14 ?_
  refine lv_aload_n hx hb dX8_findPair_17 rfl (lv_at hl 1 rfl) ?_
  refine va_get (D := (dC, dI)) (ci := 8) (v := .ref p) (C := RX8) (T := TX8) (N := 17) hx hb hts hiX8 hown hK hP 0 rfl rfl 8 (by decide) (hts (.fieldLink RX8 46 "WatchedPrograms$Watch" "program" "LWatchedPrograms$Program;") (by decide +kernel)) (fun _ h9 => h9) rfl dX8_findPair_18 ?_
  refine va_get (D := (dC, dI)) (ci := 4) (v := .int 0) (C := RX4) (T := TX4) (N := 6) hx hb hts hiX4 hown hK hP 1 rfl rfl 5 (by decide) (hts (.fieldLink RX8 69 "WatchedPrograms$Program" "used" "I") (by decide +kernel)) (fun _ h9 => h9) rfl dX8_findPair_21 ?_
  refine lv_iand hx hb dX8_findPair_24 ?_
  refine zi (y := 0) (by decide) ?_
  refine lv_istore_n (lv' := [(3, .int 0), (2, .int 0), (0, .ref x5), (1, .int 0)]) hx hb dX8_findPair_25 rfl hl (by decide) rfl (fun ls hl => ?_)
  refine lv_iload_n hx hb dX8_findPair_26 rfl (lv_at hl 1 rfl) ?_
  refine vp_callSi (va_Run.run (va_runSN (As := [.int 0]) (rest := []) ⟨hx, hb, hml, hown, hts⟩ (c_nOf0 l dC dI cI cJ cS   ) ⟨va_cnB 1 hts gX8_findPair_X9_numbersOf_n72 rfl rfl rfl hE.2.2.2.2.2.2.2.2.2.2.1 (hts (.initialized RX9) (by decide +kernel)) (by decide +kernel) ⟨Nat.le_of_ble_eq_true rfl, Nat.le_of_ble_eq_true rfl⟩, (hts (.static yX9_numbersOf) (by decide +kernel)), trivial⟩ (preR (hP.sub (ws' := []) [] rfl) hE) rfl rfl hl.1 rfl (lv_room (Nat.le_of_ble_eq_true rfl)) dX8_findPair_27 ⟨by decide +kernel, by decide +kernel⟩)) (fun r_1 hr_2 => ?_)
  obtain rfl := hr_2
  refine lv_istore (lv' := [(4, .int 1), (3, .int 0), (2, .int 0), (0, .ref x5), (1, .int 0)]) hx hb dX8_findPair_30 hl (by decide) rfl (fun ls hl => ?_)
  refine lv_iload_n hx hb dX8_findPair_32 rfl (lv_at hl 1 rfl) ?_
  refine vp_callSi (va_Run.run (va_runSN (As := [.int 0]) (rest := []) ⟨hx, hb, hml, hown, hts⟩ (c_nOf0 l dC dI cI cJ cS   ) ⟨va_cnB 1 hts gX8_findPair_X9_numbersOf_n72 rfl rfl rfl hE.2.2.2.2.2.2.2.2.2.2.1 (hts (.initialized RX9) (by decide +kernel)) (by decide +kernel) ⟨Nat.le_of_ble_eq_true rfl, Nat.le_of_ble_eq_true rfl⟩, (hts (.static yX9_numbersOf) (by decide +kernel)), trivial⟩ (preR (hP.sub (ws' := []) [] rfl) hE) rfl rfl hl.1 rfl (lv_room (Nat.le_of_ble_eq_true rfl)) dX8_findPair_33 ⟨by decide +kernel, by decide +kernel⟩)) (fun r_3 hr_4 => ?_)
  obtain rfl := hr_4
  refine lv_istore (lv' := [(5, .int 1), (4, .int 1), (3, .int 0), (2, .int 0), (0, .ref x5), (1, .int 0)]) hx hb dX8_findPair_36 hl (by decide) rfl (fun ls hl => ?_)
  refine lv_iload hx hb dX8_findPair_38 (lv_at hl 0 rfl) ?_
  refine lv_iconst (v := 2) hx hb dX8_findPair_40 (by decide) ?_
  refine lv_icmp_ge (tgt := 46) hx hb dX8_findPair_41 (by decide) (fun c_5 => absurd c_5 (by decide)) (fun _ => ?_)
  refine lv_iconst (v := 0) hx hb dX8_findPair_44 (by decide) ?_
  exact W.zret (v := 0) hx hb hr (by decide) (fun tt_ ht hW => ⟨_, rfl, rfl, ht⟩) (fun _ h => by cases h) dX8_findPair_45
set_option maxHeartbeats 1000000 in
set_option maxRecDepth 100000 in
theorem c_tellsMost1 (l : Launch) (dC : Nat → ClassId) (dI : Nat → Nat → Nat) (cI cJ cS : ClassId) (sz : Nat) (x5 : Nat) (wm : Nat) (wt : Nat) (wv : Nat) (wk : Nat) (we : Nat) (wf : Nat) (p : Nat) (g : Int32) (na : Nat) (nb : Nat) (ps : Nat) (pc : Nat) (ta : Nat) (tb : Nat) (tc : Nat) (td : Nat)  : Met l yX8_tellsMost wsX8_tellsMost ({ frames := 5, cells := 0, slots := 0, locals := 108 }) (va_Pc [.ref x5] (PE dC dI cI cJ cS [(x5, .inr (8, [.ref wm, .ref wt, .ref wv, .ref wk, .int 1, .ref we, .ref wf, .int 0, .ref p, .int g, .long 4611686018427387903, .int 4095, .int 0, .int 0, .int 0, .int 0, .int 0])), (wm, .inr (2, [.ref na, .ref nb, .int 0, .int 0, .int 0])), (p, .inr (4, [.ref ps, .ref pc, .int 0, .int 0, .int 0, .int 0])), (wv, aJ cJ 16384 (fun _ => 0)), (wk, aI cI 4096 (fun _ => 0)), (wt, .inr (1, [.ref ta, .ref tb, .ref tc, .ref td, .int 0, .int 0, .int 0])), (td, aI cI 8192 (fun _ => 0)), (ta, aJ cJ 4096 (fun _ => 0)), (tb, aJ cJ 4096 (fun _ => 0)), (tc, aI cI 4096 (fun _ => 0))] sz)) (va_Qi (fun (r : Int32) (_ : Unit) => r = 0) (BE dC dI (va_A [(x5, .inr (8, [.ref wm, .ref wt, .ref wv, .ref wk, .int 1, .ref we, .ref wf, .int 0, .ref p, .int g, .long 4611686018427387903, .int 4095, .int 0, .int 0, .int 0, .int 0, .int 0])), (wm, .inr (2, [.ref na, .ref nb, .int 0, .int 0, .int 0])), (p, .inr (4, [.ref ps, .ref pc, .int 0, .int 0, .int 0, .int 0])), (wv, aJ cJ 16384 (fun _ => 0)), (wk, aI cI 4096 (fun _ => 0)), (wt, .inr (1, [.ref ta, .ref tb, .ref tc, .ref td, .int 0, .int 0, .int 0])), (td, aI cI 8192 (fun _ => 0)), (ta, aJ cJ 4096 (fun _ => 0)), (tb, aJ cJ 4096 (fun _ => 0)), (tc, aI cI 4096 (fun _ => 0))] sz) (fun (_ : Unit) => [(x5, .inr (8, [.ref wm, .ref wt, .ref wv, .ref wk, .int 1, .ref we, .ref wf, .int 0, .ref p, .int g, .long 4611686018427387903, .int 4095, .int 0, .int 0, .int 0, .int 0, .int 1])), (wv, aJ cJ 16384 (vp_updL (vp_updL (vp_updL (vp_updL (fun _ => 0) 0 1) 4096 1) 8192 1) 12288 1)), (wk, aI cI 4096 (upd (fun _ => 0) 0 1)), (wm, .inr (2, [.ref na, .ref nb, .int 0, .int 0, .int 0])), (p, .inr (4, [.ref ps, .ref pc, .int 0, .int 0, .int 0, .int 0])), (td, aI cI 8192 (upd (upd (upd (fun _ => 0) 0 0) 1 0) 1 1)), (ta, aJ cJ 4096 (vp_updL (fun _ => 0) 0 1)), (tb, aJ cJ 4096 (vp_updL (fun _ => 0) 0 0)), (wt, .inr (1, [.ref ta, .ref tb, .ref tc, .ref td, .int 1, .int 1, .int 1])), (tc, aI cI 4096 (upd (upd (fun _ => 0) 0 0) 0 1))])) (va_A [(x5, .inr (8, [.ref wm, .ref wt, .ref wv, .ref wk, .int 1, .ref we, .ref wf, .int 0, .ref p, .int g, .long 4611686018427387903, .int 4095, .int 0, .int 0, .int 0, .int 0, .int 0])), (wm, .inr (2, [.ref na, .ref nb, .int 0, .int 0, .int 0])), (p, .inr (4, [.ref ps, .ref pc, .int 0, .int 0, .int 0, .int 0])), (wv, aJ cJ 16384 (fun _ => 0)), (wk, aI cI 4096 (fun _ => 0)), (wt, .inr (1, [.ref ta, .ref tb, .ref tc, .ref td, .int 0, .int 0, .int 0])), (td, aI cI 8192 (fun _ => 0)), (ta, aJ cJ 4096 (fun _ => 0)), (tb, aJ cJ 4096 (fun _ => 0)), (tc, aI cI 4096 (fun _ => 0))] sz)) 0 0 (va_A [(x5, .inr (8, [.ref wm, .ref wt, .ref wv, .ref wk, .int 1, .ref we, .ref wf, .int 0, .ref p, .int g, .long 4611686018427387903, .int 4095, .int 0, .int 0, .int 0, .int 0, .int 0])), (wm, .inr (2, [.ref na, .ref nb, .int 0, .int 0, .int 0])), (p, .inr (4, [.ref ps, .ref pc, .int 0, .int 0, .int 0, .int 0])), (wv, aJ cJ 16384 (fun _ => 0)), (wk, aI cI 4096 (fun _ => 0)), (wt, .inr (1, [.ref ta, .ref tb, .ref tc, .ref td, .int 0, .int 0, .int 0])), (td, aI cI 8192 (fun _ => 0)), (ta, aJ cJ 4096 (fun _ => 0)), (tb, aJ cJ 4096 (fun _ => 0)), (tc, aI cI 4096 (fun _ => 0))] sz) := by
  refine Met.ofW (cc := cX8_tellsMost) (maxL := 8) (ret := (some .int)) (by decide) rfl ?_
  intro pp_ ee_ ss_ mm_ args below meth cc_ s₁ B hml hv
  obtain ⟨rfl, hsz, hP, hE, hD0⟩ := hv
  have hx := B.exec
  have hb := B.bytes
  have hr := B.returns
  have hts := atoms_spec (ws := wsX8_tellsMost) B.pre
  have hown : ss_.vm.findClass RX8 = some mm_.cls := findClass_of_methodNamed B.named
  have hlocks := B.notSynchronized
  have hK := hE.1
  have hiX4 : ∀ w ∈ wsX40, w ∈ wsX8_tellsMost := by decide +kernel
  have hiX8 : ∀ w ∈ wsX80, w ∈ wsX8_tellsMost := by decide +kernel
  subst hsz
  have hD := hD0.self (sz := ss_.heap.size)
  generalize hAe : va_A [(x5, .inr (8, [.ref wm, .ref wt, .ref wv, .ref wk, .int 1, .ref we, .ref wf, .int 0, .ref p, .int g, .long 4611686018427387903, .int 4095, .int 0, .int 0, .int 0, .int 0, .int 0])), (wm, .inr (2, [.ref na, .ref nb, .int 0, .int 0, .int 0])), (p, .inr (4, [.ref ps, .ref pc, .int 0, .int 0, .int 0, .int 0])), (wv, aJ cJ 16384 (fun _ => 0)), (wk, aI cI 4096 (fun _ => 0)), (wt, .inr (1, [.ref ta, .ref tb, .ref tc, .ref td, .int 0, .int 0, .int 0])), (td, aI cI 8192 (fun _ => 0)), (ta, aJ cJ 4096 (fun _ => 0)), (tb, aJ cJ 4096 (fun _ => 0)), (tc, aI cI 4096 (fun _ => 0))] ss_.heap.size = A at hD ⊢
  have hA : ∀ q : Nat, ss_.heap.size ≤ q → A q := fun q h => by rw [← hAe]; exact Or.inr h
  have hS : va_S A ss_.heap ss_.heap [] := va_S.rf
  have hP : va_P (dC, dI) vwCl [(x5, .inr (8, [.ref wm, .ref wt, .ref wv, .ref wk, .int 1, .ref we, .ref wf, .int 0, .ref p, .int g, .long 4611686018427387903, .int 4095, .int 0, .int 0, .int 0, .int 0, .int 0])), (wm, .inr (2, [.ref na, .ref nb, .int 0, .int 0, .int 0])), (p, .inr (4, [.ref ps, .ref pc, .int 0, .int 0, .int 0, .int 0])), (wv, aJ cJ 16384 (fun _ => 0)), (wk, aI cI 4096 (fun _ => 0)), (wt, .inr (1, [.ref ta, .ref tb, .ref tc, .ref td, .int 0, .int 0, .int 0])), (td, aI cI 8192 (fun _ => 0)), (ta, aJ cJ 4096 (fun _ => 0)), (tb, aJ cJ 4096 (fun _ => 0)), (tc, aI cI 4096 (fun _ => 0))] ss_.heap := hP
  have hl := lv_entry ([.ref x5]) (n := 8) (Nat.le_of_ble_eq_true rfl)
  rw [lg_entry_eq]
  generalize (lg_sl ([.ref x5]) ++ List.replicate (8 - (lg_sl ([.ref x5])).length) Slot.unset).toArray = ls at hl ⊢
  have hl : lv_has ls 8 [(0, .ref x5)] := hl
  refine lv_aload_n hx hb dX8_tellsMost_0 rfl (lv_at hl 0 rfl) ?_
  refine va_get (D := (dC, dI)) (ci := 8) (v := .int 4095) (C := RX8) (T := TX8) (N := 17) hx hb hts hiX8 hown hK hP 0 rfl rfl 11 (by decide) (hts (.fieldLink RX8 53 "WatchedPrograms$Watch" "openCells" "I") (by decide +kernel)) (fun _ h9 => h9) rfl dX8_tellsMost_1 ?_
  refine lv_aload_n hx hb dX8_tellsMost_4 rfl (lv_at hl 0 rfl) ?_
  refine va_get (D := (dC, dI)) (ci := 8) (v := .ref p) (C := RX8) (T := TX8) (N := 17) hx hb hts hiX8 hown hK hP 0 rfl rfl 8 (by decide) (hts (.fieldLink RX8 46 "WatchedPrograms$Watch" "program" "LWatchedPrograms$Program;") (by decide +kernel)) (fun _ h9 => h9) rfl dX8_tellsMost_5 ?_
  refine va_get (D := (dC, dI)) (ci := 4) (v := .int 0) (C := RX4) (T := TX4) (N := 6) hx hb hts hiX4 hown hK hP 2 rfl rfl 5 (by decide) (hts (.fieldLink RX8 69 "WatchedPrograms$Program" "used" "I") (by decide +kernel)) (fun _ h9 => h9) rfl dX8_tellsMost_8 ?_
  refine lv_iand hx hb dX8_tellsMost_11 ?_
  refine zi (y := 0) (by decide) ?_
  refine lv_istore_n (lv' := [(1, .int 0), (0, .ref x5)]) hx hb dX8_tellsMost_12 rfl hl (by decide) rfl (fun ls hl => ?_)
  refine lv_iload_n hx hb dX8_tellsMost_13 rfl (lv_at hl 0 rfl) ?_
  refine vp_callSi (va_Run.run (va_runSN (As := [.int 0]) (rest := []) ⟨hx, hb, hml, hown, hts⟩ (c_nOf0 l dC dI cI cJ cS   ) ⟨va_cnB 1 hts gX8_tellsMost_X9_numbersOf_n72 rfl rfl rfl hE.2.2.2.2.2.2.2.2.2.2.1 (hts (.initialized RX9) (by decide +kernel)) (by decide +kernel) ⟨Nat.le_of_ble_eq_true rfl, Nat.le_of_ble_eq_true rfl⟩, (hts (.static yX9_numbersOf) (by decide +kernel)), trivial⟩ (preR (hP.sub (ws' := []) [] rfl) hE) rfl rfl hl.1 rfl (lv_room (Nat.le_of_ble_eq_true rfl)) dX8_tellsMost_14 ⟨by decide +kernel, by decide +kernel⟩)) (fun r_1 hr_2 => ?_)
  obtain rfl := hr_2
  refine lv_istore_n (lv' := [(2, .int 1), (1, .int 0), (0, .ref x5)]) hx hb dX8_tellsMost_17 rfl hl (by decide) rfl (fun ls hl => ?_)
  refine lv_aload_n hx hb dX8_tellsMost_18 rfl (lv_at hl 2 rfl) ?_
  refine va_get (D := (dC, dI)) (ci := 8) (v := .int 0) (C := RX8) (T := TX8) (N := 17) hx hb hts hiX8 hown hK hP 0 rfl rfl 12 (by decide) (hts (.fieldLink RX8 56 "WatchedPrograms$Watch" "secretCells" "I") (by decide +kernel)) (fun _ h9 => h9) rfl dX8_tellsMost_19 ?_
  refine lv_aload_n hx hb dX8_tellsMost_22 rfl (lv_at hl 2 rfl) ?_
  refine va_get (D := (dC, dI)) (ci := 8) (v := .ref p) (C := RX8) (T := TX8) (N := 17) hx hb hts hiX8 hown hK hP 0 rfl rfl 8 (by decide) (hts (.fieldLink RX8 46 "WatchedPrograms$Watch" "program" "LWatchedPrograms$Program;") (by decide +kernel)) (fun _ h9 => h9) rfl dX8_tellsMost_23 ?_
  refine va_get (D := (dC, dI)) (ci := 4) (v := .int 0) (C := RX4) (T := TX4) (N := 6) hx hb hts hiX4 hown hK hP 2 rfl rfl 5 (by decide) (hts (.fieldLink RX8 69 "WatchedPrograms$Program" "used" "I") (by decide +kernel)) (fun _ h9 => h9) rfl dX8_tellsMost_26 ?_
  refine lv_iand hx hb dX8_tellsMost_29 ?_
  refine zi (y := 0) (by decide) ?_
  refine vp_callSi (va_Run.run (va_runSN (As := [.int 0]) (rest := []) ⟨hx, hb, hml, hown, hts⟩ (c_nOf0 l dC dI cI cJ cS   ) ⟨va_cnB 1 hts gX8_tellsMost_X9_numbersOf_n72 rfl rfl rfl hE.2.2.2.2.2.2.2.2.2.2.1 (hts (.initialized RX9) (by decide +kernel)) (by decide +kernel) ⟨Nat.le_of_ble_eq_true rfl, Nat.le_of_ble_eq_true rfl⟩, (hts (.static yX9_numbersOf) (by decide +kernel)), trivial⟩ (preR (hP.sub (ws' := []) [] rfl) hE) rfl rfl hl.1 rfl (lv_room (Nat.le_of_ble_eq_true rfl)) dX8_tellsMost_30 ⟨by decide +kernel, by decide +kernel⟩)) (fun r_3 hr_4 => ?_)
  obtain rfl := hr_4
  refine lv_istore_n (lv' := [(3, .int 1), (2, .int 1), (1, .int 0), (0, .ref x5)]) hx hb dX8_tellsMost_33 rfl hl (by decide) rfl (fun ls hl => ?_)
  refine lv_iconst (v := 0) hx hb dX8_tellsMost_34 (by decide) ?_
  refine lv_istore (lv' := [(4, .int 0), (3, .int 1), (2, .int 1), (1, .int 0), (0, .ref x5)]) hx hb dX8_tellsMost_35 hl (by decide) rfl (fun ls hl => ?_)
  refine lv_iconst (v := 0) hx hb dX8_tellsMost_37 (by decide) ?_
  refine lv_istore (lv' := [(5, .int 0), (4, .int 0), (3, .int 1), (2, .int 1), (1, .int 0), (0, .ref x5)]) hx hb dX8_tellsMost_38 hl (by decide) rfl (fun ls hl => ?_)
  refine lv_aload_n hx hb dX8_tellsMost_40 rfl (lv_at hl 5 rfl) ?_
  refine lv_iconst (v := 0) hx hb dX8_tellsMost_41 (by decide) ?_
  refine va_put (D := (dC, dI)) (ci := 8) (v := .int 0) (ty := .int) (C := RX8) (T := TX8) (N := 17) hx hb hts hiX8 tyX8 tyX8_ok nmX8 hown hK hP hD hS 0 rfl rfl 16 (by decide) (hts (.fieldLink RX8 111 "WatchedPrograms$Watch" "mostHeaps" "I") (by decide +kernel)) (fun _ h9 => h9) rfl (by decide +kernel) rfl rfl (Nat.le_of_ble_eq_true rfl) dX8_tellsMost_42 (fun H locs hP hD hS => ?_)
  have hP : va_P (dC, dI) vwCl [(x5, .inr (8, [.ref wm, .ref wt, .ref wv, .ref wk, .int 1, .ref we, .ref wf, .int 0, .ref p, .int g, .long 4611686018427387903, .int 4095, .int 0, .int 0, .int 0, .int 0, .int 0])), (wm, .inr (2, [.ref na, .ref nb, .int 0, .int 0, .int 0])), (p, .inr (4, [.ref ps, .ref pc, .int 0, .int 0, .int 0, .int 0])), (wv, aJ cJ 16384 (fun _ => 0)), (wk, aI cI 4096 (fun _ => 0)), (wt, .inr (1, [.ref ta, .ref tb, .ref tc, .ref td, .int 0, .int 0, .int 0])), (td, aI cI 8192 (fun _ => 0)), (ta, aJ cJ 4096 (fun _ => 0)), (tb, aJ cJ 4096 (fun _ => 0)), (tc, aI cI 4096 (fun _ => 0))] H := hP
  have hD : va_D A [(x5, .inr (8, [.ref wm, .ref wt, .ref wv, .ref wk, .int 1, .ref we, .ref wf, .int 0, .ref p, .int g, .long 4611686018427387903, .int 4095, .int 0, .int 0, .int 0, .int 0, .int 0])), (wm, .inr (2, [.ref na, .ref nb, .int 0, .int 0, .int 0])), (p, .inr (4, [.ref ps, .ref pc, .int 0, .int 0, .int 0, .int 0])), (wv, aJ cJ 16384 (fun _ => 0)), (wk, aI cI 4096 (fun _ => 0)), (wt, .inr (1, [.ref ta, .ref tb, .ref tc, .ref td, .int 0, .int 0, .int 0])), (td, aI cI 8192 (fun _ => 0)), (ta, aJ cJ 4096 (fun _ => 0)), (tb, aJ cJ 4096 (fun _ => 0)), (tc, aI cI 4096 (fun _ => 0))] := hD
  refine lv_iconst (v := 0) hx hb dX8_tellsMost_45 (by decide) ?_
  refine lv_istore (lv' := [(6, .int 0), (5, .int 0), (4, .int 0), (3, .int 1), (2, .int 1), (1, .int 0), (0, .ref x5)]) hx hb dX8_tellsMost_46 hl (by decide) rfl (fun ls hl => ?_)
  refine lv_iload hx hb dX8_tellsMost_48 (lv_at hl 0 rfl) ?_
  refine lv_iload_n hx hb dX8_tellsMost_50 rfl (lv_at hl 4 rfl) ?_
  refine lv_icmp_ge (tgt := 103) hx hb dX8_tellsMost_51 (by decide) (fun c_5 => absurd c_5 (by decide)) (fun _ => ?_)
  refine lv_aload_n hx hb dX8_tellsMost_54 rfl (lv_at hl 6 rfl) ?_
  refine va_get (D := (dC, dI)) (ci := 8) (v := .int 0) (C := RX8) (T := TX8) (N := 17) hx hb hts hiX8 hown hK hP 0 rfl rfl 16 (by decide) (hts (.fieldLink RX8 111 "WatchedPrograms$Watch" "mostHeaps" "I") (by decide +kernel)) (fun _ h9 => h9) rfl dX8_tellsMost_55 ?_
  refine lv_iload_n hx hb dX8_tellsMost_58 rfl (lv_at hl 3 rfl) ?_
  refine lv_icmp_ge (tgt := 103) hx hb dX8_tellsMost_59 (by decide) (fun c_6 => absurd c_6 (by decide)) (fun _ => ?_)
  refine lv_aload_n hx hb dX8_tellsMost_62 rfl (lv_at hl 6 rfl) ?_
  refine lv_iload hx hb dX8_tellsMost_63 (lv_at hl 2 rfl) ?_
  have hFc := va_free (wc := [(x5, .inr (8, [.ref wm, .ref wt, .ref wv, .ref wk, .int 1, .ref we, .ref wf, .int 0, .ref p, .int g, .long 4611686018427387903, .int 4095, .int 0, .int 0, .int 0, .int 0, .int 0])), (wm, .inr (2, [.ref na, .ref nb, .int 0, .int 0, .int 0])), (p, .inr (4, [.ref ps, .ref pc, .int 0, .int 0, .int 0, .int 0])), (wv, aJ cJ 16384 (fun _ => 0)), (wk, aI cI 4096 (fun _ => 0)), (wt, .inr (1, [.ref ta, .ref tb, .ref tc, .ref td, .int 0, .int 0, .int 0])), (td, aI cI 8192 (fun _ => 0)), (ta, aJ cJ 4096 (fun _ => 0)), (tb, aJ cJ 4096 (fun _ => 0)), (tc, aI cI 4096 (fun _ => 0))]) hD hS hA [0, 1, 2, 3, 4, 5, 6, 7, 8, 9] rfl
  refine zCi (wr := []) hP hD hS hFc [0, 1, 2, 3, 4, 5, 6, 7, 8, 9] [] rfl rfl (by decide) (by decide) (va_runV (As := [.int 0]) (rest := []) ⟨hx, hb, hml, hown, hts⟩ (c_countHeaps1 l dC dI cI cJ cS H.size x5 0 wm wt wv wk we wf p g na nb ps pc ta tb tc td ) (cwV 1 hts gX8_tellsMost_X8_countHeaps rfl rfl rfl (by decide +kernel) ⟨Nat.le_of_ble_eq_true rfl, Nat.le_of_ble_eq_true rfl⟩) (preEV (hP.sub (ws' := [(x5, .inr (8, [.ref wm, .ref wt, .ref wv, .ref wk, .int 1, .ref we, .ref wf, .int 0, .ref p, .int g, .long 4611686018427387903, .int 4095, .int 0, .int 0, .int 0, .int 0, .int 0])), (wm, .inr (2, [.ref na, .ref nb, .int 0, .int 0, .int 0])), (p, .inr (4, [.ref ps, .ref pc, .int 0, .int 0, .int 0, .int 0])), (wv, aJ cJ 16384 (fun _ => 0)), (wk, aI cI 4096 (fun _ => 0)), (wt, .inr (1, [.ref ta, .ref tb, .ref tc, .ref td, .int 0, .int 0, .int 0])), (td, aI cI 8192 (fun _ => 0)), (ta, aJ cJ 4096 (fun _ => 0)), (tb, aJ cJ 4096 (fun _ => 0)), (tc, aI cI 4096 (fun _ => 0))]) [0, 1, 2, 3, 4, 5, 6, 7, 8, 9] rfl) hE (hD.sub (ws' := [(x5, .inr (8, [.ref wm, .ref wt, .ref wv, .ref wk, .int 1, .ref we, .ref wf, .int 0, .ref p, .int g, .long 4611686018427387903, .int 4095, .int 0, .int 0, .int 0, .int 0, .int 0])), (wm, .inr (2, [.ref na, .ref nb, .int 0, .int 0, .int 0])), (p, .inr (4, [.ref ps, .ref pc, .int 0, .int 0, .int 0, .int 0])), (wv, aJ cJ 16384 (fun _ => 0)), (wk, aI cI 4096 (fun _ => 0)), (wt, .inr (1, [.ref ta, .ref tb, .ref tc, .ref td, .int 0, .int 0, .int 0])), (td, aI cI 8192 (fun _ => 0)), (ta, aJ cJ 4096 (fun _ => 0)), (tb, aJ cJ 4096 (fun _ => 0)), (tc, aI cI 4096 (fun _ => 0))]) [0, 1, 2, 3, 4, 5, 6, 7, 8, 9] (by decide) rfl) 0 (ci := 8) rfl rfl) rfl rfl hl.1 rfl (lv_room (Nat.le_of_ble_eq_true rfl)) dX8_tellsMost_65 ⟨by decide +kernel, by decide +kernel⟩) (fun r_7 u_9 H locs hr_8 hP hD hS => ?_)
  try dsimp only at hr_8
  have hP : va_P (dC, dI) vwCl [(x5, .inr (8, [.ref wm, .ref wt, .ref wv, .ref wk, .int 1, .ref we, .ref wf, .int 0, .ref p, .int g, .long 4611686018427387903, .int 4095, .int 0, .int 0, .int 0, .int 0, .int 0])), (wv, aJ cJ 16384 (vp_updL (vp_updL (vp_updL (vp_updL (fun _ => 0) 0 1) 4096 1) 8192 1) 12288 1)), (wk, aI cI 4096 (upd (fun _ => 0) 0 1)), (wm, .inr (2, [.ref na, .ref nb, .int 0, .int 0, .int 0])), (p, .inr (4, [.ref ps, .ref pc, .int 0, .int 0, .int 0, .int 0])), (td, aI cI 8192 (upd (upd (upd (fun _ => 0) 0 0) 1 0) 1 1)), (ta, aJ cJ 4096 (vp_updL (fun _ => 0) 0 1)), (tb, aJ cJ 4096 (vp_updL (fun _ => 0) 0 0)), (wt, .inr (1, [.ref ta, .ref tb, .ref tc, .ref td, .int 1, .int 1, .int 1])), (tc, aI cI 4096 (upd (upd (fun _ => 0) 0 0) 0 1))] H := hP
  have hD : va_D A [(x5, .inr (8, [.ref wm, .ref wt, .ref wv, .ref wk, .int 1, .ref we, .ref wf, .int 0, .ref p, .int g, .long 4611686018427387903, .int 4095, .int 0, .int 0, .int 0, .int 0, .int 0])), (wv, aJ cJ 16384 (vp_updL (vp_updL (vp_updL (vp_updL (fun _ => 0) 0 1) 4096 1) 8192 1) 12288 1)), (wk, aI cI 4096 (upd (fun _ => 0) 0 1)), (wm, .inr (2, [.ref na, .ref nb, .int 0, .int 0, .int 0])), (p, .inr (4, [.ref ps, .ref pc, .int 0, .int 0, .int 0, .int 0])), (td, aI cI 8192 (upd (upd (upd (fun _ => 0) 0 0) 1 0) 1 1)), (ta, aJ cJ 4096 (vp_updL (fun _ => 0) 0 1)), (tb, aJ cJ 4096 (vp_updL (fun _ => 0) 0 0)), (wt, .inr (1, [.ref ta, .ref tb, .ref tc, .ref td, .int 1, .int 1, .int 1])), (tc, aI cI 4096 (upd (upd (fun _ => 0) 0 0) 0 1))] := hD
  obtain rfl := hr_8
  refine lv_istore (lv' := [(7, .int 1), (6, .int 0), (5, .int 0), (4, .int 0), (3, .int 1), (2, .int 1), (1, .int 0), (0, .ref x5)]) hx hb dX8_tellsMost_68 hl (by decide) rfl (fun ls hl => ?_)
  refine lv_iload hx hb dX8_tellsMost_70 (lv_at hl 0 rfl) ?_
  refine lv_aload_n hx hb dX8_tellsMost_72 rfl (lv_at hl 7 rfl) ?_
  refine va_get (D := (dC, dI)) (ci := 8) (v := .int 0) (C := RX8) (T := TX8) (N := 17) hx hb hts hiX8 hown hK hP 0 rfl rfl 16 (by decide) (hts (.fieldLink RX8 111 "WatchedPrograms$Watch" "mostHeaps" "I") (by decide +kernel)) (fun _ h9 => h9) rfl dX8_tellsMost_73 ?_
  refine lv_icmp_le (tgt := 89) hx hb dX8_tellsMost_76 (by decide) (fun c_10 => absurd c_10 (by decide)) (fun _ => ?_)
  refine lv_aload_n hx hb dX8_tellsMost_79 rfl (lv_at hl 7 rfl) ?_
  refine lv_iload hx hb dX8_tellsMost_80 (lv_at hl 0 rfl) ?_
  refine va_put (D := (dC, dI)) (ci := 8) (v := .int 1) (ty := .int) (C := RX8) (T := TX8) (N := 17) hx hb hts hiX8 tyX8 tyX8_ok nmX8 hown hK hP hD hS 0 rfl rfl 16 (by decide) (hts (.fieldLink RX8 111 "WatchedPrograms$Watch" "mostHeaps" "I") (by decide +kernel)) (fun _ h9 => h9) rfl (by decide +kernel) rfl rfl (Nat.le_of_ble_eq_true rfl) dX8_tellsMost_82 (fun H locs hP hD hS => ?_)
  have hP : va_P (dC, dI) vwCl [(x5, .inr (8, [.ref wm, .ref wt, .ref wv, .ref wk, .int 1, .ref we, .ref wf, .int 0, .ref p, .int g, .long 4611686018427387903, .int 4095, .int 0, .int 0, .int 0, .int 0, .int 1])), (wv, aJ cJ 16384 (vp_updL (vp_updL (vp_updL (vp_updL (fun _ => 0) 0 1) 4096 1) 8192 1) 12288 1)), (wk, aI cI 4096 (upd (fun _ => 0) 0 1)), (wm, .inr (2, [.ref na, .ref nb, .int 0, .int 0, .int 0])), (p, .inr (4, [.ref ps, .ref pc, .int 0, .int 0, .int 0, .int 0])), (td, aI cI 8192 (upd (upd (upd (fun _ => 0) 0 0) 1 0) 1 1)), (ta, aJ cJ 4096 (vp_updL (fun _ => 0) 0 1)), (tb, aJ cJ 4096 (vp_updL (fun _ => 0) 0 0)), (wt, .inr (1, [.ref ta, .ref tb, .ref tc, .ref td, .int 1, .int 1, .int 1])), (tc, aI cI 4096 (upd (upd (fun _ => 0) 0 0) 0 1))] H := hP
  have hD : va_D A [(x5, .inr (8, [.ref wm, .ref wt, .ref wv, .ref wk, .int 1, .ref we, .ref wf, .int 0, .ref p, .int g, .long 4611686018427387903, .int 4095, .int 0, .int 0, .int 0, .int 0, .int 1])), (wv, aJ cJ 16384 (vp_updL (vp_updL (vp_updL (vp_updL (fun _ => 0) 0 1) 4096 1) 8192 1) 12288 1)), (wk, aI cI 4096 (upd (fun _ => 0) 0 1)), (wm, .inr (2, [.ref na, .ref nb, .int 0, .int 0, .int 0])), (p, .inr (4, [.ref ps, .ref pc, .int 0, .int 0, .int 0, .int 0])), (td, aI cI 8192 (upd (upd (upd (fun _ => 0) 0 0) 1 0) 1 1)), (ta, aJ cJ 4096 (vp_updL (fun _ => 0) 0 1)), (tb, aJ cJ 4096 (vp_updL (fun _ => 0) 0 0)), (wt, .inr (1, [.ref ta, .ref tb, .ref tc, .ref td, .int 1, .int 1, .int 1])), (tc, aI cI 4096 (upd (upd (fun _ => 0) 0 0) 0 1))] := hD
  refine lv_iload hx hb dX8_tellsMost_85 (lv_at hl 3 rfl) ?_
  refine lv_istore (lv' := [(5, .int 0), (7, .int 1), (6, .int 0), (4, .int 0), (3, .int 1), (2, .int 1), (1, .int 0), (0, .ref x5)]) hx hb dX8_tellsMost_87 hl (by decide) rfl (fun ls hl => ?_)
  refine lv_iload hx hb dX8_tellsMost_89 (lv_at hl 3 rfl) ?_
  refine lv_iload_n hx hb dX8_tellsMost_91 rfl (lv_at hl 6 rfl) ?_
  refine vp_callSi (va_Run.run (va_runSN (As := [.int 0, .int 0]) (rest := []) ⟨hx, hb, hml, hown, hts⟩ (c_following0 l dC dI cI cJ cS   ) ⟨va_cnB 2 hts gX8_tellsMost_X9_following_n88 rfl rfl rfl hE.2.2.2.2.2.2.2.2.2.2.2.2.1 (hts (.initialized RX9) (by decide +kernel)) (by decide +kernel) ⟨Nat.le_of_ble_eq_true rfl, Nat.le_of_ble_eq_true rfl⟩, (hts (.static yX9_following) (by decide +kernel)), trivial⟩ (preR (hP.sub (ws' := []) [] rfl) hE) rfl rfl hl.1 rfl (lv_room (Nat.le_of_ble_eq_true rfl)) dX8_tellsMost_92 ⟨by decide +kernel, by decide +kernel⟩)) (fun r_11 hr_12 => ?_)
  obtain rfl := hr_12
  refine lv_istore (lv' := [(4, .int 0), (5, .int 0), (7, .int 1), (6, .int 0), (3, .int 1), (2, .int 1), (1, .int 0), (0, .ref x5)]) hx hb dX8_tellsMost_95 hl (by decide) rfl (fun ls hl => ?_)
  refine lv_iinc (v := 1) (lv' := [(6, .int 1), (4, .int 0), (5, .int 0), (7, .int 1), (3, .int 1), (2, .int 1), (1, .int 0), (0, .ref x5)]) hx hb dX8_tellsMost_97 hl (k := 3) rfl (by decide) (by decide) rfl (fun ls hl => ?_)
  refine lv_goto (tgt := 48) hx hb dX8_tellsMost_100 (by decide) ?_
  refine lv_iload hx hb dX8_tellsMost_48 (lv_at hl 0 rfl) ?_
  refine lv_iload_n hx hb dX8_tellsMost_50 rfl (lv_at hl 5 rfl) ?_
  refine lv_icmp_ge (tgt := 103) hx hb dX8_tellsMost_51 (by decide) (fun _ => ?_) (fun c_13 => absurd (by decide) c_13)
  refine lv_iload hx hb dX8_tellsMost_103 (lv_at hl 2 rfl) ?_
  have hP9 := hP.sub (ws' := [(x5, .inr (8, [.ref wm, .ref wt, .ref wv, .ref wk, .int 1, .ref we, .ref wf, .int 0, .ref p, .int g, .long 4611686018427387903, .int 4095, .int 0, .int 0, .int 0, .int 0, .int 1])), (wv, aJ cJ 16384 (vp_updL (vp_updL (vp_updL (vp_updL (fun _ => 0) 0 1) 4096 1) 8192 1) 12288 1)), (wk, aI cI 4096 (upd (fun _ => 0) 0 1)), (wm, .inr (2, [.ref na, .ref nb, .int 0, .int 0, .int 0])), (p, .inr (4, [.ref ps, .ref pc, .int 0, .int 0, .int 0, .int 0])), (td, aI cI 8192 (upd (upd (upd (fun _ => 0) 0 0) 1 0) 1 1)), (ta, aJ cJ 4096 (vp_updL (fun _ => 0) 0 1)), (tb, aJ cJ 4096 (vp_updL (fun _ => 0) 0 0)), (wt, .inr (1, [.ref ta, .ref tb, .ref tc, .ref td, .int 1, .int 1, .int 1])), (tc, aI cI 4096 (upd (upd (fun _ => 0) 0 0) 0 1))]) [0, 1, 2, 3, 4, 5, 6, 7, 8, 9] rfl
  have hD9 := hD.sub (ws' := [(x5, .inr (8, [.ref wm, .ref wt, .ref wv, .ref wk, .int 1, .ref we, .ref wf, .int 0, .ref p, .int g, .long 4611686018427387903, .int 4095, .int 0, .int 0, .int 0, .int 0, .int 1])), (wv, aJ cJ 16384 (vp_updL (vp_updL (vp_updL (vp_updL (fun _ => 0) 0 1) 4096 1) 8192 1) 12288 1)), (wk, aI cI 4096 (upd (fun _ => 0) 0 1)), (wm, .inr (2, [.ref na, .ref nb, .int 0, .int 0, .int 0])), (p, .inr (4, [.ref ps, .ref pc, .int 0, .int 0, .int 0, .int 0])), (td, aI cI 8192 (upd (upd (upd (fun _ => 0) 0 0) 1 0) 1 1)), (ta, aJ cJ 4096 (vp_updL (fun _ => 0) 0 1)), (tb, aJ cJ 4096 (vp_updL (fun _ => 0) 0 0)), (wt, .inr (1, [.ref ta, .ref tb, .ref tc, .ref td, .int 1, .int 1, .int 1])), (tc, aI cI 4096 (upd (upd (fun _ => 0) 0 0) 0 1))]) [0, 1, 2, 3, 4, 5, 6, 7, 8, 9] (by decide) rfl
  exact W.iret (v := 0) hx hb hr (fun tt_ ht hW => ⟨⟨_, (), rfl, rfl, by rw [ht]; exact hP9, hD9⟩, hS.F ht⟩) hS.2.2 dX8_tellsMost_105
set_option maxHeartbeats 1000000 in
set_option maxRecDepth 100000 in
theorem c_countTogether1 (l : Launch) (dC : Nat → ClassId) (dI : Nat → Nat → Nat) (cI cJ cS : ClassId) (sz : Nat) (x5 : Nat) (o : Int32) (oo : Int32) (wm : Nat) (wt : Nat) (wv : Nat) (wk : Nat) (we : Nat) (wf : Nat) (p : Nat) (g : Int32) (na : Nat) (nb : Nat) (ps : Nat) (pc : Nat) (ta : Nat) (tb : Nat) (tc : Nat) (td : Nat)  : Met l yX8_countTogether wsX8_countTogether ({ frames := 4, cells := 0, slots := 0, locals := 83 }) (va_Pc [.ref x5, .int o, .int oo] (PE dC dI cI cJ cS [(x5, .inr (8, [.ref wm, .ref wt, .ref wv, .ref wk, .int 1, .ref we, .ref wf, .int 0, .ref p, .int g, .long 4611686018427387903, .int 4095, .int 0, .int 0, .int 0, .int 0, .int 0])), (wm, .inr (2, [.ref na, .ref nb, .int 0, .int 0, .int 0])), (p, .inr (4, [.ref ps, .ref pc, .int 0, .int 0, .int 0, .int 0])), (wv, aJ cJ 16384 (fun _ => 0)), (wk, aI cI 4096 (fun _ => 0)), (wt, .inr (1, [.ref ta, .ref tb, .ref tc, .ref td, .int 0, .int 0, .int 0])), (td, aI cI 8192 (fun _ => 0)), (ta, aJ cJ 4096 (fun _ => 0)), (tb, aJ cJ 4096 (fun _ => 0)), (tc, aI cI 4096 (fun _ => 0))] sz)) (va_Qi (fun (r : Int32) (_ : Unit) => r = 1) (BE dC dI (va_A [(x5, .inr (8, [.ref wm, .ref wt, .ref wv, .ref wk, .int 1, .ref we, .ref wf, .int 0, .ref p, .int g, .long 4611686018427387903, .int 4095, .int 0, .int 0, .int 0, .int 0, .int 0])), (wm, .inr (2, [.ref na, .ref nb, .int 0, .int 0, .int 0])), (p, .inr (4, [.ref ps, .ref pc, .int 0, .int 0, .int 0, .int 0])), (wv, aJ cJ 16384 (fun _ => 0)), (wk, aI cI 4096 (fun _ => 0)), (wt, .inr (1, [.ref ta, .ref tb, .ref tc, .ref td, .int 0, .int 0, .int 0])), (td, aI cI 8192 (fun _ => 0)), (ta, aJ cJ 4096 (fun _ => 0)), (tb, aJ cJ 4096 (fun _ => 0)), (tc, aI cI 4096 (fun _ => 0))] sz) (fun (_ : Unit) => [(x5, .inr (8, [.ref wm, .ref wt, .ref wv, .ref wk, .int 1, .ref we, .ref wf, .int 0, .ref p, .int g, .long 4611686018427387903, .int 4095, .int 0, .int 0, .int 0, .int 0, .int 0])), (wv, aJ cJ 16384 (vp_updL (vp_updL (vp_updL (vp_updL (fun _ => 0) 0 1) 4096 1) 8192 1) 12288 1)), (wk, aI cI 4096 (upd (fun _ => 0) 0 1)), (wm, .inr (2, [.ref na, .ref nb, .int 0, .int 0, .int 0])), (p, .inr (4, [.ref ps, .ref pc, .int 0, .int 0, .int 0, .int 0])), (td, aI cI 8192 (upd (upd (upd (fun _ => 0) 0 0) 1 0) 1 1)), (ta, aJ cJ 4096 (vp_updL (fun _ => 0) 0 1)), (tb, aJ cJ 4096 (vp_updL (fun _ => 0) 0 1)), (wt, .inr (1, [.ref ta, .ref tb, .ref tc, .ref td, .int 1, .int 1, .int 1])), (tc, aI cI 4096 (upd (upd (fun _ => 0) 0 0) 0 1))])) (va_A [(x5, .inr (8, [.ref wm, .ref wt, .ref wv, .ref wk, .int 1, .ref we, .ref wf, .int 0, .ref p, .int g, .long 4611686018427387903, .int 4095, .int 0, .int 0, .int 0, .int 0, .int 0])), (wm, .inr (2, [.ref na, .ref nb, .int 0, .int 0, .int 0])), (p, .inr (4, [.ref ps, .ref pc, .int 0, .int 0, .int 0, .int 0])), (wv, aJ cJ 16384 (fun _ => 0)), (wk, aI cI 4096 (fun _ => 0)), (wt, .inr (1, [.ref ta, .ref tb, .ref tc, .ref td, .int 0, .int 0, .int 0])), (td, aI cI 8192 (fun _ => 0)), (ta, aJ cJ 4096 (fun _ => 0)), (tb, aJ cJ 4096 (fun _ => 0)), (tc, aI cI 4096 (fun _ => 0))] sz)) 0 0 (va_A [(x5, .inr (8, [.ref wm, .ref wt, .ref wv, .ref wk, .int 1, .ref we, .ref wf, .int 0, .ref p, .int g, .long 4611686018427387903, .int 4095, .int 0, .int 0, .int 0, .int 0, .int 0])), (wm, .inr (2, [.ref na, .ref nb, .int 0, .int 0, .int 0])), (p, .inr (4, [.ref ps, .ref pc, .int 0, .int 0, .int 0, .int 0])), (wv, aJ cJ 16384 (fun _ => 0)), (wk, aI cI 4096 (fun _ => 0)), (wt, .inr (1, [.ref ta, .ref tb, .ref tc, .ref td, .int 0, .int 0, .int 0])), (td, aI cI 8192 (fun _ => 0)), (ta, aJ cJ 4096 (fun _ => 0)), (tb, aJ cJ 4096 (fun _ => 0)), (tc, aI cI 4096 (fun _ => 0))] sz) := by
  refine Met.ofW (cc := cX8_countTogether) (maxL := 7) (ret := (some .int)) (by decide) rfl ?_
  intro pp_ ee_ ss_ mm_ args below meth cc_ s₁ B hml hv
  obtain ⟨rfl, hsz, hP, hE, hD0⟩ := hv
  have hx := B.exec
  have hb := B.bytes
  have hr := B.returns
  have hts := atoms_spec (ws := wsX8_countTogether) B.pre
  have hown : ss_.vm.findClass RX8 = some mm_.cls := findClass_of_methodNamed B.named
  have hlocks := B.notSynchronized
  have hK := hE.1
  have hiX1 : ∀ w ∈ wsX10, w ∈ wsX8_countTogether := by decide +kernel
  have hiX4 : ∀ w ∈ wsX40, w ∈ wsX8_countTogether := by decide +kernel
  have hiX8 : ∀ w ∈ wsX80, w ∈ wsX8_countTogether := by decide +kernel
  subst hsz
  have hD := hD0.self (sz := ss_.heap.size)
  generalize hAe : va_A [(x5, .inr (8, [.ref wm, .ref wt, .ref wv, .ref wk, .int 1, .ref we, .ref wf, .int 0, .ref p, .int g, .long 4611686018427387903, .int 4095, .int 0, .int 0, .int 0, .int 0, .int 0])), (wm, .inr (2, [.ref na, .ref nb, .int 0, .int 0, .int 0])), (p, .inr (4, [.ref ps, .ref pc, .int 0, .int 0, .int 0, .int 0])), (wv, aJ cJ 16384 (fun _ => 0)), (wk, aI cI 4096 (fun _ => 0)), (wt, .inr (1, [.ref ta, .ref tb, .ref tc, .ref td, .int 0, .int 0, .int 0])), (td, aI cI 8192 (fun _ => 0)), (ta, aJ cJ 4096 (fun _ => 0)), (tb, aJ cJ 4096 (fun _ => 0)), (tc, aI cI 4096 (fun _ => 0))] ss_.heap.size = A at hD ⊢
  have hA : ∀ q : Nat, ss_.heap.size ≤ q → A q := fun q h => by rw [← hAe]; exact Or.inr h
  have hS : va_S A ss_.heap ss_.heap [] := va_S.rf
  have hP : va_P (dC, dI) vwCl [(x5, .inr (8, [.ref wm, .ref wt, .ref wv, .ref wk, .int 1, .ref we, .ref wf, .int 0, .ref p, .int g, .long 4611686018427387903, .int 4095, .int 0, .int 0, .int 0, .int 0, .int 0])), (wm, .inr (2, [.ref na, .ref nb, .int 0, .int 0, .int 0])), (p, .inr (4, [.ref ps, .ref pc, .int 0, .int 0, .int 0, .int 0])), (wv, aJ cJ 16384 (fun _ => 0)), (wk, aI cI 4096 (fun _ => 0)), (wt, .inr (1, [.ref ta, .ref tb, .ref tc, .ref td, .int 0, .int 0, .int 0])), (td, aI cI 8192 (fun _ => 0)), (ta, aJ cJ 4096 (fun _ => 0)), (tb, aJ cJ 4096 (fun _ => 0)), (tc, aI cI 4096 (fun _ => 0))] ss_.heap := hP
  have hl := lv_entry ([.ref x5, .int o, .int oo]) (n := 7) (Nat.le_of_ble_eq_true rfl)
  rw [lg_entry_eq]
  generalize (lg_sl ([.ref x5, .int o, .int oo]) ++ List.replicate (7 - (lg_sl ([.ref x5, .int o, .int oo])).length) Slot.unset).toArray = ls at hl ⊢
  have hl : lv_has ls 7 [(0, .ref x5), (1, .int o), (2, .int oo)] := hl
  refine lv_aload_n hx hb dX8_countTogether_0 rfl (lv_at hl 0 rfl) ?_
  refine va_get (D := (dC, dI)) (ci := 8) (v := .int 0) (C := RX8) (T := TX8) (N := 17) hx hb hts hiX8 hown hK hP 0 rfl rfl 12 (by decide) (hts (.fieldLink RX8 56 "WatchedPrograms$Watch" "secretCells" "I") (by decide +kernel)) (fun _ h9 => h9) rfl dX8_countTogether_1 ?_
  refine lv_aload_n hx hb dX8_countTogether_4 rfl (lv_at hl 0 rfl) ?_
  refine va_get (D := (dC, dI)) (ci := 8) (v := .ref p) (C := RX8) (T := TX8) (N := 17) hx hb hts hiX8 hown hK hP 0 rfl rfl 8 (by decide) (hts (.fieldLink RX8 46 "WatchedPrograms$Watch" "program" "LWatchedPrograms$Program;") (by decide +kernel)) (fun _ h9 => h9) rfl dX8_countTogether_5 ?_
  refine va_get (D := (dC, dI)) (ci := 4) (v := .int 0) (C := RX4) (T := TX4) (N := 6) hx hb hts hiX4 hown hK hP 2 rfl rfl 5 (by decide) (hts (.fieldLink RX8 69 "WatchedPrograms$Program" "used" "I") (by decide +kernel)) (fun _ h9 => h9) rfl dX8_countTogether_8 ?_
  refine lv_iand hx hb dX8_countTogether_11 ?_
  refine zi (y := 0) (by decide) ?_
  refine lv_istore_n (lv' := [(3, .int 0), (0, .ref x5), (1, .int o), (2, .int oo)]) hx hb dX8_countTogether_12 rfl hl (by decide) rfl (fun ls hl => ?_)
  refine lv_iload_n hx hb dX8_countTogether_13 rfl (lv_at hl 0 rfl) ?_
  refine vp_callSi (va_Run.run (va_runSN (As := [.int 0]) (rest := []) ⟨hx, hb, hml, hown, hts⟩ (c_nOf0 l dC dI cI cJ cS   ) ⟨va_cnB 1 hts gX8_countTogether_X9_numbersOf_n72 rfl rfl rfl hE.2.2.2.2.2.2.2.2.2.2.1 (hts (.initialized RX9) (by decide +kernel)) (by decide +kernel) ⟨Nat.le_of_ble_eq_true rfl, Nat.le_of_ble_eq_true rfl⟩, (hts (.static yX9_numbersOf) (by decide +kernel)), trivial⟩ (preR (hP.sub (ws' := []) [] rfl) hE) rfl rfl hl.1 rfl (lv_room (Nat.le_of_ble_eq_true rfl)) dX8_countTogether_14 ⟨by decide +kernel, by decide +kernel⟩)) (fun r_1 hr_2 => ?_)
  obtain rfl := hr_2
  refine lv_istore (lv' := [(4, .int 1), (3, .int 0), (0, .ref x5), (1, .int o), (2, .int oo)]) hx hb dX8_countTogether_17 hl (by decide) rfl (fun ls hl => ?_)
  refine lv_aload_n hx hb dX8_countTogether_19 rfl (lv_at hl 2 rfl) ?_
  refine va_get (D := (dC, dI)) (ci := 8) (v := .ref wt) (C := RX8) (T := TX8) (N := 17) hx hb hts hiX8 hown hK hP 0 rfl rfl 1 (by decide) (hts (.fieldLink RX8 21 "WatchedPrograms$Watch" "table" "LWatchedPrograms$HeapTable;") (by decide +kernel)) (fun _ h9 => h9) rfl dX8_countTogether_20 ?_
  refine lv_iload hx hb dX8_countTogether_23 (lv_at hl 0 rfl) ?_
  have hFc := va_free (wc := [(wt, .inr (1, [.ref ta, .ref tb, .ref tc, .ref td, .int 0, .int 0, .int 0])), (td, aI cI 8192 (fun _ => 0))]) hD hS hA [5, 6] rfl
  refine zCv (wr := [(x5, .inr (8, [.ref wm, .ref wt, .ref wv, .ref wk, .int 1, .ref we, .ref wf, .int 0, .ref p, .int g, .long 4611686018427387903, .int 4095, .int 0, .int 0, .int 0, .int 0, .int 0])), (wm, .inr (2, [.ref na, .ref nb, .int 0, .int 0, .int 0])), (p, .inr (4, [.ref ps, .ref pc, .int 0, .int 0, .int 0, .int 0])), (wv, aJ cJ 16384 (fun _ => 0)), (wk, aI cI 4096 (fun _ => 0)), (ta, aJ cJ 4096 (fun _ => 0)), (tb, aJ cJ 4096 (fun _ => 0)), (tc, aI cI 4096 (fun _ => 0))]) hP hD hS hFc [5, 6] [0, 1, 2, 3, 4, 7, 8, 9] rfl rfl (by decide) (by decide) (va_runV (As := [.int 1]) (rest := []) ⟨hx, hb, hml, hown, hts⟩ (c_tbegin l dC dI cI cJ cS ss_.heap.size wt ta tb tc td ) (cwV 1 hts gX8_countTogether_X1_begin rfl rfl rfl (by decide +kernel) ⟨Nat.le_of_ble_eq_true rfl, Nat.le_of_ble_eq_true rfl⟩) (preEV (hP.sub (ws' := [(wt, .inr (1, [.ref ta, .ref tb, .ref tc, .ref td, .int 0, .int 0, .int 0])), (td, aI cI 8192 (fun _ => 0))]) [5, 6] rfl) hE (hD.sub (ws' := [(wt, .inr (1, [.ref ta, .ref tb, .ref tc, .ref td, .int 0, .int 0, .int 0])), (td, aI cI 8192 (fun _ => 0))]) [5, 6] (by decide) rfl) 0 (ci := 1) rfl rfl) rfl rfl hl.1 rfl (lv_room (Nat.le_of_ble_eq_true rfl)) dX8_countTogether_25 ⟨by decide +kernel, by decide +kernel⟩) (fun u_5 H locs hr_4 hP hD hS => ?_)
  try dsimp only at hr_4
  have hP : va_P (dC, dI) vwCl [(x5, .inr (8, [.ref wm, .ref wt, .ref wv, .ref wk, .int 1, .ref we, .ref wf, .int 0, .ref p, .int g, .long 4611686018427387903, .int 4095, .int 0, .int 0, .int 0, .int 0, .int 0])), (wm, .inr (2, [.ref na, .ref nb, .int 0, .int 0, .int 0])), (p, .inr (4, [.ref ps, .ref pc, .int 0, .int 0, .int 0, .int 0])), (wv, aJ cJ 16384 (fun _ => 0)), (wk, aI cI 4096 (fun _ => 0)), (ta, aJ cJ 4096 (fun _ => 0)), (tb, aJ cJ 4096 (fun _ => 0)), (tc, aI cI 4096 (fun _ => 0)), (wt, .inr (1, [.ref ta, .ref tb, .ref tc, .ref td, .int 1, .int 0, .int 0])), (td, aI cI 8192 (upd (upd (fun _ => 0) 0 0) 1 0))] H := hP
  have hD : va_D A [(x5, .inr (8, [.ref wm, .ref wt, .ref wv, .ref wk, .int 1, .ref we, .ref wf, .int 0, .ref p, .int g, .long 4611686018427387903, .int 4095, .int 0, .int 0, .int 0, .int 0, .int 0])), (wm, .inr (2, [.ref na, .ref nb, .int 0, .int 0, .int 0])), (p, .inr (4, [.ref ps, .ref pc, .int 0, .int 0, .int 0, .int 0])), (wv, aJ cJ 16384 (fun _ => 0)), (wk, aI cI 4096 (fun _ => 0)), (ta, aJ cJ 4096 (fun _ => 0)), (tb, aJ cJ 4096 (fun _ => 0)), (tc, aI cI 4096 (fun _ => 0)), (wt, .inr (1, [.ref ta, .ref tb, .ref tc, .ref td, .int 1, .int 0, .int 0])), (td, aI cI 8192 (upd (upd (fun _ => 0) 0 0) 1 0))] := hD
  refine lv_iconst (v := 0) hx hb dX8_countTogether_28 (by decide) ?_
  refine lv_istore (lv' := [(5, .int 0), (4, .int 1), (3, .int 0), (0, .ref x5), (1, .int o), (2, .int oo)]) hx hb dX8_countTogether_29 hl (by decide) rfl (fun ls hl => ?_)
  refine lv_iconst (v := 0) hx hb dX8_countTogether_31 (by decide) ?_
  refine lv_istore (lv' := [(6, .int 0), (5, .int 0), (4, .int 1), (3, .int 0), (0, .ref x5), (1, .int o), (2, .int oo)]) hx hb dX8_countTogether_32 hl (by decide) rfl (fun ls hl => ?_)
  refine lv_iload hx hb dX8_countTogether_34 (lv_at hl 0 rfl) ?_
  refine lv_iload hx hb dX8_countTogether_36 (lv_at hl 2 rfl) ?_
  refine lv_icmp_ge (tgt := 98) hx hb dX8_countTogether_38 (by decide) (fun c_6 => absurd c_6 (by decide)) (fun _ => ?_)
  refine lv_aload_n hx hb dX8_countTogether_41 rfl (lv_at hl 4 rfl) ?_
  refine va_get (D := (dC, dI)) (ci := 8) (v := .ref wt) (C := RX8) (T := TX8) (N := 17) hx hb hts hiX8 hown hK hP 0 rfl rfl 1 (by decide) (hts (.fieldLink RX8 21 "WatchedPrograms$Watch" "table" "LWatchedPrograms$HeapTable;") (by decide +kernel)) (fun _ h9 => h9) rfl dX8_countTogether_42 ?_
  refine lv_aload_n hx hb dX8_countTogether_45 rfl (lv_at hl 4 rfl) ?_
  refine lv_iload_n hx hb dX8_countTogether_46 rfl (lv_at hl 5 rfl) ?_
  refine lv_iload hx hb dX8_countTogether_47 (lv_at hl 1 rfl) ?_
  refine lv_ior hx hb dX8_countTogether_49 ?_
  refine zi (y := o) Int32.or_zero ?_
  refine lv_aload_n hx hb dX8_countTogether_50 rfl (lv_at hl 4 rfl) ?_
  refine va_get (D := (dC, dI)) (ci := 8) (v := .int g) (C := RX8) (T := TX8) (N := 17) hx hb hts hiX8 hown hK hP 0 rfl rfl 9 (by decide) (hts (.fieldLink RX8 50 "WatchedPrograms$Watch" "watcher" "I") (by decide +kernel)) (fun _ h9 => h9) rfl dX8_countTogether_51 ?_
  refine lv_iconst (v := 0) hx hb dX8_countTogether_54 (by decide) ?_
  have hFc := va_free (wc := [(x5, .inr (8, [.ref wm, .ref wt, .ref wv, .ref wk, .int 1, .ref we, .ref wf, .int 0, .ref p, .int g, .long 4611686018427387903, .int 4095, .int 0, .int 0, .int 0, .int 0, .int 0])), (wm, .inr (2, [.ref na, .ref nb, .int 0, .int 0, .int 0])), (p, .inr (4, [.ref ps, .ref pc, .int 0, .int 0, .int 0, .int 0])), (wv, aJ cJ 16384 (fun _ => 0)), (wk, aI cI 4096 (fun _ => 0))]) hD hS hA [0, 1, 2, 3, 4] rfl
  refine zCl (wr := [(ta, aJ cJ 4096 (fun _ => 0)), (tb, aJ cJ 4096 (fun _ => 0)), (tc, aI cI 4096 (fun _ => 0)), (wt, .inr (1, [.ref ta, .ref tb, .ref tc, .ref td, .int 1, .int 0, .int 0])), (td, aI cI 8192 (upd (upd (fun _ => 0) 0 0) 1 0))]) hP hD hS hFc [0, 1, 2, 3, 4] [5, 6, 7, 8, 9] rfl rfl (by decide) (by decide) (va_runV (As := [.int o, .int g, .int 0]) (rest := [.ref wt]) ⟨hx, hb, hml, hown, hts⟩ (c_look1 l dC dI cI cJ cS H.size x5 o g wm wt wv wk we wf p g 4611686018427387903 0 0 na nb ps pc ) (cwV 3 hts gX8_countTogether_X8_look rfl rfl rfl (by decide +kernel) ⟨Nat.le_of_ble_eq_true rfl, Nat.le_of_ble_eq_true rfl⟩) (preEV (hP.sub (ws' := [(x5, .inr (8, [.ref wm, .ref wt, .ref wv, .ref wk, .int 1, .ref we, .ref wf, .int 0, .ref p, .int g, .long 4611686018427387903, .int 4095, .int 0, .int 0, .int 0, .int 0, .int 0])), (wm, .inr (2, [.ref na, .ref nb, .int 0, .int 0, .int 0])), (p, .inr (4, [.ref ps, .ref pc, .int 0, .int 0, .int 0, .int 0])), (wv, aJ cJ 16384 (fun _ => 0)), (wk, aI cI 4096 (fun _ => 0))]) [0, 1, 2, 3, 4] rfl) hE (hD.sub (ws' := [(x5, .inr (8, [.ref wm, .ref wt, .ref wv, .ref wk, .int 1, .ref we, .ref wf, .int 0, .ref p, .int g, .long 4611686018427387903, .int 4095, .int 0, .int 0, .int 0, .int 0, .int 0])), (wm, .inr (2, [.ref na, .ref nb, .int 0, .int 0, .int 0])), (p, .inr (4, [.ref ps, .ref pc, .int 0, .int 0, .int 0, .int 0])), (wv, aJ cJ 16384 (fun _ => 0)), (wk, aI cI 4096 (fun _ => 0))]) [0, 1, 2, 3, 4] (by decide) rfl) 0 (ci := 8) rfl rfl) rfl rfl hl.1 rfl (lv_room (Nat.le_of_ble_eq_true rfl)) dX8_countTogether_55 ⟨by decide +kernel, by decide +kernel⟩) (fun r_7 u_9 H locs hr_8 hP hD hS => ?_)
  try dsimp only at hr_8
  have hP : va_P (dC, dI) vwCl [(ta, aJ cJ 4096 (fun _ => 0)), (tb, aJ cJ 4096 (fun _ => 0)), (tc, aI cI 4096 (fun _ => 0)), (wt, .inr (1, [.ref ta, .ref tb, .ref tc, .ref td, .int 1, .int 0, .int 0])), (td, aI cI 8192 (upd (upd (fun _ => 0) 0 0) 1 0)), (x5, .inr (8, [.ref wm, .ref wt, .ref wv, .ref wk, .int 1, .ref we, .ref wf, .int 0, .ref p, .int g, .long 4611686018427387903, .int 4095, .int 0, .int 0, .int 0, .int 0, .int 0])), (wv, aJ cJ 16384 (vp_updL (vp_updL (vp_updL (vp_updL (fun _ => 0) 0 1) 4096 1) 8192 1) 12288 1)), (wk, aI cI 4096 (upd (fun _ => 0) 0 1)), (wm, .inr (2, [.ref na, .ref nb, .int 0, .int 0, .int 0])), (p, .inr (4, [.ref ps, .ref pc, .int 0, .int 0, .int 0, .int 0]))] H := hP
  have hD : va_D A [(ta, aJ cJ 4096 (fun _ => 0)), (tb, aJ cJ 4096 (fun _ => 0)), (tc, aI cI 4096 (fun _ => 0)), (wt, .inr (1, [.ref ta, .ref tb, .ref tc, .ref td, .int 1, .int 0, .int 0])), (td, aI cI 8192 (upd (upd (fun _ => 0) 0 0) 1 0)), (x5, .inr (8, [.ref wm, .ref wt, .ref wv, .ref wk, .int 1, .ref we, .ref wf, .int 0, .ref p, .int g, .long 4611686018427387903, .int 4095, .int 0, .int 0, .int 0, .int 0, .int 0])), (wv, aJ cJ 16384 (vp_updL (vp_updL (vp_updL (vp_updL (fun _ => 0) 0 1) 4096 1) 8192 1) 12288 1)), (wk, aI cI 4096 (upd (fun _ => 0) 0 1)), (wm, .inr (2, [.ref na, .ref nb, .int 0, .int 0, .int 0])), (p, .inr (4, [.ref ps, .ref pc, .int 0, .int 0, .int 0, .int 0]))] := hD
  obtain rfl := hr_8
  refine lv_aload_n hx hb dX8_countTogether_58 rfl (lv_at hl 4 rfl) ?_
  refine va_get (D := (dC, dI)) (ci := 8) (v := .long 4611686018427387903) (C := RX8) (T := TX8) (N := 17) hx hb hts hiX8 hown hK hP 5 rfl rfl 10 (by decide) (hts (.fieldLink RX8 65 "WatchedPrograms$Watch" "lens" "J") (by decide +kernel)) (fun _ h9 => h9) rfl dX8_countTogether_59 ?_
  refine lv_land hx hb dX8_countTogether_62 ?_
  refine zl (y := 1) (by decide) ?_
  refine lv_aload_n hx hb dX8_countTogether_63 rfl (lv_at hl 4 rfl) ?_
  refine lv_iload_n hx hb dX8_countTogether_64 rfl (lv_at hl 6 rfl) ?_
  refine lv_iload hx hb dX8_countTogether_65 (lv_at hl 1 rfl) ?_
  refine lv_ior hx hb dX8_countTogether_67 ?_
  refine zi (y := oo) Int32.or_zero ?_
  refine lv_aload_n hx hb dX8_countTogether_68 rfl (lv_at hl 4 rfl) ?_
  refine va_get (D := (dC, dI)) (ci := 8) (v := .int g) (C := RX8) (T := TX8) (N := 17) hx hb hts hiX8 hown hK hP 5 rfl rfl 9 (by decide) (hts (.fieldLink RX8 50 "WatchedPrograms$Watch" "watcher" "I") (by decide +kernel)) (fun _ h9 => h9) rfl dX8_countTogether_69 ?_
  refine lv_iconst (v := 0) hx hb dX8_countTogether_72 (by decide) ?_
  have hFc := va_free (wc := [(x5, .inr (8, [.ref wm, .ref wt, .ref wv, .ref wk, .int 1, .ref we, .ref wf, .int 0, .ref p, .int g, .long 4611686018427387903, .int 4095, .int 0, .int 0, .int 0, .int 0, .int 0])), (wv, aJ cJ 16384 (vp_updL (vp_updL (vp_updL (vp_updL (fun _ => 0) 0 1) 4096 1) 8192 1) 12288 1)), (wk, aI cI 4096 (upd (fun _ => 0) 0 1)), (wm, .inr (2, [.ref na, .ref nb, .int 0, .int 0, .int 0])), (p, .inr (4, [.ref ps, .ref pc, .int 0, .int 0, .int 0, .int 0]))]) hD hS hA [5, 6, 7, 8, 9] rfl
  refine zCl (wr := [(ta, aJ cJ 4096 (fun _ => 0)), (tb, aJ cJ 4096 (fun _ => 0)), (tc, aI cI 4096 (fun _ => 0)), (wt, .inr (1, [.ref ta, .ref tb, .ref tc, .ref td, .int 1, .int 0, .int 0])), (td, aI cI 8192 (upd (upd (fun _ => 0) 0 0) 1 0))]) hP hD hS hFc [5, 6, 7, 8, 9] [0, 1, 2, 3, 4] rfl rfl (by decide) (by decide) (va_runV (As := [.int oo, .int g, .int 0]) (rest := [.long 1, .ref wt]) ⟨hx, hb, hml, hown, hts⟩ (c_look2 l dC dI cI cJ cS H.size x5 oo g wm wt wv wk we wf p g 4611686018427387903 0 0 na nb ps pc ) (cwV 3 hts gX8_countTogether_X8_look rfl rfl rfl (by decide +kernel) ⟨Nat.le_of_ble_eq_true rfl, Nat.le_of_ble_eq_true rfl⟩) (preEV (hP.sub (ws' := [(x5, .inr (8, [.ref wm, .ref wt, .ref wv, .ref wk, .int 1, .ref we, .ref wf, .int 0, .ref p, .int g, .long 4611686018427387903, .int 4095, .int 0, .int 0, .int 0, .int 0, .int 0])), (wv, aJ cJ 16384 (vp_updL (vp_updL (vp_updL (vp_updL (fun _ => 0) 0 1) 4096 1) 8192 1) 12288 1)), (wk, aI cI 4096 (upd (fun _ => 0) 0 1)), (wm, .inr (2, [.ref na, .ref nb, .int 0, .int 0, .int 0])), (p, .inr (4, [.ref ps, .ref pc, .int 0, .int 0, .int 0, .int 0]))]) [5, 6, 7, 8, 9] rfl) hE (hD.sub (ws' := [(x5, .inr (8, [.ref wm, .ref wt, .ref wv, .ref wk, .int 1, .ref we, .ref wf, .int 0, .ref p, .int g, .long 4611686018427387903, .int 4095, .int 0, .int 0, .int 0, .int 0, .int 0])), (wv, aJ cJ 16384 (vp_updL (vp_updL (vp_updL (vp_updL (fun _ => 0) 0 1) 4096 1) 8192 1) 12288 1)), (wk, aI cI 4096 (upd (fun _ => 0) 0 1)), (wm, .inr (2, [.ref na, .ref nb, .int 0, .int 0, .int 0])), (p, .inr (4, [.ref ps, .ref pc, .int 0, .int 0, .int 0, .int 0]))]) [5, 6, 7, 8, 9] (by decide) rfl) 0 (ci := 8) rfl rfl) rfl rfl hl.1 rfl (lv_room (Nat.le_of_ble_eq_true rfl)) dX8_countTogether_73 ⟨by decide +kernel, by decide +kernel⟩) (fun r_10 u_12 H locs hr_11 hP hD hS => ?_)
  try dsimp only at hr_11
  have hP : va_P (dC, dI) vwCl [(ta, aJ cJ 4096 (fun _ => 0)), (tb, aJ cJ 4096 (fun _ => 0)), (tc, aI cI 4096 (fun _ => 0)), (wt, .inr (1, [.ref ta, .ref tb, .ref tc, .ref td, .int 1, .int 0, .int 0])), (td, aI cI 8192 (upd (upd (fun _ => 0) 0 0) 1 0)), (x5, .inr (8, [.ref wm, .ref wt, .ref wv, .ref wk, .int 1, .ref we, .ref wf, .int 0, .ref p, .int g, .long 4611686018427387903, .int 4095, .int 0, .int 0, .int 0, .int 0, .int 0])), (wv, aJ cJ 16384 (vp_updL (vp_updL (vp_updL (vp_updL (fun _ => 0) 0 1) 4096 1) 8192 1) 12288 1)), (wk, aI cI 4096 (upd (fun _ => 0) 0 1)), (wm, .inr (2, [.ref na, .ref nb, .int 0, .int 0, .int 0])), (p, .inr (4, [.ref ps, .ref pc, .int 0, .int 0, .int 0, .int 0]))] H := hP
  have hD : va_D A [(ta, aJ cJ 4096 (fun _ => 0)), (tb, aJ cJ 4096 (fun _ => 0)), (tc, aI cI 4096 (fun _ => 0)), (wt, .inr (1, [.ref ta, .ref tb, .ref tc, .ref td, .int 1, .int 0, .int 0])), (td, aI cI 8192 (upd (upd (fun _ => 0) 0 0) 1 0)), (x5, .inr (8, [.ref wm, .ref wt, .ref wv, .ref wk, .int 1, .ref we, .ref wf, .int 0, .ref p, .int g, .long 4611686018427387903, .int 4095, .int 0, .int 0, .int 0, .int 0, .int 0])), (wv, aJ cJ 16384 (vp_updL (vp_updL (vp_updL (vp_updL (fun _ => 0) 0 1) 4096 1) 8192 1) 12288 1)), (wk, aI cI 4096 (upd (fun _ => 0) 0 1)), (wm, .inr (2, [.ref na, .ref nb, .int 0, .int 0, .int 0])), (p, .inr (4, [.ref ps, .ref pc, .int 0, .int 0, .int 0, .int 0]))] := hD
  obtain rfl := hr_11
  refine lv_aload_n hx hb dX8_countTogether_76 rfl (lv_at hl 4 rfl) ?_
  refine va_get (D := (dC, dI)) (ci := 8) (v := .long 4611686018427387903) (C := RX8) (T := TX8) (N := 17) hx hb hts hiX8 hown hK hP 5 rfl rfl 10 (by decide) (hts (.fieldLink RX8 65 "WatchedPrograms$Watch" "lens" "J") (by decide +kernel)) (fun _ h9 => h9) rfl dX8_countTogether_77 ?_
  refine lv_land hx hb dX8_countTogether_80 ?_
  refine zl (y := 1) (by decide) ?_
  have hFc := va_free (wc := [(wt, .inr (1, [.ref ta, .ref tb, .ref tc, .ref td, .int 1, .int 0, .int 0])), (td, aI cI 8192 (upd (upd (fun _ => 0) 0 0) 1 0)), (ta, aJ cJ 4096 (fun _ => 0)), (tb, aJ cJ 4096 (fun _ => 0)), (tc, aI cI 4096 (fun _ => 0))]) hD hS hA [3, 4, 0, 1, 2] rfl
  refine zCv (wr := [(x5, .inr (8, [.ref wm, .ref wt, .ref wv, .ref wk, .int 1, .ref we, .ref wf, .int 0, .ref p, .int g, .long 4611686018427387903, .int 4095, .int 0, .int 0, .int 0, .int 0, .int 0])), (wv, aJ cJ 16384 (vp_updL (vp_updL (vp_updL (vp_updL (fun _ => 0) 0 1) 4096 1) 8192 1) 12288 1)), (wk, aI cI 4096 (upd (fun _ => 0) 0 1)), (wm, .inr (2, [.ref na, .ref nb, .int 0, .int 0, .int 0])), (p, .inr (4, [.ref ps, .ref pc, .int 0, .int 0, .int 0, .int 0]))]) hP hD hS hFc [3, 4, 0, 1, 2] [5, 6, 7, 8, 9] rfl rfl (by decide) (by decide) (va_runV (As := [.long 1, .long 1]) (rest := []) ⟨hx, hb, hml, hown, hts⟩ (c_tput1 l dC dI cI cJ cS H.size wt ta tb tc td ) (cwV 2 hts gX8_countTogether_X1_put rfl rfl rfl (by decide +kernel) ⟨Nat.le_of_ble_eq_true rfl, Nat.le_of_ble_eq_true rfl⟩) (preEV (hP.sub (ws' := [(wt, .inr (1, [.ref ta, .ref tb, .ref tc, .ref td, .int 1, .int 0, .int 0])), (td, aI cI 8192 (upd (upd (fun _ => 0) 0 0) 1 0)), (ta, aJ cJ 4096 (fun _ => 0)), (tb, aJ cJ 4096 (fun _ => 0)), (tc, aI cI 4096 (fun _ => 0))]) [3, 4, 0, 1, 2] rfl) hE (hD.sub (ws' := [(wt, .inr (1, [.ref ta, .ref tb, .ref tc, .ref td, .int 1, .int 0, .int 0])), (td, aI cI 8192 (upd (upd (fun _ => 0) 0 0) 1 0)), (ta, aJ cJ 4096 (fun _ => 0)), (tb, aJ cJ 4096 (fun _ => 0)), (tc, aI cI 4096 (fun _ => 0))]) [3, 4, 0, 1, 2] (by decide) rfl) 0 (ci := 1) rfl rfl) rfl rfl hl.1 rfl (lv_room (Nat.le_of_ble_eq_true rfl)) dX8_countTogether_81 ⟨by decide +kernel, by decide +kernel⟩) (fun u_15 H locs hr_14 hP hD hS => ?_)
  try dsimp only at hr_14
  have hP : va_P (dC, dI) vwCl [(x5, .inr (8, [.ref wm, .ref wt, .ref wv, .ref wk, .int 1, .ref we, .ref wf, .int 0, .ref p, .int g, .long 4611686018427387903, .int 4095, .int 0, .int 0, .int 0, .int 0, .int 0])), (wv, aJ cJ 16384 (vp_updL (vp_updL (vp_updL (vp_updL (fun _ => 0) 0 1) 4096 1) 8192 1) 12288 1)), (wk, aI cI 4096 (upd (fun _ => 0) 0 1)), (wm, .inr (2, [.ref na, .ref nb, .int 0, .int 0, .int 0])), (p, .inr (4, [.ref ps, .ref pc, .int 0, .int 0, .int 0, .int 0])), (td, aI cI 8192 (upd (upd (upd (fun _ => 0) 0 0) 1 0) 1 1)), (ta, aJ cJ 4096 (vp_updL (fun _ => 0) 0 1)), (tb, aJ cJ 4096 (vp_updL (fun _ => 0) 0 1)), (wt, .inr (1, [.ref ta, .ref tb, .ref tc, .ref td, .int 1, .int 1, .int 1])), (tc, aI cI 4096 (upd (upd (fun _ => 0) 0 0) 0 1))] H := hP
  have hD : va_D A [(x5, .inr (8, [.ref wm, .ref wt, .ref wv, .ref wk, .int 1, .ref we, .ref wf, .int 0, .ref p, .int g, .long 4611686018427387903, .int 4095, .int 0, .int 0, .int 0, .int 0, .int 0])), (wv, aJ cJ 16384 (vp_updL (vp_updL (vp_updL (vp_updL (fun _ => 0) 0 1) 4096 1) 8192 1) 12288 1)), (wk, aI cI 4096 (upd (fun _ => 0) 0 1)), (wm, .inr (2, [.ref na, .ref nb, .int 0, .int 0, .int 0])), (p, .inr (4, [.ref ps, .ref pc, .int 0, .int 0, .int 0, .int 0])), (td, aI cI 8192 (upd (upd (upd (fun _ => 0) 0 0) 1 0) 1 1)), (ta, aJ cJ 4096 (vp_updL (fun _ => 0) 0 1)), (tb, aJ cJ 4096 (vp_updL (fun _ => 0) 0 1)), (wt, .inr (1, [.ref ta, .ref tb, .ref tc, .ref td, .int 1, .int 1, .int 1])), (tc, aI cI 4096 (upd (upd (fun _ => 0) 0 0) 0 1))] := hD
  refine lv_iload hx hb dX8_countTogether_84 (lv_at hl 1 rfl) ?_
  refine lv_iload_n hx hb dX8_countTogether_86 rfl (lv_at hl 3 rfl) ?_
  refine vp_callSi (va_Run.run (va_runSN (As := [.int 0, .int 0]) (rest := []) ⟨hx, hb, hml, hown, hts⟩ (c_following0 l dC dI cI cJ cS   ) ⟨va_cnB 2 hts gX8_countTogether_X9_following_n88 rfl rfl rfl hE.2.2.2.2.2.2.2.2.2.2.2.2.1 (hts (.initialized RX9) (by decide +kernel)) (by decide +kernel) ⟨Nat.le_of_ble_eq_true rfl, Nat.le_of_ble_eq_true rfl⟩, (hts (.static yX9_following) (by decide +kernel)), trivial⟩ (preR (hP.sub (ws' := []) [] rfl) hE) rfl rfl hl.1 rfl (lv_room (Nat.le_of_ble_eq_true rfl)) dX8_countTogether_87 ⟨by decide +kernel, by decide +kernel⟩)) (fun r_16 hr_17 => ?_)
  obtain rfl := hr_17
  refine lv_istore (lv' := [(5, .int 0), (6, .int 0), (4, .int 1), (3, .int 0), (0, .ref x5), (1, .int o), (2, .int oo)]) hx hb dX8_countTogether_90 hl (by decide) rfl (fun ls hl => ?_)
  refine lv_iinc (v := 1) (lv' := [(6, .int 1), (5, .int 0), (4, .int 1), (3, .int 0), (0, .ref x5), (1, .int o), (2, .int oo)]) hx hb dX8_countTogether_92 hl (k := 1) rfl (by decide) (by decide) rfl (fun ls hl => ?_)
  refine lv_goto (tgt := 34) hx hb dX8_countTogether_95 (by decide) ?_
  refine lv_iload hx hb dX8_countTogether_34 (lv_at hl 0 rfl) ?_
  refine lv_iload hx hb dX8_countTogether_36 (lv_at hl 2 rfl) ?_
  refine lv_icmp_ge (tgt := 98) hx hb dX8_countTogether_38 (by decide) (fun _ => ?_) (fun c_18 => absurd (by decide) c_18)
  refine lv_aload_n hx hb dX8_countTogether_98 rfl (lv_at hl 4 rfl) ?_
  refine va_get (D := (dC, dI)) (ci := 8) (v := .ref wt) (C := RX8) (T := TX8) (N := 17) hx hb hts hiX8 hown hK hP 0 rfl rfl 1 (by decide) (hts (.fieldLink RX8 21 "WatchedPrograms$Watch" "table" "LWatchedPrograms$HeapTable;") (by decide +kernel)) (fun _ h9 => h9) rfl dX8_countTogether_99 ?_
  refine va_get (D := (dC, dI)) (ci := 1) (v := .int 1) (C := RX1) (T := TX1) (N := 7) hx hb hts hiX1 hown hK hP 8 rfl rfl 5 (by decide) (hts (.fieldLink RX8 92 "WatchedPrograms$HeapTable" "many" "I") (by decide +kernel)) (fun _ h9 => h9) rfl dX8_countTogether_102 ?_
  have hP9 := hP.sub (ws' := [(x5, .inr (8, [.ref wm, .ref wt, .ref wv, .ref wk, .int 1, .ref we, .ref wf, .int 0, .ref p, .int g, .long 4611686018427387903, .int 4095, .int 0, .int 0, .int 0, .int 0, .int 0])), (wv, aJ cJ 16384 (vp_updL (vp_updL (vp_updL (vp_updL (fun _ => 0) 0 1) 4096 1) 8192 1) 12288 1)), (wk, aI cI 4096 (upd (fun _ => 0) 0 1)), (wm, .inr (2, [.ref na, .ref nb, .int 0, .int 0, .int 0])), (p, .inr (4, [.ref ps, .ref pc, .int 0, .int 0, .int 0, .int 0])), (td, aI cI 8192 (upd (upd (upd (fun _ => 0) 0 0) 1 0) 1 1)), (ta, aJ cJ 4096 (vp_updL (fun _ => 0) 0 1)), (tb, aJ cJ 4096 (vp_updL (fun _ => 0) 0 1)), (wt, .inr (1, [.ref ta, .ref tb, .ref tc, .ref td, .int 1, .int 1, .int 1])), (tc, aI cI 4096 (upd (upd (fun _ => 0) 0 0) 0 1))]) [0, 1, 2, 3, 4, 5, 6, 7, 8, 9] rfl
  have hD9 := hD.sub (ws' := [(x5, .inr (8, [.ref wm, .ref wt, .ref wv, .ref wk, .int 1, .ref we, .ref wf, .int 0, .ref p, .int g, .long 4611686018427387903, .int 4095, .int 0, .int 0, .int 0, .int 0, .int 0])), (wv, aJ cJ 16384 (vp_updL (vp_updL (vp_updL (vp_updL (fun _ => 0) 0 1) 4096 1) 8192 1) 12288 1)), (wk, aI cI 4096 (upd (fun _ => 0) 0 1)), (wm, .inr (2, [.ref na, .ref nb, .int 0, .int 0, .int 0])), (p, .inr (4, [.ref ps, .ref pc, .int 0, .int 0, .int 0, .int 0])), (td, aI cI 8192 (upd (upd (upd (fun _ => 0) 0 0) 1 0) 1 1)), (ta, aJ cJ 4096 (vp_updL (fun _ => 0) 0 1)), (tb, aJ cJ 4096 (vp_updL (fun _ => 0) 0 1)), (wt, .inr (1, [.ref ta, .ref tb, .ref tc, .ref td, .int 1, .int 1, .int 1])), (tc, aI cI 4096 (upd (upd (fun _ => 0) 0 0) 0 1))]) [0, 1, 2, 3, 4, 5, 6, 7, 8, 9] (by decide) rfl
  exact W.iret (v := 1) hx hb hr (fun tt_ ht hW => ⟨⟨_, (), rfl, rfl, by rw [ht]; exact hP9, hD9⟩, hS.F ht⟩) hS.2.2 dX8_countTogether_105
set_option maxHeartbeats 1000000 in
set_option maxRecDepth 100000 in
theorem c_countUnshown1 (l : Launch) (dC : Nat → ClassId) (dI : Nat → Nat → Nat) (cI cJ cS : ClassId) (sz : Nat) (x5 : Nat) (o : Int32) (wm : Nat) (wt : Nat) (wv : Nat) (wk : Nat) (we : Nat) (wf : Nat) (p : Nat) (g : Int32) (na : Nat) (nb : Nat) (ps : Nat) (pc : Nat) (ta : Nat) (tb : Nat) (tc : Nat) (td : Nat)  : Met l yX8_countUnshown wsX8_countUnshown ({ frames := 4, cells := 0, slots := 0, locals := 83 }) (va_Pc [.ref x5, .int o, .int 4095, .int 4095] (PE dC dI cI cJ cS [(x5, .inr (8, [.ref wm, .ref wt, .ref wv, .ref wk, .int 1, .ref we, .ref wf, .int 0, .ref p, .int g, .long 4611686018427387903, .int 4095, .int 0, .int 0, .int 0, .int 0, .int 0])), (wm, .inr (2, [.ref na, .ref nb, .int 0, .int 0, .int 0])), (p, .inr (4, [.ref ps, .ref pc, .int 0, .int 0, .int 0, .int 0])), (wv, aJ cJ 16384 (fun _ => 0)), (wk, aI cI 4096 (fun _ => 0)), (wt, .inr (1, [.ref ta, .ref tb, .ref tc, .ref td, .int 0, .int 0, .int 0])), (td, aI cI 8192 (fun _ => 0)), (ta, aJ cJ 4096 (fun _ => 0)), (tb, aJ cJ 4096 (fun _ => 0)), (tc, aI cI 4096 (fun _ => 0))] sz)) (va_Qi (fun (r : Int32) (_ : Unit) => r = 1) (BE dC dI (va_A [(x5, .inr (8, [.ref wm, .ref wt, .ref wv, .ref wk, .int 1, .ref we, .ref wf, .int 0, .ref p, .int g, .long 4611686018427387903, .int 4095, .int 0, .int 0, .int 0, .int 0, .int 0])), (wm, .inr (2, [.ref na, .ref nb, .int 0, .int 0, .int 0])), (p, .inr (4, [.ref ps, .ref pc, .int 0, .int 0, .int 0, .int 0])), (wv, aJ cJ 16384 (fun _ => 0)), (wk, aI cI 4096 (fun _ => 0)), (wt, .inr (1, [.ref ta, .ref tb, .ref tc, .ref td, .int 0, .int 0, .int 0])), (td, aI cI 8192 (fun _ => 0)), (ta, aJ cJ 4096 (fun _ => 0)), (tb, aJ cJ 4096 (fun _ => 0)), (tc, aI cI 4096 (fun _ => 0))] sz) (fun (_ : Unit) => [(x5, .inr (8, [.ref wm, .ref wt, .ref wv, .ref wk, .int 1, .ref we, .ref wf, .int 0, .ref p, .int g, .long 4611686018427387903, .int 4095, .int 0, .int 0, .int 0, .int 0, .int 0])), (wv, aJ cJ 16384 (vp_updL (vp_updL (vp_updL (vp_updL (fun _ => 0) 0 1) 4096 1) 8192 1) 12288 1)), (wk, aI cI 4096 (upd (fun _ => 0) 0 1)), (wm, .inr (2, [.ref na, .ref nb, .int 0, .int 0, .int 0])), (p, .inr (4, [.ref ps, .ref pc, .int 0, .int 0, .int 0, .int 0])), (td, aI cI 8192 (upd (upd (upd (fun _ => 0) 0 0) 1 0) 1 1)), (ta, aJ cJ 4096 (vp_updL (fun _ => 0) 0 1)), (tb, aJ cJ 4096 (vp_updL (fun _ => 0) 0 1)), (wt, .inr (1, [.ref ta, .ref tb, .ref tc, .ref td, .int 1, .int 1, .int 1])), (tc, aI cI 4096 (upd (upd (fun _ => 0) 0 0) 0 1))])) (va_A [(x5, .inr (8, [.ref wm, .ref wt, .ref wv, .ref wk, .int 1, .ref we, .ref wf, .int 0, .ref p, .int g, .long 4611686018427387903, .int 4095, .int 0, .int 0, .int 0, .int 0, .int 0])), (wm, .inr (2, [.ref na, .ref nb, .int 0, .int 0, .int 0])), (p, .inr (4, [.ref ps, .ref pc, .int 0, .int 0, .int 0, .int 0])), (wv, aJ cJ 16384 (fun _ => 0)), (wk, aI cI 4096 (fun _ => 0)), (wt, .inr (1, [.ref ta, .ref tb, .ref tc, .ref td, .int 0, .int 0, .int 0])), (td, aI cI 8192 (fun _ => 0)), (ta, aJ cJ 4096 (fun _ => 0)), (tb, aJ cJ 4096 (fun _ => 0)), (tc, aI cI 4096 (fun _ => 0))] sz)) 0 0 (va_A [(x5, .inr (8, [.ref wm, .ref wt, .ref wv, .ref wk, .int 1, .ref we, .ref wf, .int 0, .ref p, .int g, .long 4611686018427387903, .int 4095, .int 0, .int 0, .int 0, .int 0, .int 0])), (wm, .inr (2, [.ref na, .ref nb, .int 0, .int 0, .int 0])), (p, .inr (4, [.ref ps, .ref pc, .int 0, .int 0, .int 0, .int 0])), (wv, aJ cJ 16384 (fun _ => 0)), (wk, aI cI 4096 (fun _ => 0)), (wt, .inr (1, [.ref ta, .ref tb, .ref tc, .ref td, .int 0, .int 0, .int 0])), (td, aI cI 8192 (fun _ => 0)), (ta, aJ cJ 4096 (fun _ => 0)), (tb, aJ cJ 4096 (fun _ => 0)), (tc, aI cI 4096 (fun _ => 0))] sz) := by
  refine Met.ofW (cc := cX8_countUnshown) (maxL := 12) (ret := (some .int)) (by decide) rfl ?_
  intro pp_ ee_ ss_ mm_ args below meth cc_ s₁ B hml hv
  obtain ⟨rfl, hsz, hP, hE, hD0⟩ := hv
  have hx := B.exec
  have hb := B.bytes
  have hr := B.returns
  have hts := atoms_spec (ws := wsX8_countUnshown) B.pre
  have hown : ss_.vm.findClass RX8 = some mm_.cls := findClass_of_methodNamed B.named
  have hlocks := B.notSynchronized
  have hK := hE.1
  have hiX1 : ∀ w ∈ wsX10, w ∈ wsX8_countUnshown := by decide +kernel
  have hiX4 : ∀ w ∈ wsX40, w ∈ wsX8_countUnshown := by decide +kernel
  have hiX8 : ∀ w ∈ wsX80, w ∈ wsX8_countUnshown := by decide +kernel
  subst hsz
  have hD := hD0.self (sz := ss_.heap.size)
  generalize hAe : va_A [(x5, .inr (8, [.ref wm, .ref wt, .ref wv, .ref wk, .int 1, .ref we, .ref wf, .int 0, .ref p, .int g, .long 4611686018427387903, .int 4095, .int 0, .int 0, .int 0, .int 0, .int 0])), (wm, .inr (2, [.ref na, .ref nb, .int 0, .int 0, .int 0])), (p, .inr (4, [.ref ps, .ref pc, .int 0, .int 0, .int 0, .int 0])), (wv, aJ cJ 16384 (fun _ => 0)), (wk, aI cI 4096 (fun _ => 0)), (wt, .inr (1, [.ref ta, .ref tb, .ref tc, .ref td, .int 0, .int 0, .int 0])), (td, aI cI 8192 (fun _ => 0)), (ta, aJ cJ 4096 (fun _ => 0)), (tb, aJ cJ 4096 (fun _ => 0)), (tc, aI cI 4096 (fun _ => 0))] ss_.heap.size = A at hD ⊢
  have hA : ∀ q : Nat, ss_.heap.size ≤ q → A q := fun q h => by rw [← hAe]; exact Or.inr h
  have hS : va_S A ss_.heap ss_.heap [] := va_S.rf
  have hP : va_P (dC, dI) vwCl [(x5, .inr (8, [.ref wm, .ref wt, .ref wv, .ref wk, .int 1, .ref we, .ref wf, .int 0, .ref p, .int g, .long 4611686018427387903, .int 4095, .int 0, .int 0, .int 0, .int 0, .int 0])), (wm, .inr (2, [.ref na, .ref nb, .int 0, .int 0, .int 0])), (p, .inr (4, [.ref ps, .ref pc, .int 0, .int 0, .int 0, .int 0])), (wv, aJ cJ 16384 (fun _ => 0)), (wk, aI cI 4096 (fun _ => 0)), (wt, .inr (1, [.ref ta, .ref tb, .ref tc, .ref td, .int 0, .int 0, .int 0])), (td, aI cI 8192 (fun _ => 0)), (ta, aJ cJ 4096 (fun _ => 0)), (tb, aJ cJ 4096 (fun _ => 0)), (tc, aI cI 4096 (fun _ => 0))] ss_.heap := hP
  have hl := lv_entry ([.ref x5, .int o, .int 4095, .int 4095]) (n := 12) (Nat.le_of_ble_eq_true rfl)
  rw [lg_entry_eq]
  generalize (lg_sl ([.ref x5, .int o, .int 4095, .int 4095]) ++ List.replicate (12 - (lg_sl ([.ref x5, .int o, .int 4095, .int 4095])).length) Slot.unset).toArray = ls at hl ⊢
  have hl : lv_has ls 12 [(0, .ref x5), (1, .int o), (2, .int 4095), (3, .int 4095)] := hl
  refine lv_aload_n hx hb dX8_countUnshown_0 rfl (lv_at hl 0 rfl) ?_
  refine va_get (D := (dC, dI)) (ci := 8) (v := .int 0) (C := RX8) (T := TX8) (N := 17) hx hb hts hiX8 hown hK hP 0 rfl rfl 12 (by decide) (hts (.fieldLink RX8 56 "WatchedPrograms$Watch" "secretCells" "I") (by decide +kernel)) (fun _ h9 => h9) rfl dX8_countUnshown_1 ?_
  refine lv_aload_n hx hb dX8_countUnshown_4 rfl (lv_at hl 0 rfl) ?_
  refine va_get (D := (dC, dI)) (ci := 8) (v := .ref p) (C := RX8) (T := TX8) (N := 17) hx hb hts hiX8 hown hK hP 0 rfl rfl 8 (by decide) (hts (.fieldLink RX8 46 "WatchedPrograms$Watch" "program" "LWatchedPrograms$Program;") (by decide +kernel)) (fun _ h9 => h9) rfl dX8_countUnshown_5 ?_
  refine va_get (D := (dC, dI)) (ci := 4) (v := .int 0) (C := RX4) (T := TX4) (N := 6) hx hb hts hiX4 hown hK hP 2 rfl rfl 5 (by decide) (hts (.fieldLink RX8 69 "WatchedPrograms$Program" "used" "I") (by decide +kernel)) (fun _ h9 => h9) rfl dX8_countUnshown_8 ?_
  refine lv_iand hx hb dX8_countUnshown_11 ?_
  refine zi (y := 0) (by decide) ?_
  refine lv_iload_n hx hb dX8_countUnshown_12 rfl (lv_at hl 2 rfl) ?_
  refine lv_iload_n hx hb dX8_countUnshown_13 rfl (lv_at hl 3 rfl) ?_
  refine lv_ior hx hb dX8_countUnshown_14 ?_
  refine zi (y := 4095) (by decide) ?_
  refine lv_iconst (v := (-1)) hx hb dX8_countUnshown_15 (by decide) ?_
  refine lv_ixor hx hb dX8_countUnshown_16 ?_
  refine zi (y := (-4096)) (by decide) ?_
  refine lv_iand hx hb dX8_countUnshown_17 ?_
  refine zi (y := 0) (by decide) ?_
  refine lv_istore (lv' := [(4, .int 0), (0, .ref x5), (1, .int o), (2, .int 4095), (3, .int 4095)]) hx hb dX8_countUnshown_18 hl (by decide) rfl (fun ls hl => ?_)
  refine lv_iload hx hb dX8_countUnshown_20 (lv_at hl 0 rfl) ?_
  refine vp_callSi (va_Run.run (va_runSN (As := [.int 0]) (rest := []) ⟨hx, hb, hml, hown, hts⟩ (c_nOf0 l dC dI cI cJ cS   ) ⟨va_cnB 1 hts gX8_countUnshown_X9_numbersOf_n72 rfl rfl rfl hE.2.2.2.2.2.2.2.2.2.2.1 (hts (.initialized RX9) (by decide +kernel)) (by decide +kernel) ⟨Nat.le_of_ble_eq_true rfl, Nat.le_of_ble_eq_true rfl⟩, (hts (.static yX9_numbersOf) (by decide +kernel)), trivial⟩ (preR (hP.sub (ws' := []) [] rfl) hE) rfl rfl hl.1 rfl (lv_room (Nat.le_of_ble_eq_true rfl)) dX8_countUnshown_22 ⟨by decide +kernel, by decide +kernel⟩)) (fun r_1 hr_2 => ?_)
  obtain rfl := hr_2
  refine lv_istore (lv' := [(5, .int 1), (4, .int 0), (0, .ref x5), (1, .int o), (2, .int 4095), (3, .int 4095)]) hx hb dX8_countUnshown_25 hl (by decide) rfl (fun ls hl => ?_)
  refine lv_iload_n hx hb dX8_countUnshown_27 rfl (lv_at hl 4 rfl) ?_
  refine lv_aload_n hx hb dX8_countUnshown_28 rfl (lv_at hl 2 rfl) ?_
  refine va_get (D := (dC, dI)) (ci := 8) (v := .long 4611686018427387903) (C := RX8) (T := TX8) (N := 17) hx hb hts hiX8 hown hK hP 0 rfl rfl 10 (by decide) (hts (.fieldLink RX8 65 "WatchedPrograms$Watch" "lens" "J") (by decide +kernel)) (fun _ h9 => h9) rfl dX8_countUnshown_29 ?_
  refine lv_ldc2 (v := 4602678819172646912) hx hb hown (hts (.constantLong RX8 59 (4602678819172646912)) (by decide +kernel)) dX8_countUnshown_32 ?_
  refine lv_land hx hb dX8_countUnshown_35 ?_
  refine zl (y := 4602678819172646912) (by decide) ?_
  refine vp_callSl (va_Run.run (va_runS (As := [.int 4095, .long 4602678819172646912]) (rest := []) ⟨hx, hb, hml, hown, hts⟩ (c_lensOf1 l dC dI cI cJ cS   ) (va_cwS 2 hts gX8_countUnshown_X8_lensOf rfl rfl rfl (by decide +kernel) ⟨Nat.le_of_ble_eq_true rfl, Nat.le_of_ble_eq_true rfl⟩) (preR (hP.sub (ws' := []) [] rfl) hE) rfl rfl hl.1 rfl (lv_room (Nat.le_of_ble_eq_true rfl)) dX8_countUnshown_36 ⟨by decide +kernel, by decide +kernel⟩)) (fun r_3 hr_4 => ?_)
  obtain rfl := hr_4
  refine lv_lstore (lv' := [(6, .long 4611686018427387903), (5, .int 1), (4, .int 0), (0, .ref x5), (1, .int o), (2, .int 4095), (3, .int 4095)]) hx hb dX8_countUnshown_39 hl (by decide) rfl (fun ls hl => ?_)
  refine lv_iload_n hx hb dX8_countUnshown_41 rfl (lv_at hl 6 rfl) ?_
  refine lv_aload_n hx hb dX8_countUnshown_42 rfl (lv_at hl 3 rfl) ?_
  refine va_get (D := (dC, dI)) (ci := 8) (v := .long 4611686018427387903) (C := RX8) (T := TX8) (N := 17) hx hb hts hiX8 hown hK hP 0 rfl rfl 10 (by decide) (hts (.fieldLink RX8 65 "WatchedPrograms$Watch" "lens" "J") (by decide +kernel)) (fun _ h9 => h9) rfl dX8_countUnshown_43 ?_
  refine lv_ldc2 (v := 4602678819172646912) hx hb hown (hts (.constantLong RX8 59 (4602678819172646912)) (by decide +kernel)) dX8_countUnshown_46 ?_
  refine lv_land hx hb dX8_countUnshown_49 ?_
  refine zl (y := 4602678819172646912) (by decide) ?_
  refine vp_callSl (va_Run.run (va_runS (As := [.int 4095, .long 4602678819172646912]) (rest := []) ⟨hx, hb, hml, hown, hts⟩ (c_lensOf1 l dC dI cI cJ cS   ) (va_cwS 2 hts gX8_countUnshown_X8_lensOf rfl rfl rfl (by decide +kernel) ⟨Nat.le_of_ble_eq_true rfl, Nat.le_of_ble_eq_true rfl⟩) (preR (hP.sub (ws' := []) [] rfl) hE) rfl rfl hl.1 rfl (lv_room (Nat.le_of_ble_eq_true rfl)) dX8_countUnshown_50 ⟨by decide +kernel, by decide +kernel⟩)) (fun r_5 hr_6 => ?_)
  obtain rfl := hr_6
  refine lv_lstore (lv' := [(8, .long 4611686018427387903), (6, .long 4611686018427387903), (5, .int 1), (4, .int 0), (0, .ref x5), (1, .int o), (2, .int 4095), (3, .int 4095)]) hx hb dX8_countUnshown_53 hl (by decide) rfl (fun ls hl => ?_)
  refine lv_aload_n hx hb dX8_countUnshown_55 rfl (lv_at hl 4 rfl) ?_
  refine va_get (D := (dC, dI)) (ci := 8) (v := .ref wt) (C := RX8) (T := TX8) (N := 17) hx hb hts hiX8 hown hK hP 0 rfl rfl 1 (by decide) (hts (.fieldLink RX8 21 "WatchedPrograms$Watch" "table" "LWatchedPrograms$HeapTable;") (by decide +kernel)) (fun _ h9 => h9) rfl dX8_countUnshown_56 ?_
  refine lv_iload hx hb dX8_countUnshown_59 (lv_at hl 2 rfl) ?_
  have hFc := va_free (wc := [(wt, .inr (1, [.ref ta, .ref tb, .ref tc, .ref td, .int 0, .int 0, .int 0])), (td, aI cI 8192 (fun _ => 0))]) hD hS hA [5, 6] rfl
  refine zCv (wr := [(x5, .inr (8, [.ref wm, .ref wt, .ref wv, .ref wk, .int 1, .ref we, .ref wf, .int 0, .ref p, .int g, .long 4611686018427387903, .int 4095, .int 0, .int 0, .int 0, .int 0, .int 0])), (wm, .inr (2, [.ref na, .ref nb, .int 0, .int 0, .int 0])), (p, .inr (4, [.ref ps, .ref pc, .int 0, .int 0, .int 0, .int 0])), (wv, aJ cJ 16384 (fun _ => 0)), (wk, aI cI 4096 (fun _ => 0)), (ta, aJ cJ 4096 (fun _ => 0)), (tb, aJ cJ 4096 (fun _ => 0)), (tc, aI cI 4096 (fun _ => 0))]) hP hD hS hFc [5, 6] [0, 1, 2, 3, 4, 7, 8, 9] rfl rfl (by decide) (by decide) (va_runV (As := [.int 1]) (rest := []) ⟨hx, hb, hml, hown, hts⟩ (c_tbegin l dC dI cI cJ cS ss_.heap.size wt ta tb tc td ) (cwV 1 hts gX8_countUnshown_X1_begin rfl rfl rfl (by decide +kernel) ⟨Nat.le_of_ble_eq_true rfl, Nat.le_of_ble_eq_true rfl⟩) (preEV (hP.sub (ws' := [(wt, .inr (1, [.ref ta, .ref tb, .ref tc, .ref td, .int 0, .int 0, .int 0])), (td, aI cI 8192 (fun _ => 0))]) [5, 6] rfl) hE (hD.sub (ws' := [(wt, .inr (1, [.ref ta, .ref tb, .ref tc, .ref td, .int 0, .int 0, .int 0])), (td, aI cI 8192 (fun _ => 0))]) [5, 6] (by decide) rfl) 0 (ci := 1) rfl rfl) rfl rfl hl.1 rfl (lv_room (Nat.le_of_ble_eq_true rfl)) dX8_countUnshown_61 ⟨by decide +kernel, by decide +kernel⟩) (fun u_9 H locs hr_8 hP hD hS => ?_)
  try dsimp only at hr_8
  have hP : va_P (dC, dI) vwCl [(x5, .inr (8, [.ref wm, .ref wt, .ref wv, .ref wk, .int 1, .ref we, .ref wf, .int 0, .ref p, .int g, .long 4611686018427387903, .int 4095, .int 0, .int 0, .int 0, .int 0, .int 0])), (wm, .inr (2, [.ref na, .ref nb, .int 0, .int 0, .int 0])), (p, .inr (4, [.ref ps, .ref pc, .int 0, .int 0, .int 0, .int 0])), (wv, aJ cJ 16384 (fun _ => 0)), (wk, aI cI 4096 (fun _ => 0)), (ta, aJ cJ 4096 (fun _ => 0)), (tb, aJ cJ 4096 (fun _ => 0)), (tc, aI cI 4096 (fun _ => 0)), (wt, .inr (1, [.ref ta, .ref tb, .ref tc, .ref td, .int 1, .int 0, .int 0])), (td, aI cI 8192 (upd (upd (fun _ => 0) 0 0) 1 0))] H := hP
  have hD : va_D A [(x5, .inr (8, [.ref wm, .ref wt, .ref wv, .ref wk, .int 1, .ref we, .ref wf, .int 0, .ref p, .int g, .long 4611686018427387903, .int 4095, .int 0, .int 0, .int 0, .int 0, .int 0])), (wm, .inr (2, [.ref na, .ref nb, .int 0, .int 0, .int 0])), (p, .inr (4, [.ref ps, .ref pc, .int 0, .int 0, .int 0, .int 0])), (wv, aJ cJ 16384 (fun _ => 0)), (wk, aI cI 4096 (fun _ => 0)), (ta, aJ cJ 4096 (fun _ => 0)), (tb, aJ cJ 4096 (fun _ => 0)), (tc, aI cI 4096 (fun _ => 0)), (wt, .inr (1, [.ref ta, .ref tb, .ref tc, .ref td, .int 1, .int 0, .int 0])), (td, aI cI 8192 (upd (upd (fun _ => 0) 0 0) 1 0))] := hD
  refine lv_iconst (v := 0) hx hb dX8_countUnshown_64 (by decide) ?_
  refine lv_istore (lv' := [(10, .int 0), (8, .long 4611686018427387903), (6, .long 4611686018427387903), (5, .int 1), (4, .int 0), (0, .ref x5), (1, .int o), (2, .int 4095), (3, .int 4095)]) hx hb dX8_countUnshown_65 hl (by decide) rfl (fun ls hl => ?_)
  refine lv_iconst (v := 0) hx hb dX8_countUnshown_67 (by decide) ?_
  refine lv_istore (lv' := [(11, .int 0), (10, .int 0), (8, .long 4611686018427387903), (6, .long 4611686018427387903), (5, .int 1), (4, .int 0), (0, .ref x5), (1, .int o), (2, .int 4095), (3, .int 4095)]) hx hb dX8_countUnshown_68 hl (by decide) rfl (fun ls hl => ?_)
  refine lv_iload hx hb dX8_countUnshown_70 (lv_at hl 0 rfl) ?_
  refine lv_iload hx hb dX8_countUnshown_72 (lv_at hl 4 rfl) ?_
  refine lv_icmp_ge (tgt := 125) hx hb dX8_countUnshown_74 (by decide) (fun c_10 => absurd c_10 (by decide)) (fun _ => ?_)
  refine lv_aload_n hx hb dX8_countUnshown_77 rfl (lv_at hl 6 rfl) ?_
  refine va_get (D := (dC, dI)) (ci := 8) (v := .ref wt) (C := RX8) (T := TX8) (N := 17) hx hb hts hiX8 hown hK hP 0 rfl rfl 1 (by decide) (hts (.fieldLink RX8 21 "WatchedPrograms$Watch" "table" "LWatchedPrograms$HeapTable;") (by decide +kernel)) (fun _ h9 => h9) rfl dX8_countUnshown_78 ?_
  refine lv_aload_n hx hb dX8_countUnshown_81 rfl (lv_at hl 6 rfl) ?_
  refine lv_iload_n hx hb dX8_countUnshown_82 rfl (lv_at hl 7 rfl) ?_
  refine lv_iload hx hb dX8_countUnshown_83 (lv_at hl 1 rfl) ?_
  refine lv_ior hx hb dX8_countUnshown_85 ?_
  refine zi (y := o) Int32.or_zero ?_
  refine lv_iconst (v := 1) hx hb dX8_countUnshown_86 (by decide) ?_
  refine lv_iconst (v := 0) hx hb dX8_countUnshown_87 (by decide) ?_
  have hFc := va_free (wc := [(x5, .inr (8, [.ref wm, .ref wt, .ref wv, .ref wk, .int 1, .ref we, .ref wf, .int 0, .ref p, .int g, .long 4611686018427387903, .int 4095, .int 0, .int 0, .int 0, .int 0, .int 0])), (wm, .inr (2, [.ref na, .ref nb, .int 0, .int 0, .int 0])), (p, .inr (4, [.ref ps, .ref pc, .int 0, .int 0, .int 0, .int 0])), (wv, aJ cJ 16384 (fun _ => 0)), (wk, aI cI 4096 (fun _ => 0))]) hD hS hA [0, 1, 2, 3, 4] rfl
  refine zCl (wr := [(ta, aJ cJ 4096 (fun _ => 0)), (tb, aJ cJ 4096 (fun _ => 0)), (tc, aI cI 4096 (fun _ => 0)), (wt, .inr (1, [.ref ta, .ref tb, .ref tc, .ref td, .int 1, .int 0, .int 0])), (td, aI cI 8192 (upd (upd (fun _ => 0) 0 0) 1 0))]) hP hD hS hFc [0, 1, 2, 3, 4] [5, 6, 7, 8, 9] rfl rfl (by decide) (by decide) (va_runV (As := [.int o, .int 1, .int 0]) (rest := [.ref wt]) ⟨hx, hb, hml, hown, hts⟩ (c_look1 l dC dI cI cJ cS H.size x5 o 1 wm wt wv wk we wf p g 4611686018427387903 0 0 na nb ps pc ) (cwV 3 hts gX8_countUnshown_X8_look rfl rfl rfl (by decide +kernel) ⟨Nat.le_of_ble_eq_true rfl, Nat.le_of_ble_eq_true rfl⟩) (preEV (hP.sub (ws' := [(x5, .inr (8, [.ref wm, .ref wt, .ref wv, .ref wk, .int 1, .ref we, .ref wf, .int 0, .ref p, .int g, .long 4611686018427387903, .int 4095, .int 0, .int 0, .int 0, .int 0, .int 0])), (wm, .inr (2, [.ref na, .ref nb, .int 0, .int 0, .int 0])), (p, .inr (4, [.ref ps, .ref pc, .int 0, .int 0, .int 0, .int 0])), (wv, aJ cJ 16384 (fun _ => 0)), (wk, aI cI 4096 (fun _ => 0))]) [0, 1, 2, 3, 4] rfl) hE (hD.sub (ws' := [(x5, .inr (8, [.ref wm, .ref wt, .ref wv, .ref wk, .int 1, .ref we, .ref wf, .int 0, .ref p, .int g, .long 4611686018427387903, .int 4095, .int 0, .int 0, .int 0, .int 0, .int 0])), (wm, .inr (2, [.ref na, .ref nb, .int 0, .int 0, .int 0])), (p, .inr (4, [.ref ps, .ref pc, .int 0, .int 0, .int 0, .int 0])), (wv, aJ cJ 16384 (fun _ => 0)), (wk, aI cI 4096 (fun _ => 0))]) [0, 1, 2, 3, 4] (by decide) rfl) 0 (ci := 8) rfl rfl) rfl rfl hl.1 rfl (lv_room (Nat.le_of_ble_eq_true rfl)) dX8_countUnshown_88 ⟨by decide +kernel, by decide +kernel⟩) (fun r_11 u_13 H locs hr_12 hP hD hS => ?_)
  try dsimp only at hr_12
  have hP : va_P (dC, dI) vwCl [(ta, aJ cJ 4096 (fun _ => 0)), (tb, aJ cJ 4096 (fun _ => 0)), (tc, aI cI 4096 (fun _ => 0)), (wt, .inr (1, [.ref ta, .ref tb, .ref tc, .ref td, .int 1, .int 0, .int 0])), (td, aI cI 8192 (upd (upd (fun _ => 0) 0 0) 1 0)), (x5, .inr (8, [.ref wm, .ref wt, .ref wv, .ref wk, .int 1, .ref we, .ref wf, .int 0, .ref p, .int g, .long 4611686018427387903, .int 4095, .int 0, .int 0, .int 0, .int 0, .int 0])), (wv, aJ cJ 16384 (vp_updL (vp_updL (vp_updL (vp_updL (fun _ => 0) 0 1) 4096 1) 8192 1) 12288 1)), (wk, aI cI 4096 (upd (fun _ => 0) 0 1)), (wm, .inr (2, [.ref na, .ref nb, .int 0, .int 0, .int 0])), (p, .inr (4, [.ref ps, .ref pc, .int 0, .int 0, .int 0, .int 0]))] H := hP
  have hD : va_D A [(ta, aJ cJ 4096 (fun _ => 0)), (tb, aJ cJ 4096 (fun _ => 0)), (tc, aI cI 4096 (fun _ => 0)), (wt, .inr (1, [.ref ta, .ref tb, .ref tc, .ref td, .int 1, .int 0, .int 0])), (td, aI cI 8192 (upd (upd (fun _ => 0) 0 0) 1 0)), (x5, .inr (8, [.ref wm, .ref wt, .ref wv, .ref wk, .int 1, .ref we, .ref wf, .int 0, .ref p, .int g, .long 4611686018427387903, .int 4095, .int 0, .int 0, .int 0, .int 0, .int 0])), (wv, aJ cJ 16384 (vp_updL (vp_updL (vp_updL (vp_updL (fun _ => 0) 0 1) 4096 1) 8192 1) 12288 1)), (wk, aI cI 4096 (upd (fun _ => 0) 0 1)), (wm, .inr (2, [.ref na, .ref nb, .int 0, .int 0, .int 0])), (p, .inr (4, [.ref ps, .ref pc, .int 0, .int 0, .int 0, .int 0]))] := hD
  obtain rfl := hr_12
  refine lv_lload hx hb dX8_countUnshown_91 (lv_at hl 3 rfl) ?_
  refine lv_land hx hb dX8_countUnshown_93 ?_
  refine zl (y := 1) (by decide) ?_
  refine lv_aload_n hx hb dX8_countUnshown_94 rfl (lv_at hl 6 rfl) ?_
  refine lv_iload_n hx hb dX8_countUnshown_95 rfl (lv_at hl 7 rfl) ?_
  refine lv_iload hx hb dX8_countUnshown_96 (lv_at hl 1 rfl) ?_
  refine lv_ior hx hb dX8_countUnshown_98 ?_
  refine zi (y := o) Int32.or_zero ?_
  refine lv_iconst (v := 2) hx hb dX8_countUnshown_99 (by decide) ?_
  refine lv_iconst (v := 0) hx hb dX8_countUnshown_100 (by decide) ?_
  have hFc := va_free (wc := [(x5, .inr (8, [.ref wm, .ref wt, .ref wv, .ref wk, .int 1, .ref we, .ref wf, .int 0, .ref p, .int g, .long 4611686018427387903, .int 4095, .int 0, .int 0, .int 0, .int 0, .int 0])), (wv, aJ cJ 16384 (vp_updL (vp_updL (vp_updL (vp_updL (fun _ => 0) 0 1) 4096 1) 8192 1) 12288 1)), (wk, aI cI 4096 (upd (fun _ => 0) 0 1)), (wm, .inr (2, [.ref na, .ref nb, .int 0, .int 0, .int 0])), (p, .inr (4, [.ref ps, .ref pc, .int 0, .int 0, .int 0, .int 0]))]) hD hS hA [5, 6, 7, 8, 9] rfl
  refine zCl (wr := [(ta, aJ cJ 4096 (fun _ => 0)), (tb, aJ cJ 4096 (fun _ => 0)), (tc, aI cI 4096 (fun _ => 0)), (wt, .inr (1, [.ref ta, .ref tb, .ref tc, .ref td, .int 1, .int 0, .int 0])), (td, aI cI 8192 (upd (upd (fun _ => 0) 0 0) 1 0))]) hP hD hS hFc [5, 6, 7, 8, 9] [0, 1, 2, 3, 4] rfl rfl (by decide) (by decide) (va_runV (As := [.int o, .int 2, .int 0]) (rest := [.long 1, .ref wt]) ⟨hx, hb, hml, hown, hts⟩ (c_look2 l dC dI cI cJ cS H.size x5 o 2 wm wt wv wk we wf p g 4611686018427387903 0 0 na nb ps pc ) (cwV 3 hts gX8_countUnshown_X8_look rfl rfl rfl (by decide +kernel) ⟨Nat.le_of_ble_eq_true rfl, Nat.le_of_ble_eq_true rfl⟩) (preEV (hP.sub (ws' := [(x5, .inr (8, [.ref wm, .ref wt, .ref wv, .ref wk, .int 1, .ref we, .ref wf, .int 0, .ref p, .int g, .long 4611686018427387903, .int 4095, .int 0, .int 0, .int 0, .int 0, .int 0])), (wv, aJ cJ 16384 (vp_updL (vp_updL (vp_updL (vp_updL (fun _ => 0) 0 1) 4096 1) 8192 1) 12288 1)), (wk, aI cI 4096 (upd (fun _ => 0) 0 1)), (wm, .inr (2, [.ref na, .ref nb, .int 0, .int 0, .int 0])), (p, .inr (4, [.ref ps, .ref pc, .int 0, .int 0, .int 0, .int 0]))]) [5, 6, 7, 8, 9] rfl) hE (hD.sub (ws' := [(x5, .inr (8, [.ref wm, .ref wt, .ref wv, .ref wk, .int 1, .ref we, .ref wf, .int 0, .ref p, .int g, .long 4611686018427387903, .int 4095, .int 0, .int 0, .int 0, .int 0, .int 0])), (wv, aJ cJ 16384 (vp_updL (vp_updL (vp_updL (vp_updL (fun _ => 0) 0 1) 4096 1) 8192 1) 12288 1)), (wk, aI cI 4096 (upd (fun _ => 0) 0 1)), (wm, .inr (2, [.ref na, .ref nb, .int 0, .int 0, .int 0])), (p, .inr (4, [.ref ps, .ref pc, .int 0, .int 0, .int 0, .int 0]))]) [5, 6, 7, 8, 9] (by decide) rfl) 0 (ci := 8) rfl rfl) rfl rfl hl.1 rfl (lv_room (Nat.le_of_ble_eq_true rfl)) dX8_countUnshown_101 ⟨by decide +kernel, by decide +kernel⟩) (fun r_14 u_16 H locs hr_15 hP hD hS => ?_)
  try dsimp only at hr_15
  have hP : va_P (dC, dI) vwCl [(ta, aJ cJ 4096 (fun _ => 0)), (tb, aJ cJ 4096 (fun _ => 0)), (tc, aI cI 4096 (fun _ => 0)), (wt, .inr (1, [.ref ta, .ref tb, .ref tc, .ref td, .int 1, .int 0, .int 0])), (td, aI cI 8192 (upd (upd (fun _ => 0) 0 0) 1 0)), (x5, .inr (8, [.ref wm, .ref wt, .ref wv, .ref wk, .int 1, .ref we, .ref wf, .int 0, .ref p, .int g, .long 4611686018427387903, .int 4095, .int 0, .int 0, .int 0, .int 0, .int 0])), (wv, aJ cJ 16384 (vp_updL (vp_updL (vp_updL (vp_updL (fun _ => 0) 0 1) 4096 1) 8192 1) 12288 1)), (wk, aI cI 4096 (upd (fun _ => 0) 0 1)), (wm, .inr (2, [.ref na, .ref nb, .int 0, .int 0, .int 0])), (p, .inr (4, [.ref ps, .ref pc, .int 0, .int 0, .int 0, .int 0]))] H := hP
  have hD : va_D A [(ta, aJ cJ 4096 (fun _ => 0)), (tb, aJ cJ 4096 (fun _ => 0)), (tc, aI cI 4096 (fun _ => 0)), (wt, .inr (1, [.ref ta, .ref tb, .ref tc, .ref td, .int 1, .int 0, .int 0])), (td, aI cI 8192 (upd (upd (fun _ => 0) 0 0) 1 0)), (x5, .inr (8, [.ref wm, .ref wt, .ref wv, .ref wk, .int 1, .ref we, .ref wf, .int 0, .ref p, .int g, .long 4611686018427387903, .int 4095, .int 0, .int 0, .int 0, .int 0, .int 0])), (wv, aJ cJ 16384 (vp_updL (vp_updL (vp_updL (vp_updL (fun _ => 0) 0 1) 4096 1) 8192 1) 12288 1)), (wk, aI cI 4096 (upd (fun _ => 0) 0 1)), (wm, .inr (2, [.ref na, .ref nb, .int 0, .int 0, .int 0])), (p, .inr (4, [.ref ps, .ref pc, .int 0, .int 0, .int 0, .int 0]))] := hD
  obtain rfl := hr_15
  refine lv_lload hx hb dX8_countUnshown_104 (lv_at hl 2 rfl) ?_
  refine lv_land hx hb dX8_countUnshown_106 ?_
  refine zl (y := 1) (by decide) ?_
  have hFc := va_free (wc := [(wt, .inr (1, [.ref ta, .ref tb, .ref tc, .ref td, .int 1, .int 0, .int 0])), (td, aI cI 8192 (upd (upd (fun _ => 0) 0 0) 1 0)), (ta, aJ cJ 4096 (fun _ => 0)), (tb, aJ cJ 4096 (fun _ => 0)), (tc, aI cI 4096 (fun _ => 0))]) hD hS hA [3, 4, 0, 1, 2] rfl
  refine zCv (wr := [(x5, .inr (8, [.ref wm, .ref wt, .ref wv, .ref wk, .int 1, .ref we, .ref wf, .int 0, .ref p, .int g, .long 4611686018427387903, .int 4095, .int 0, .int 0, .int 0, .int 0, .int 0])), (wv, aJ cJ 16384 (vp_updL (vp_updL (vp_updL (vp_updL (fun _ => 0) 0 1) 4096 1) 8192 1) 12288 1)), (wk, aI cI 4096 (upd (fun _ => 0) 0 1)), (wm, .inr (2, [.ref na, .ref nb, .int 0, .int 0, .int 0])), (p, .inr (4, [.ref ps, .ref pc, .int 0, .int 0, .int 0, .int 0]))]) hP hD hS hFc [3, 4, 0, 1, 2] [5, 6, 7, 8, 9] rfl rfl (by decide) (by decide) (va_runV (As := [.long 1, .long 1]) (rest := []) ⟨hx, hb, hml, hown, hts⟩ (c_tput1 l dC dI cI cJ cS H.size wt ta tb tc td ) (cwV 2 hts gX8_countUnshown_X1_put rfl rfl rfl (by decide +kernel) ⟨Nat.le_of_ble_eq_true rfl, Nat.le_of_ble_eq_true rfl⟩) (preEV (hP.sub (ws' := [(wt, .inr (1, [.ref ta, .ref tb, .ref tc, .ref td, .int 1, .int 0, .int 0])), (td, aI cI 8192 (upd (upd (fun _ => 0) 0 0) 1 0)), (ta, aJ cJ 4096 (fun _ => 0)), (tb, aJ cJ 4096 (fun _ => 0)), (tc, aI cI 4096 (fun _ => 0))]) [3, 4, 0, 1, 2] rfl) hE (hD.sub (ws' := [(wt, .inr (1, [.ref ta, .ref tb, .ref tc, .ref td, .int 1, .int 0, .int 0])), (td, aI cI 8192 (upd (upd (fun _ => 0) 0 0) 1 0)), (ta, aJ cJ 4096 (fun _ => 0)), (tb, aJ cJ 4096 (fun _ => 0)), (tc, aI cI 4096 (fun _ => 0))]) [3, 4, 0, 1, 2] (by decide) rfl) 0 (ci := 1) rfl rfl) rfl rfl hl.1 rfl (lv_room (Nat.le_of_ble_eq_true rfl)) dX8_countUnshown_107 ⟨by decide +kernel, by decide +kernel⟩) (fun u_19 H locs hr_18 hP hD hS => ?_)
  try dsimp only at hr_18
  have hP : va_P (dC, dI) vwCl [(x5, .inr (8, [.ref wm, .ref wt, .ref wv, .ref wk, .int 1, .ref we, .ref wf, .int 0, .ref p, .int g, .long 4611686018427387903, .int 4095, .int 0, .int 0, .int 0, .int 0, .int 0])), (wv, aJ cJ 16384 (vp_updL (vp_updL (vp_updL (vp_updL (fun _ => 0) 0 1) 4096 1) 8192 1) 12288 1)), (wk, aI cI 4096 (upd (fun _ => 0) 0 1)), (wm, .inr (2, [.ref na, .ref nb, .int 0, .int 0, .int 0])), (p, .inr (4, [.ref ps, .ref pc, .int 0, .int 0, .int 0, .int 0])), (td, aI cI 8192 (upd (upd (upd (fun _ => 0) 0 0) 1 0) 1 1)), (ta, aJ cJ 4096 (vp_updL (fun _ => 0) 0 1)), (tb, aJ cJ 4096 (vp_updL (fun _ => 0) 0 1)), (wt, .inr (1, [.ref ta, .ref tb, .ref tc, .ref td, .int 1, .int 1, .int 1])), (tc, aI cI 4096 (upd (upd (fun _ => 0) 0 0) 0 1))] H := hP
  have hD : va_D A [(x5, .inr (8, [.ref wm, .ref wt, .ref wv, .ref wk, .int 1, .ref we, .ref wf, .int 0, .ref p, .int g, .long 4611686018427387903, .int 4095, .int 0, .int 0, .int 0, .int 0, .int 0])), (wv, aJ cJ 16384 (vp_updL (vp_updL (vp_updL (vp_updL (fun _ => 0) 0 1) 4096 1) 8192 1) 12288 1)), (wk, aI cI 4096 (upd (fun _ => 0) 0 1)), (wm, .inr (2, [.ref na, .ref nb, .int 0, .int 0, .int 0])), (p, .inr (4, [.ref ps, .ref pc, .int 0, .int 0, .int 0, .int 0])), (td, aI cI 8192 (upd (upd (upd (fun _ => 0) 0 0) 1 0) 1 1)), (ta, aJ cJ 4096 (vp_updL (fun _ => 0) 0 1)), (tb, aJ cJ 4096 (vp_updL (fun _ => 0) 0 1)), (wt, .inr (1, [.ref ta, .ref tb, .ref tc, .ref td, .int 1, .int 1, .int 1])), (tc, aI cI 4096 (upd (upd (fun _ => 0) 0 0) 0 1))] := hD
  refine lv_iload hx hb dX8_countUnshown_110 (lv_at hl 1 rfl) ?_
  refine lv_iload hx hb dX8_countUnshown_112 (lv_at hl 5 rfl) ?_
  refine vp_callSi (va_Run.run (va_runSN (As := [.int 0, .int 0]) (rest := []) ⟨hx, hb, hml, hown, hts⟩ (c_following0 l dC dI cI cJ cS   ) ⟨va_cnB 2 hts gX8_countUnshown_X9_following_n88 rfl rfl rfl hE.2.2.2.2.2.2.2.2.2.2.2.2.1 (hts (.initialized RX9) (by decide +kernel)) (by decide +kernel) ⟨Nat.le_of_ble_eq_true rfl, Nat.le_of_ble_eq_true rfl⟩, (hts (.static yX9_following) (by decide +kernel)), trivial⟩ (preR (hP.sub (ws' := []) [] rfl) hE) rfl rfl hl.1 rfl (lv_room (Nat.le_of_ble_eq_true rfl)) dX8_countUnshown_114 ⟨by decide +kernel, by decide +kernel⟩)) (fun r_20 hr_21 => ?_)
  obtain rfl := hr_21
  refine lv_istore (lv' := [(10, .int 0), (11, .int 0), (8, .long 4611686018427387903), (6, .long 4611686018427387903), (5, .int 1), (4, .int 0), (0, .ref x5), (1, .int o), (2, .int 4095), (3, .int 4095)]) hx hb dX8_countUnshown_117 hl (by decide) rfl (fun ls hl => ?_)
  refine lv_iinc (v := 1) (lv' := [(11, .int 1), (10, .int 0), (8, .long 4611686018427387903), (6, .long 4611686018427387903), (5, .int 1), (4, .int 0), (0, .ref x5), (1, .int o), (2, .int 4095), (3, .int 4095)]) hx hb dX8_countUnshown_119 hl (k := 1) rfl (by decide) (by decide) rfl (fun ls hl => ?_)
  refine lv_goto (tgt := 70) hx hb dX8_countUnshown_122 (by decide) ?_
  refine lv_iload hx hb dX8_countUnshown_70 (lv_at hl 0 rfl) ?_
  refine lv_iload hx hb dX8_countUnshown_72 (lv_at hl 4 rfl) ?_
  refine lv_icmp_ge (tgt := 125) hx hb dX8_countUnshown_74 (by decide) (fun _ => ?_) (fun c_22 => absurd (by decide) c_22)
  refine lv_aload_n hx hb dX8_countUnshown_125 rfl (lv_at hl 6 rfl) ?_
  refine va_get (D := (dC, dI)) (ci := 8) (v := .ref wt) (C := RX8) (T := TX8) (N := 17) hx hb hts hiX8 hown hK hP 0 rfl rfl 1 (by decide) (hts (.fieldLink RX8 21 "WatchedPrograms$Watch" "table" "LWatchedPrograms$HeapTable;") (by decide +kernel)) (fun _ h9 => h9) rfl dX8_countUnshown_126 ?_
  refine va_get (D := (dC, dI)) (ci := 1) (v := .int 1) (C := RX1) (T := TX1) (N := 7) hx hb hts hiX1 hown hK hP 8 rfl rfl 5 (by decide) (hts (.fieldLink RX8 92 "WatchedPrograms$HeapTable" "many" "I") (by decide +kernel)) (fun _ h9 => h9) rfl dX8_countUnshown_129 ?_
  have hP9 := hP.sub (ws' := [(x5, .inr (8, [.ref wm, .ref wt, .ref wv, .ref wk, .int 1, .ref we, .ref wf, .int 0, .ref p, .int g, .long 4611686018427387903, .int 4095, .int 0, .int 0, .int 0, .int 0, .int 0])), (wv, aJ cJ 16384 (vp_updL (vp_updL (vp_updL (vp_updL (fun _ => 0) 0 1) 4096 1) 8192 1) 12288 1)), (wk, aI cI 4096 (upd (fun _ => 0) 0 1)), (wm, .inr (2, [.ref na, .ref nb, .int 0, .int 0, .int 0])), (p, .inr (4, [.ref ps, .ref pc, .int 0, .int 0, .int 0, .int 0])), (td, aI cI 8192 (upd (upd (upd (fun _ => 0) 0 0) 1 0) 1 1)), (ta, aJ cJ 4096 (vp_updL (fun _ => 0) 0 1)), (tb, aJ cJ 4096 (vp_updL (fun _ => 0) 0 1)), (wt, .inr (1, [.ref ta, .ref tb, .ref tc, .ref td, .int 1, .int 1, .int 1])), (tc, aI cI 4096 (upd (upd (fun _ => 0) 0 0) 0 1))]) [0, 1, 2, 3, 4, 5, 6, 7, 8, 9] rfl
  have hD9 := hD.sub (ws' := [(x5, .inr (8, [.ref wm, .ref wt, .ref wv, .ref wk, .int 1, .ref we, .ref wf, .int 0, .ref p, .int g, .long 4611686018427387903, .int 4095, .int 0, .int 0, .int 0, .int 0, .int 0])), (wv, aJ cJ 16384 (vp_updL (vp_updL (vp_updL (vp_updL (fun _ => 0) 0 1) 4096 1) 8192 1) 12288 1)), (wk, aI cI 4096 (upd (fun _ => 0) 0 1)), (wm, .inr (2, [.ref na, .ref nb, .int 0, .int 0, .int 0])), (p, .inr (4, [.ref ps, .ref pc, .int 0, .int 0, .int 0, .int 0])), (td, aI cI 8192 (upd (upd (upd (fun _ => 0) 0 0) 1 0) 1 1)), (ta, aJ cJ 4096 (vp_updL (fun _ => 0) 0 1)), (tb, aJ cJ 4096 (vp_updL (fun _ => 0) 0 1)), (wt, .inr (1, [.ref ta, .ref tb, .ref tc, .ref td, .int 1, .int 1, .int 1])), (tc, aI cI 4096 (upd (upd (fun _ => 0) 0 0) 0 1))]) [0, 1, 2, 3, 4, 5, 6, 7, 8, 9] (by decide) rfl
  exact W.iret (v := 1) hx hb hr (fun tt_ ht hW => ⟨⟨_, (), rfl, rfl, by rw [ht]; exact hP9, hD9⟩, hS.F ht⟩) hS.2.2 dX8_countUnshown_132
set_option maxHeartbeats 1000000 in
set_option maxRecDepth 100000 in
theorem c_countBoth1 (l : Launch) (dC : Nat → ClassId) (dI : Nat → Nat → Nat) (cI cJ cS : ClassId) (sz : Nat) (x5 : Nat) (o : Int32) (wm : Nat) (wt : Nat) (wv : Nat) (wk : Nat) (we : Nat) (wf : Nat) (p : Nat) (g : Int32) (na : Nat) (nb : Nat) (ps : Nat) (pc : Nat) (ta : Nat) (tb : Nat) (tc : Nat) (td : Nat)  : Met l yX8_countBoth wsX8_countBoth ({ frames := 5, cells := 0, slots := 0, locals := 114 }) (va_Pc [.ref x5, .int o, .int 4095, .int 4095] (PE dC dI cI cJ cS [(x5, .inr (8, [.ref wm, .ref wt, .ref wv, .ref wk, .int 1, .ref we, .ref wf, .int 0, .ref p, .int g, .long 4611686018427387903, .int 4095, .int 0, .int 0, .int 0, .int 0, .int 0])), (wm, .inr (2, [.ref na, .ref nb, .int 0, .int 0, .int 0])), (p, .inr (4, [.ref ps, .ref pc, .int 0, .int 0, .int 0, .int 0])), (wv, aJ cJ 16384 (fun _ => 0)), (wk, aI cI 4096 (fun _ => 0)), (wt, .inr (1, [.ref ta, .ref tb, .ref tc, .ref td, .int 0, .int 0, .int 0])), (td, aI cI 8192 (fun _ => 0)), (ta, aJ cJ 4096 (fun _ => 0)), (tb, aJ cJ 4096 (fun _ => 0)), (tc, aI cI 4096 (fun _ => 0))] sz)) (va_Qi (fun (r : Int32) (_ : Unit) => r = 1) (BE dC dI (va_A [(x5, .inr (8, [.ref wm, .ref wt, .ref wv, .ref wk, .int 1, .ref we, .ref wf, .int 0, .ref p, .int g, .long 4611686018427387903, .int 4095, .int 0, .int 0, .int 0, .int 0, .int 0])), (wm, .inr (2, [.ref na, .ref nb, .int 0, .int 0, .int 0])), (p, .inr (4, [.ref ps, .ref pc, .int 0, .int 0, .int 0, .int 0])), (wv, aJ cJ 16384 (fun _ => 0)), (wk, aI cI 4096 (fun _ => 0)), (wt, .inr (1, [.ref ta, .ref tb, .ref tc, .ref td, .int 0, .int 0, .int 0])), (td, aI cI 8192 (fun _ => 0)), (ta, aJ cJ 4096 (fun _ => 0)), (tb, aJ cJ 4096 (fun _ => 0)), (tc, aI cI 4096 (fun _ => 0))] sz) (fun (_ : Unit) => [(x5, .inr (8, [.ref wm, .ref wt, .ref wv, .ref wk, .int 1, .ref we, .ref wf, .int 0, .ref p, .int g, .long 4611686018427387903, .int 4095, .int 0, .int 0, .int 0, .int 0, .int 0])), (wv, aJ cJ 16384 (vp_updL (vp_updL (vp_updL (vp_updL (fun _ => 0) 0 1) 4096 1) 8192 1) 12288 1)), (wk, aI cI 4096 (upd (fun _ => 0) 0 1)), (wm, .inr (2, [.ref na, .ref nb, .int 0, .int 0, .int 0])), (p, .inr (4, [.ref ps, .ref pc, .int 0, .int 0, .int 0, .int 0])), (td, aI cI 8192 (upd (upd (upd (fun _ => 0) 0 0) 1 0) 1 1)), (ta, aJ cJ 4096 (vp_updL (fun _ => 0) 0 1)), (tb, aJ cJ 4096 (vp_updL (fun _ => 0) 0 1)), (wt, .inr (1, [.ref ta, .ref tb, .ref tc, .ref td, .int 1, .int 1, .int 1])), (tc, aI cI 4096 (upd (upd (fun _ => 0) 0 0) 0 1))])) (va_A [(x5, .inr (8, [.ref wm, .ref wt, .ref wv, .ref wk, .int 1, .ref we, .ref wf, .int 0, .ref p, .int g, .long 4611686018427387903, .int 4095, .int 0, .int 0, .int 0, .int 0, .int 0])), (wm, .inr (2, [.ref na, .ref nb, .int 0, .int 0, .int 0])), (p, .inr (4, [.ref ps, .ref pc, .int 0, .int 0, .int 0, .int 0])), (wv, aJ cJ 16384 (fun _ => 0)), (wk, aI cI 4096 (fun _ => 0)), (wt, .inr (1, [.ref ta, .ref tb, .ref tc, .ref td, .int 0, .int 0, .int 0])), (td, aI cI 8192 (fun _ => 0)), (ta, aJ cJ 4096 (fun _ => 0)), (tb, aJ cJ 4096 (fun _ => 0)), (tc, aI cI 4096 (fun _ => 0))] sz)) 0 0 (va_A [(x5, .inr (8, [.ref wm, .ref wt, .ref wv, .ref wk, .int 1, .ref we, .ref wf, .int 0, .ref p, .int g, .long 4611686018427387903, .int 4095, .int 0, .int 0, .int 0, .int 0, .int 0])), (wm, .inr (2, [.ref na, .ref nb, .int 0, .int 0, .int 0])), (p, .inr (4, [.ref ps, .ref pc, .int 0, .int 0, .int 0, .int 0])), (wv, aJ cJ 16384 (fun _ => 0)), (wk, aI cI 4096 (fun _ => 0)), (wt, .inr (1, [.ref ta, .ref tb, .ref tc, .ref td, .int 0, .int 0, .int 0])), (td, aI cI 8192 (fun _ => 0)), (ta, aJ cJ 4096 (fun _ => 0)), (tb, aJ cJ 4096 (fun _ => 0)), (tc, aI cI 4096 (fun _ => 0))] sz) := by
  refine Met.ofW (cc := cX8_countBoth) (maxL := 10) (ret := (some .int)) (by decide) rfl ?_
  intro pp_ ee_ ss_ mm_ args below meth cc_ s₁ B hml hv
  obtain ⟨rfl, hsz, hP, hE, hD0⟩ := hv
  have hx := B.exec
  have hb := B.bytes
  have hr := B.returns
  have hts := atoms_spec (ws := wsX8_countBoth) B.pre
  have hown : ss_.vm.findClass RX8 = some mm_.cls := findClass_of_methodNamed B.named
  have hlocks := B.notSynchronized
  have hK := hE.1
  have hiX4 : ∀ w ∈ wsX40, w ∈ wsX8_countBoth := by decide +kernel
  have hiX8 : ∀ w ∈ wsX80, w ∈ wsX8_countBoth := by decide +kernel
  subst hsz
  have hD := hD0.self (sz := ss_.heap.size)
  generalize hAe : va_A [(x5, .inr (8, [.ref wm, .ref wt, .ref wv, .ref wk, .int 1, .ref we, .ref wf, .int 0, .ref p, .int g, .long 4611686018427387903, .int 4095, .int 0, .int 0, .int 0, .int 0, .int 0])), (wm, .inr (2, [.ref na, .ref nb, .int 0, .int 0, .int 0])), (p, .inr (4, [.ref ps, .ref pc, .int 0, .int 0, .int 0, .int 0])), (wv, aJ cJ 16384 (fun _ => 0)), (wk, aI cI 4096 (fun _ => 0)), (wt, .inr (1, [.ref ta, .ref tb, .ref tc, .ref td, .int 0, .int 0, .int 0])), (td, aI cI 8192 (fun _ => 0)), (ta, aJ cJ 4096 (fun _ => 0)), (tb, aJ cJ 4096 (fun _ => 0)), (tc, aI cI 4096 (fun _ => 0))] ss_.heap.size = A at hD ⊢
  have hA : ∀ q : Nat, ss_.heap.size ≤ q → A q := fun q h => by rw [← hAe]; exact Or.inr h
  have hS : va_S A ss_.heap ss_.heap [] := va_S.rf
  have hP : va_P (dC, dI) vwCl [(x5, .inr (8, [.ref wm, .ref wt, .ref wv, .ref wk, .int 1, .ref we, .ref wf, .int 0, .ref p, .int g, .long 4611686018427387903, .int 4095, .int 0, .int 0, .int 0, .int 0, .int 0])), (wm, .inr (2, [.ref na, .ref nb, .int 0, .int 0, .int 0])), (p, .inr (4, [.ref ps, .ref pc, .int 0, .int 0, .int 0, .int 0])), (wv, aJ cJ 16384 (fun _ => 0)), (wk, aI cI 4096 (fun _ => 0)), (wt, .inr (1, [.ref ta, .ref tb, .ref tc, .ref td, .int 0, .int 0, .int 0])), (td, aI cI 8192 (fun _ => 0)), (ta, aJ cJ 4096 (fun _ => 0)), (tb, aJ cJ 4096 (fun _ => 0)), (tc, aI cI 4096 (fun _ => 0))] ss_.heap := hP
  have hl := lv_entry ([.ref x5, .int o, .int 4095, .int 4095]) (n := 10) (Nat.le_of_ble_eq_true rfl)
  rw [lg_entry_eq]
  generalize (lg_sl ([.ref x5, .int o, .int 4095, .int 4095]) ++ List.replicate (10 - (lg_sl ([.ref x5, .int o, .int 4095, .int 4095])).length) Slot.unset).toArray = ls at hl ⊢
  have hl : lv_has ls 10 [(0, .ref x5), (1, .int o), (2, .int 4095), (3, .int 4095)] := hl
  refine lv_iload_n hx hb dX8_countBoth_0 rfl (lv_at hl 2 rfl) ?_
  refine lv_iload_n hx hb dX8_countBoth_1 rfl (lv_at hl 3 rfl) ?_
  refine lv_ior hx hb dX8_countBoth_2 ?_
  refine zi (y := 4095) (by decide) ?_
  refine lv_aload_n hx hb dX8_countBoth_3 rfl (lv_at hl 0 rfl) ?_
  refine va_get (D := (dC, dI)) (ci := 8) (v := .int 0) (C := RX8) (T := TX8) (N := 17) hx hb hts hiX8 hown hK hP 0 rfl rfl 12 (by decide) (hts (.fieldLink RX8 56 "WatchedPrograms$Watch" "secretCells" "I") (by decide +kernel)) (fun _ h9 => h9) rfl dX8_countBoth_4 ?_
  refine lv_iand hx hb dX8_countBoth_7 ?_
  refine zi (y := 0) (by decide) ?_
  refine lv_istore (lv' := [(4, .int 0), (0, .ref x5), (1, .int o), (2, .int 4095), (3, .int 4095)]) hx hb dX8_countBoth_8 hl (by decide) rfl (fun ls hl => ?_)
  refine lv_iload hx hb dX8_countBoth_10 (lv_at hl 0 rfl) ?_
  refine lv_aload_n hx hb dX8_countBoth_12 rfl (lv_at hl 1 rfl) ?_
  refine va_get (D := (dC, dI)) (ci := 8) (v := .ref p) (C := RX8) (T := TX8) (N := 17) hx hb hts hiX8 hown hK hP 0 rfl rfl 8 (by decide) (hts (.fieldLink RX8 46 "WatchedPrograms$Watch" "program" "LWatchedPrograms$Program;") (by decide +kernel)) (fun _ h9 => h9) rfl dX8_countBoth_13 ?_
  refine va_get (D := (dC, dI)) (ci := 4) (v := .int 0) (C := RX4) (T := TX4) (N := 6) hx hb hts hiX4 hown hK hP 2 rfl rfl 5 (by decide) (hts (.fieldLink RX8 69 "WatchedPrograms$Program" "used" "I") (by decide +kernel)) (fun _ h9 => h9) rfl dX8_countBoth_16 ?_
  refine lv_iand hx hb dX8_countBoth_19 ?_
  refine zi (y := 0) (by decide) ?_
  refine lv_istore (lv' := [(5, .int 0), (4, .int 0), (0, .ref x5), (1, .int o), (2, .int 4095), (3, .int 4095)]) hx hb dX8_countBoth_20 hl (by decide) rfl (fun ls hl => ?_)
  refine lv_iload hx hb dX8_countBoth_22 (lv_at hl 0 rfl) ?_
  refine vp_callSi (va_Run.run (va_runSN (As := [.int 0]) (rest := []) ⟨hx, hb, hml, hown, hts⟩ (c_nOf0 l dC dI cI cJ cS   ) ⟨va_cnB 1 hts gX8_countBoth_X9_numbersOf_n72 rfl rfl rfl hE.2.2.2.2.2.2.2.2.2.2.1 (hts (.initialized RX9) (by decide +kernel)) (by decide +kernel) ⟨Nat.le_of_ble_eq_true rfl, Nat.le_of_ble_eq_true rfl⟩, (hts (.static yX9_numbersOf) (by decide +kernel)), trivial⟩ (preR (hP.sub (ws' := []) [] rfl) hE) rfl rfl hl.1 rfl (lv_room (Nat.le_of_ble_eq_true rfl)) dX8_countBoth_24 ⟨by decide +kernel, by decide +kernel⟩)) (fun r_1 hr_2 => ?_)
  obtain rfl := hr_2
  refine lv_istore (lv' := [(6, .int 1), (5, .int 0), (4, .int 0), (0, .ref x5), (1, .int o), (2, .int 4095), (3, .int 4095)]) hx hb dX8_countBoth_27 hl (by decide) rfl (fun ls hl => ?_)
  refine lv_iconst (v := 0) hx hb dX8_countBoth_29 (by decide) ?_
  refine lv_istore (lv' := [(7, .int 0), (6, .int 1), (5, .int 0), (4, .int 0), (0, .ref x5), (1, .int o), (2, .int 4095), (3, .int 4095)]) hx hb dX8_countBoth_30 hl (by decide) rfl (fun ls hl => ?_)
  refine lv_iconst (v := 0) hx hb dX8_countBoth_32 (by decide) ?_
  refine lv_istore (lv' := [(8, .int 0), (7, .int 0), (6, .int 1), (5, .int 0), (4, .int 0), (0, .ref x5), (1, .int o), (2, .int 4095), (3, .int 4095)]) hx hb dX8_countBoth_33 hl (by decide) rfl (fun ls hl => ?_)
  refine lv_iconst (v := 0) hx hb dX8_countBoth_35 (by decide) ?_
  refine lv_istore (lv' := [(9, .int 0), (8, .int 0), (7, .int 0), (6, .int 1), (5, .int 0), (4, .int 0), (0, .ref x5), (1, .int o), (2, .int 4095), (3, .int 4095)]) hx hb dX8_countBoth_36 hl (by decide) rfl (fun ls hl => ?_)
  refine lv_iload hx hb dX8_countBoth_38 (lv_at hl 0 rfl) ?_
  refine lv_iload hx hb dX8_countBoth_40 (lv_at hl 3 rfl) ?_
  refine lv_icmp_ge (tgt := 75) hx hb dX8_countBoth_42 (by decide) (fun c_3 => absurd c_3 (by decide)) (fun _ => ?_)
  refine lv_iload hx hb dX8_countBoth_45 (lv_at hl 1 rfl) ?_
  refine lv_aload_n hx hb dX8_countBoth_47 rfl (lv_at hl 6 rfl) ?_
  refine lv_iload_n hx hb dX8_countBoth_48 rfl (lv_at hl 7 rfl) ?_
  refine lv_iload hx hb dX8_countBoth_49 (lv_at hl 2 rfl) ?_
  refine lv_ior hx hb dX8_countBoth_51 ?_
  refine zi (y := o) Int32.or_zero ?_
  refine lv_iload_n hx hb dX8_countBoth_52 rfl (lv_at hl 8 rfl) ?_
  refine lv_iload_n hx hb dX8_countBoth_53 rfl (lv_at hl 9 rfl) ?_
  have hFc := va_free (wc := [(x5, .inr (8, [.ref wm, .ref wt, .ref wv, .ref wk, .int 1, .ref we, .ref wf, .int 0, .ref p, .int g, .long 4611686018427387903, .int 4095, .int 0, .int 0, .int 0, .int 0, .int 0])), (wm, .inr (2, [.ref na, .ref nb, .int 0, .int 0, .int 0])), (p, .inr (4, [.ref ps, .ref pc, .int 0, .int 0, .int 0, .int 0])), (wv, aJ cJ 16384 (fun _ => 0)), (wk, aI cI 4096 (fun _ => 0)), (wt, .inr (1, [.ref ta, .ref tb, .ref tc, .ref td, .int 0, .int 0, .int 0])), (td, aI cI 8192 (fun _ => 0)), (ta, aJ cJ 4096 (fun _ => 0)), (tb, aJ cJ 4096 (fun _ => 0)), (tc, aI cI 4096 (fun _ => 0))]) hD hS hA [0, 1, 2, 3, 4, 5, 6, 7, 8, 9] rfl
  refine zCi (wr := []) hP hD hS hFc [0, 1, 2, 3, 4, 5, 6, 7, 8, 9] [] rfl rfl (by decide) (by decide) (va_runV (As := [.int o, .int 4095, .int 4095]) (rest := [.int 0]) ⟨hx, hb, hml, hown, hts⟩ (c_countUnshown1 l dC dI cI cJ cS ss_.heap.size x5 o wm wt wv wk we wf p g na nb ps pc ta tb tc td ) (cwV 3 hts gX8_countBoth_X8_countUnshown rfl rfl rfl (by decide +kernel) ⟨Nat.le_of_ble_eq_true rfl, Nat.le_of_ble_eq_true rfl⟩) (preEV (hP.sub (ws' := [(x5, .inr (8, [.ref wm, .ref wt, .ref wv, .ref wk, .int 1, .ref we, .ref wf, .int 0, .ref p, .int g, .long 4611686018427387903, .int 4095, .int 0, .int 0, .int 0, .int 0, .int 0])), (wm, .inr (2, [.ref na, .ref nb, .int 0, .int 0, .int 0])), (p, .inr (4, [.ref ps, .ref pc, .int 0, .int 0, .int 0, .int 0])), (wv, aJ cJ 16384 (fun _ => 0)), (wk, aI cI 4096 (fun _ => 0)), (wt, .inr (1, [.ref ta, .ref tb, .ref tc, .ref td, .int 0, .int 0, .int 0])), (td, aI cI 8192 (fun _ => 0)), (ta, aJ cJ 4096 (fun _ => 0)), (tb, aJ cJ 4096 (fun _ => 0)), (tc, aI cI 4096 (fun _ => 0))]) [0, 1, 2, 3, 4, 5, 6, 7, 8, 9] rfl) hE (hD.sub (ws' := [(x5, .inr (8, [.ref wm, .ref wt, .ref wv, .ref wk, .int 1, .ref we, .ref wf, .int 0, .ref p, .int g, .long 4611686018427387903, .int 4095, .int 0, .int 0, .int 0, .int 0, .int 0])), (wm, .inr (2, [.ref na, .ref nb, .int 0, .int 0, .int 0])), (p, .inr (4, [.ref ps, .ref pc, .int 0, .int 0, .int 0, .int 0])), (wv, aJ cJ 16384 (fun _ => 0)), (wk, aI cI 4096 (fun _ => 0)), (wt, .inr (1, [.ref ta, .ref tb, .ref tc, .ref td, .int 0, .int 0, .int 0])), (td, aI cI 8192 (fun _ => 0)), (ta, aJ cJ 4096 (fun _ => 0)), (tb, aJ cJ 4096 (fun _ => 0)), (tc, aI cI 4096 (fun _ => 0))]) [0, 1, 2, 3, 4, 5, 6, 7, 8, 9] (by decide) rfl) 0 (ci := 8) rfl rfl) rfl rfl hl.1 rfl (lv_room (Nat.le_of_ble_eq_true rfl)) dX8_countBoth_54 ⟨by decide +kernel, by decide +kernel⟩) (fun r_4 u_6 H locs hr_5 hP hD hS => ?_)
  try dsimp only at hr_5
  have hP : va_P (dC, dI) vwCl [(x5, .inr (8, [.ref wm, .ref wt, .ref wv, .ref wk, .int 1, .ref we, .ref wf, .int 0, .ref p, .int g, .long 4611686018427387903, .int 4095, .int 0, .int 0, .int 0, .int 0, .int 0])), (wv, aJ cJ 16384 (vp_updL (vp_updL (vp_updL (vp_updL (fun _ => 0) 0 1) 4096 1) 8192 1) 12288 1)), (wk, aI cI 4096 (upd (fun _ => 0) 0 1)), (wm, .inr (2, [.ref na, .ref nb, .int 0, .int 0, .int 0])), (p, .inr (4, [.ref ps, .ref pc, .int 0, .int 0, .int 0, .int 0])), (td, aI cI 8192 (upd (upd (upd (fun _ => 0) 0 0) 1 0) 1 1)), (ta, aJ cJ 4096 (vp_updL (fun _ => 0) 0 1)), (tb, aJ cJ 4096 (vp_updL (fun _ => 0) 0 1)), (wt, .inr (1, [.ref ta, .ref tb, .ref tc, .ref td, .int 1, .int 1, .int 1])), (tc, aI cI 4096 (upd (upd (fun _ => 0) 0 0) 0 1))] H := hP
  have hD : va_D A [(x5, .inr (8, [.ref wm, .ref wt, .ref wv, .ref wk, .int 1, .ref we, .ref wf, .int 0, .ref p, .int g, .long 4611686018427387903, .int 4095, .int 0, .int 0, .int 0, .int 0, .int 0])), (wv, aJ cJ 16384 (vp_updL (vp_updL (vp_updL (vp_updL (fun _ => 0) 0 1) 4096 1) 8192 1) 12288 1)), (wk, aI cI 4096 (upd (fun _ => 0) 0 1)), (wm, .inr (2, [.ref na, .ref nb, .int 0, .int 0, .int 0])), (p, .inr (4, [.ref ps, .ref pc, .int 0, .int 0, .int 0, .int 0])), (td, aI cI 8192 (upd (upd (upd (fun _ => 0) 0 0) 1 0) 1 1)), (ta, aJ cJ 4096 (vp_updL (fun _ => 0) 0 1)), (tb, aJ cJ 4096 (vp_updL (fun _ => 0) 0 1)), (wt, .inr (1, [.ref ta, .ref tb, .ref tc, .ref td, .int 1, .int 1, .int 1])), (tc, aI cI 4096 (upd (upd (fun _ => 0) 0 0) 0 1))] := hD
  obtain rfl := hr_5
  refine lv_iadd hx hb dX8_countBoth_57 ?_
  refine zi (y := 1) (by decide) ?_
  refine lv_istore (lv' := [(8, .int 1), (9, .int 0), (7, .int 0), (6, .int 1), (5, .int 0), (4, .int 0), (0, .ref x5), (1, .int o), (2, .int 4095), (3, .int 4095)]) hx hb dX8_countBoth_58 hl (by decide) rfl (fun ls hl => ?_)
  refine lv_iload hx hb dX8_countBoth_60 (lv_at hl 2 rfl) ?_
  refine lv_iload hx hb dX8_countBoth_62 (lv_at hl 4 rfl) ?_
  refine vp_callSi (va_Run.run (va_runSN (As := [.int 0, .int 0]) (rest := []) ⟨hx, hb, hml, hown, hts⟩ (c_following0 l dC dI cI cJ cS   ) ⟨va_cnB 2 hts gX8_countBoth_X9_following_n88 rfl rfl rfl hE.2.2.2.2.2.2.2.2.2.2.2.2.1 (hts (.initialized RX9) (by decide +kernel)) (by decide +kernel) ⟨Nat.le_of_ble_eq_true rfl, Nat.le_of_ble_eq_true rfl⟩, (hts (.static yX9_following) (by decide +kernel)), trivial⟩ (preR (hP.sub (ws' := []) [] rfl) hE) rfl rfl hl.1 rfl (lv_room (Nat.le_of_ble_eq_true rfl)) dX8_countBoth_64 ⟨by decide +kernel, by decide +kernel⟩)) (fun r_7 hr_8 => ?_)
  obtain rfl := hr_8
  refine lv_istore (lv' := [(7, .int 0), (8, .int 1), (9, .int 0), (6, .int 1), (5, .int 0), (4, .int 0), (0, .ref x5), (1, .int o), (2, .int 4095), (3, .int 4095)]) hx hb dX8_countBoth_67 hl (by decide) rfl (fun ls hl => ?_)
  refine lv_iinc (v := 1) (lv' := [(9, .int 1), (7, .int 0), (8, .int 1), (6, .int 1), (5, .int 0), (4, .int 0), (0, .ref x5), (1, .int o), (2, .int 4095), (3, .int 4095)]) hx hb dX8_countBoth_69 hl (k := 2) rfl (by decide) (by decide) rfl (fun ls hl => ?_)
  refine lv_goto (tgt := 38) hx hb dX8_countBoth_72 (by decide) ?_
  refine lv_iload hx hb dX8_countBoth_38 (lv_at hl 0 rfl) ?_
  refine lv_iload hx hb dX8_countBoth_40 (lv_at hl 3 rfl) ?_
  refine lv_icmp_ge (tgt := 75) hx hb dX8_countBoth_42 (by decide) (fun _ => ?_) (fun c_9 => absurd (by decide) c_9)
  refine lv_iload hx hb dX8_countBoth_75 (lv_at hl 2 rfl) ?_
  refine lv_iload hx hb dX8_countBoth_77 (lv_at hl 5 rfl) ?_
  refine lv_aload_n hx hb dX8_countBoth_79 rfl (lv_at hl 6 rfl) ?_
  refine va_get (D := (dC, dI)) (ci := 8) (v := .ref p) (C := RX8) (T := TX8) (N := 17) hx hb hts hiX8 hown hK hP 0 rfl rfl 8 (by decide) (hts (.fieldLink RX8 46 "WatchedPrograms$Watch" "program" "LWatchedPrograms$Program;") (by decide +kernel)) (fun _ h9 => h9) rfl dX8_countBoth_80 ?_
  refine va_get (D := (dC, dI)) (ci := 4) (v := .int 0) (C := RX4) (T := TX4) (N := 6) hx hb hts hiX4 hown hK hP 4 rfl rfl 5 (by decide) (hts (.fieldLink RX8 69 "WatchedPrograms$Program" "used" "I") (by decide +kernel)) (fun _ h9 => h9) rfl dX8_countBoth_83 ?_
  refine lv_iconst (v := (-1)) hx hb dX8_countBoth_86 (by decide) ?_
  refine lv_ixor hx hb dX8_countBoth_87 ?_
  refine zi (y := (-1)) (by decide) ?_
  refine lv_iand hx hb dX8_countBoth_88 ?_
  refine zi (y := 0) (by decide) ?_
  refine vp_callSi (va_Run.run (va_runSN (As := [.int 0]) (rest := [.int 1]) ⟨hx, hb, hml, hown, hts⟩ (c_nOf0 l dC dI cI cJ cS   ) ⟨va_cnB 1 hts gX8_countBoth_X9_numbersOf_n72 rfl rfl rfl hE.2.2.2.2.2.2.2.2.2.2.1 (hts (.initialized RX9) (by decide +kernel)) (by decide +kernel) ⟨Nat.le_of_ble_eq_true rfl, Nat.le_of_ble_eq_true rfl⟩, (hts (.static yX9_numbersOf) (by decide +kernel)), trivial⟩ (preR (hP.sub (ws' := []) [] rfl) hE) rfl rfl hl.1 rfl (lv_room (Nat.le_of_ble_eq_true rfl)) dX8_countBoth_89 ⟨by decide +kernel, by decide +kernel⟩)) (fun r_10 hr_11 => ?_)
  obtain rfl := hr_11
  refine lv_imul hx hb dX8_countBoth_92 ?_
  refine zi (y := 1) (by decide) ?_
  have hP9 := hP.sub (ws' := [(x5, .inr (8, [.ref wm, .ref wt, .ref wv, .ref wk, .int 1, .ref we, .ref wf, .int 0, .ref p, .int g, .long 4611686018427387903, .int 4095, .int 0, .int 0, .int 0, .int 0, .int 0])), (wv, aJ cJ 16384 (vp_updL (vp_updL (vp_updL (vp_updL (fun _ => 0) 0 1) 4096 1) 8192 1) 12288 1)), (wk, aI cI 4096 (upd (fun _ => 0) 0 1)), (wm, .inr (2, [.ref na, .ref nb, .int 0, .int 0, .int 0])), (p, .inr (4, [.ref ps, .ref pc, .int 0, .int 0, .int 0, .int 0])), (td, aI cI 8192 (upd (upd (upd (fun _ => 0) 0 0) 1 0) 1 1)), (ta, aJ cJ 4096 (vp_updL (fun _ => 0) 0 1)), (tb, aJ cJ 4096 (vp_updL (fun _ => 0) 0 1)), (wt, .inr (1, [.ref ta, .ref tb, .ref tc, .ref td, .int 1, .int 1, .int 1])), (tc, aI cI 4096 (upd (upd (fun _ => 0) 0 0) 0 1))]) [0, 1, 2, 3, 4, 5, 6, 7, 8, 9] rfl
  have hD9 := hD.sub (ws' := [(x5, .inr (8, [.ref wm, .ref wt, .ref wv, .ref wk, .int 1, .ref we, .ref wf, .int 0, .ref p, .int g, .long 4611686018427387903, .int 4095, .int 0, .int 0, .int 0, .int 0, .int 0])), (wv, aJ cJ 16384 (vp_updL (vp_updL (vp_updL (vp_updL (fun _ => 0) 0 1) 4096 1) 8192 1) 12288 1)), (wk, aI cI 4096 (upd (fun _ => 0) 0 1)), (wm, .inr (2, [.ref na, .ref nb, .int 0, .int 0, .int 0])), (p, .inr (4, [.ref ps, .ref pc, .int 0, .int 0, .int 0, .int 0])), (td, aI cI 8192 (upd (upd (upd (fun _ => 0) 0 0) 1 0) 1 1)), (ta, aJ cJ 4096 (vp_updL (fun _ => 0) 0 1)), (tb, aJ cJ 4096 (vp_updL (fun _ => 0) 0 1)), (wt, .inr (1, [.ref ta, .ref tb, .ref tc, .ref td, .int 1, .int 1, .int 1])), (tc, aI cI 4096 (upd (upd (fun _ => 0) 0 0) 0 1))]) [0, 1, 2, 3, 4, 5, 6, 7, 8, 9] (by decide) rfl
  exact W.iret (v := 1) hx hb hr (fun tt_ ht hW => ⟨⟨_, (), rfl, rfl, by rw [ht]; exact hP9, hD9⟩, hS.F ht⟩) hS.2.2 dX8_countBoth_93
set_option maxHeartbeats 1000000 in
set_option maxRecDepth 100000 in
theorem c_safeWithout1 (l : Launch) (dC : Nat → ClassId) (dI : Nat → Nat → Nat) (cI cJ cS : ClassId) (x5 : Nat) (wm : Nat) (wt : Nat) (wv : Nat) (wk : Nat) (we : Nat) (wf : Nat) (p : Nat) (g : Int32) (ps : Nat) (pc : Nat)  : Met l yX8_isSafeWithout wsX8_isSafeWithout ({ frames := 3, cells := 0, slots := 0, locals := 69 }) (va_Pc [.ref x5, .int 0] (PR dC dI cI cJ cS [(x5, .inr (8, [.ref wm, .ref wt, .ref wv, .ref wk, .int 1, .ref we, .ref wf, .int 0, .ref p, .int g, .long 4611686018427387903, .int 4095, .int 0, .int 0, .int 0, .int 0, .int 0])), (p, .inr (4, [.ref ps, .ref pc, .int 0, .int 0, .int 0, .int 0]))])) (vp_Si (fun r : Int32 => r = 1)) 0 0 (fun _ => False) := by
  refine Met.ofW (cc := cX8_isSafeWithout) (maxL := 6) (ret := (some .boolean)) (by decide) rfl ?_
  intro pp_ ee_ ss_ mm_ args below meth cc_ s₁ B hml hv
  obtain ⟨rfl, hP, hE⟩ := hv
  have hx := B.exec
  have hb := B.bytes
  have hr := B.returns
  have hts := atoms_spec (ws := wsX8_isSafeWithout) B.pre
  have hown : ss_.vm.findClass RX8 = some mm_.cls := findClass_of_methodNamed B.named
  have hlocks := B.notSynchronized
  have hK := hE.1
  have hiX8 : ∀ w ∈ wsX80, w ∈ wsX8_isSafeWithout := by decide +kernel
  have hP : va_P (dC, dI) vwCl [(x5, .inr (8, [.ref wm, .ref wt, .ref wv, .ref wk, .int 1, .ref we, .ref wf, .int 0, .ref p, .int g, .long 4611686018427387903, .int 4095, .int 0, .int 0, .int 0, .int 0, .int 0])), (p, .inr (4, [.ref ps, .ref pc, .int 0, .int 0, .int 0, .int 0]))] ss_.heap := hP
  have hl := lv_entry ([.ref x5, .int 0]) (n := 6) (Nat.le_of_ble_eq_true rfl)
  rw [lg_entry_eq]
  generalize (lg_sl ([.ref x5, .int 0]) ++ List.replicate (6 - (lg_sl ([.ref x5, .int 0])).length) Slot.unset).toArray = ls at hl ⊢
  have hl : lv_has ls 6 [(0, .ref x5), (1, .int 0)] := hl
  refine lv_iconst (v := 0) hx hb dX8_isSafeWithout_0 (by decide) ?_
  refine lv_istore_n (lv' := [(2, .int 0), (0, .ref x5), (1, .int 0)]) hx hb dX8_isSafeWithout_1 rfl hl (by decide) rfl (fun ls hl => ?_)
  refine lv_iload_n hx hb dX8_isSafeWithout_2 rfl (lv_at hl 0 rfl) ?_
  refine lv_aload_n hx hb dX8_isSafeWithout_3 rfl (lv_at hl 1 rfl) ?_
  refine va_get (D := (dC, dI)) (ci := 8) (v := .int 0) (C := RX8) (T := TX8) (N := 17) hx hb hts hiX8 hown hK hP 0 rfl rfl 7 (by decide) (hts (.fieldLink RX8 129 "WatchedPrograms$Watch" "telltales" "I") (by decide +kernel)) (fun _ h9 => h9) rfl dX8_isSafeWithout_4 ?_
  refine lv_icmp_ge (tgt := 77) hx hb dX8_isSafeWithout_7 (by decide) (fun _ => ?_) (fun c_1 => absurd (by decide) c_1)
  refine lv_aload_n hx hb dX8_isSafeWithout_77 rfl (lv_at hl 1 rfl) ?_
  refine lv_iload_n hx hb dX8_isSafeWithout_78 rfl (lv_at hl 2 rfl) ?_
  refine vp_callSi (va_Run.run (va_runV (As := [.int 0]) (rest := []) ⟨hx, hb, hml, hown, hts⟩ (c_findPair1 l dC dI cI cJ cS  x5 wm wt wv wk we wf p g ps pc ) (cwV 1 hts gX8_isSafeWithout_X8_findPair rfl rfl rfl (by decide +kernel) ⟨Nat.le_of_ble_eq_true rfl, Nat.le_of_ble_eq_true rfl⟩) (preRV (hP.sub (ws' := [(x5, .inr (8, [.ref wm, .ref wt, .ref wv, .ref wk, .int 1, .ref we, .ref wf, .int 0, .ref p, .int g, .long 4611686018427387903, .int 4095, .int 0, .int 0, .int 0, .int 0, .int 0])), (p, .inr (4, [.ref ps, .ref pc, .int 0, .int 0, .int 0, .int 0]))]) [0, 1] rfl) hE 0 (ci := 8) rfl rfl) rfl rfl hl.1 rfl (lv_room (Nat.le_of_ble_eq_true rfl)) dX8_isSafeWithout_79 ⟨by decide +kernel, by decide +kernel⟩)) (fun r_2 hr_3 => ?_)
  obtain rfl := hr_3
  refine lv_if_ne (tgt := 87) hx hb dX8_isSafeWithout_82 (by decide) (fun c_4 => absurd (by decide) c_4) (fun _ => ?_)
  refine lv_iconst (v := 1) hx hb dX8_isSafeWithout_85 (by decide) ?_
  exact W.zret (v := 1) hx hb hr (by decide) (fun tt_ ht hW => ⟨_, rfl, rfl, ht⟩) (fun _ h => by cases h) dX8_isSafeWithout_86
set_option maxHeartbeats 1000000 in
set_option maxRecDepth 100000 in
theorem c_fewest1 (l : Launch) (dC : Nat → ClassId) (dI : Nat → Nat → Nat) (cI cJ cS : ClassId) (sz : Nat) (x5 : Nat) (wm : Nat) (wt : Nat) (wv : Nat) (wk : Nat) (we : Nat) (wf : Nat) (p : Nat) (g : Int32) (ps : Nat) (pc : Nat)  : Met l yX8_fewestStopped wsX8_fewestStopped ({ frames := 4, cells := 0, slots := 0, locals := 94 }) (va_Pc [.ref x5] (PE dC dI cI cJ cS [(x5, .inr (8, [.ref wm, .ref wt, .ref wv, .ref wk, .int 1, .ref we, .ref wf, .int 0, .ref p, .int g, .long 4611686018427387903, .int 4095, .int 0, .int 0, .int 0, .int 0, .int 0])), (p, .inr (4, [.ref ps, .ref pc, .int 0, .int 0, .int 0, .int 0]))] sz)) (va_Qi (fun (r : Int32) (_ : Unit) => r = 0) (BE dC dI (va_A [(x5, .inr (8, [.ref wm, .ref wt, .ref wv, .ref wk, .int 1, .ref we, .ref wf, .int 0, .ref p, .int g, .long 4611686018427387903, .int 4095, .int 0, .int 0, .int 0, .int 0, .int 0])), (p, .inr (4, [.ref ps, .ref pc, .int 0, .int 0, .int 0, .int 0]))] sz) (fun (_ : Unit) => [(x5, .inr (8, [.ref wm, .ref wt, .ref wv, .ref wk, .int 1, .ref we, .ref wf, .int 0, .ref p, .int g, .long 4611686018427387903, .int 4095, .int 0, .int 0, .int 0, .int 0, .int 0])), (p, .inr (4, [.ref ps, .ref pc, .int 0, .int 0, .int 0, .int 0]))])) (va_A [(x5, .inr (8, [.ref wm, .ref wt, .ref wv, .ref wk, .int 1, .ref we, .ref wf, .int 0, .ref p, .int g, .long 4611686018427387903, .int 4095, .int 0, .int 0, .int 0, .int 0, .int 0])), (p, .inr (4, [.ref ps, .ref pc, .int 0, .int 0, .int 0, .int 0]))] sz)) 0 0 (va_A [(x5, .inr (8, [.ref wm, .ref wt, .ref wv, .ref wk, .int 1, .ref we, .ref wf, .int 0, .ref p, .int g, .long 4611686018427387903, .int 4095, .int 0, .int 0, .int 0, .int 0, .int 0])), (p, .inr (4, [.ref ps, .ref pc, .int 0, .int 0, .int 0, .int 0]))] sz) := by
  refine Met.ofW (cc := cX8_fewestStopped) (maxL := 4) (ret := (some .int)) (by decide) rfl ?_
  intro pp_ ee_ ss_ mm_ args below meth cc_ s₁ B hml hv
  obtain ⟨rfl, hsz, hP, hE, hD0⟩ := hv
  have hx := B.exec
  have hb := B.bytes
  have hr := B.returns
  have hts := atoms_spec (ws := wsX8_fewestStopped) B.pre
  have hown : ss_.vm.findClass RX8 = some mm_.cls := findClass_of_methodNamed B.named
  have hlocks := B.notSynchronized
  have hK := hE.1
  have hiX4 : ∀ w ∈ wsX40, w ∈ wsX8_fewestStopped := by decide +kernel
  have hiX8 : ∀ w ∈ wsX80, w ∈ wsX8_fewestStopped := by decide +kernel
  subst hsz
  have hD := hD0.self (sz := ss_.heap.size)
  generalize hAe : va_A [(x5, .inr (8, [.ref wm, .ref wt, .ref wv, .ref wk, .int 1, .ref we, .ref wf, .int 0, .ref p, .int g, .long 4611686018427387903, .int 4095, .int 0, .int 0, .int 0, .int 0, .int 0])), (p, .inr (4, [.ref ps, .ref pc, .int 0, .int 0, .int 0, .int 0]))] ss_.heap.size = A at hD ⊢
  have hA : ∀ q : Nat, ss_.heap.size ≤ q → A q := fun q h => by rw [← hAe]; exact Or.inr h
  have hS : va_S A ss_.heap ss_.heap [] := va_S.rf
  have hP : va_P (dC, dI) vwCl [(x5, .inr (8, [.ref wm, .ref wt, .ref wv, .ref wk, .int 1, .ref we, .ref wf, .int 0, .ref p, .int g, .long 4611686018427387903, .int 4095, .int 0, .int 0, .int 0, .int 0, .int 0])), (p, .inr (4, [.ref ps, .ref pc, .int 0, .int 0, .int 0, .int 0]))] ss_.heap := hP
  have hl := lv_entry ([.ref x5]) (n := 4) (Nat.le_of_ble_eq_true rfl)
  rw [lg_entry_eq]
  generalize (lg_sl ([.ref x5]) ++ List.replicate (4 - (lg_sl ([.ref x5])).length) Slot.unset).toArray = ls at hl ⊢
  have hl : lv_has ls 4 [(0, .ref x5)] := hl
  refine lv_aload_n hx hb dX8_fewestStopped_0 rfl (lv_at hl 0 rfl) ?_
  refine va_get (D := (dC, dI)) (ci := 8) (v := .ref p) (C := RX8) (T := TX8) (N := 17) hx hb hts hiX8 hown hK hP 0 rfl rfl 8 (by decide) (hts (.fieldLink RX8 46 "WatchedPrograms$Watch" "program" "LWatchedPrograms$Program;") (by decide +kernel)) (fun _ h9 => h9) rfl dX8_fewestStopped_1 ?_
  refine va_get (D := (dC, dI)) (ci := 4) (v := .int 0) (C := RX4) (T := TX4) (N := 6) hx hb hts hiX4 hown hK hP 1 rfl rfl 4 (by decide) (hts (.fieldLink RX8 121 "WatchedPrograms$Program" "outs" "I") (by decide +kernel)) (fun _ h9 => h9) rfl dX8_fewestStopped_4 ?_
  refine lv_bipush (v := 8) hx hb dX8_fewestStopped_7 (by decide) ?_
  refine va_mmin hx hb (hml.trans hl.1.symm) hown (hts (.methodLink RX8 124 Lib.Math.min.name) (by decide +kernel)) (hts (.static Lib.Math.min.name) (by decide +kernel)) (hts (.initialized "java/lang/Math") (by decide +kernel)) (hts (.code Lib.Math.min.name Lib.Math.min.code 2 (some .int)) (by decide +kernel)) (Nat.le_of_ble_eq_true rfl) (Nat.le_of_ble_eq_true rfl) (Nat.le_of_ble_eq_true rfl) (Nat.le_of_ble_eq_true rfl) dX8_fewestStopped_9 ?_
  refine zi (y := 0) (by decide) ?_
  refine lv_istore_n (lv' := [(1, .int 0), (0, .ref x5)]) hx hb dX8_fewestStopped_12 rfl hl (by decide) rfl (fun ls hl => ?_)
  refine lv_aload_n hx hb dX8_fewestStopped_13 rfl (lv_at hl 1 rfl) ?_
  refine lv_iconst (v := 0) hx hb dX8_fewestStopped_14 (by decide) ?_
  refine va_put (D := (dC, dI)) (ci := 8) (v := .int 0) (ty := .int) (C := RX8) (T := TX8) (N := 17) hx hb hts hiX8 tyX8 tyX8_ok nmX8 hown hK hP hD hS 0 rfl rfl 7 (by decide) (hts (.fieldLink RX8 129 "WatchedPrograms$Watch" "telltales" "I") (by decide +kernel)) (fun _ h9 => h9) rfl (by decide +kernel) rfl rfl (Nat.le_of_ble_eq_true rfl) dX8_fewestStopped_15 (fun H locs hP hD hS => ?_)
  have hP : va_P (dC, dI) vwCl [(x5, .inr (8, [.ref wm, .ref wt, .ref wv, .ref wk, .int 1, .ref we, .ref wf, .int 0, .ref p, .int g, .long 4611686018427387903, .int 4095, .int 0, .int 0, .int 0, .int 0, .int 0])), (p, .inr (4, [.ref ps, .ref pc, .int 0, .int 0, .int 0, .int 0]))] H := hP
  have hD : va_D A [(x5, .inr (8, [.ref wm, .ref wt, .ref wv, .ref wk, .int 1, .ref we, .ref wf, .int 0, .ref p, .int g, .long 4611686018427387903, .int 4095, .int 0, .int 0, .int 0, .int 0, .int 0])), (p, .inr (4, [.ref ps, .ref pc, .int 0, .int 0, .int 0, .int 0]))] := hD
  refine lv_iconst (v := 0) hx hb dX8_fewestStopped_18 (by decide) ?_
  refine lv_istore_n (lv' := [(2, .int 0), (1, .int 0), (0, .ref x5)]) hx hb dX8_fewestStopped_19 rfl hl (by decide) rfl (fun ls hl => ?_)
  refine lv_iload_n hx hb dX8_fewestStopped_20 rfl (lv_at hl 0 rfl) ?_
  refine lv_iload_n hx hb dX8_fewestStopped_21 rfl (lv_at hl 1 rfl) ?_
  refine lv_icmp_gt (tgt := 64) hx hb dX8_fewestStopped_22 (by decide) (fun c_1 => absurd c_1 (by decide)) (fun _ => ?_)
  refine lv_iconst (v := 0) hx hb dX8_fewestStopped_25 (by decide) ?_
  refine lv_istore_n (lv' := [(3, .int 0), (2, .int 0), (1, .int 0), (0, .ref x5)]) hx hb dX8_fewestStopped_26 rfl hl (by decide) rfl (fun ls hl => ?_)
  refine lv_iload_n hx hb dX8_fewestStopped_27 rfl (lv_at hl 0 rfl) ?_
  refine lv_iconst (v := 1) hx hb dX8_fewestStopped_28 (by decide) ?_
  refine lv_iload_n hx hb dX8_fewestStopped_29 rfl (lv_at hl 2 rfl) ?_
  refine lv_ishl hx hb dX8_fewestStopped_30 ?_
  refine zi (y := 1) (by decide) ?_
  refine lv_icmp_ge (tgt := 58) hx hb dX8_fewestStopped_31 (by decide) (fun c_2 => absurd c_2 (by decide)) (fun _ => ?_)
  refine lv_iload_n hx hb dX8_fewestStopped_34 rfl (lv_at hl 0 rfl) ?_
  refine vp_callSi (va_Run.run (va_runS (As := [.int 0]) (rest := []) ⟨hx, hb, hml, hown, hts⟩ (c_bc0 l dC dI cI cJ cS   ) (va_cwS 1 hts gX8_fewestStopped_J6_bitCount_0f7a4 rfl rfl rfl (by decide +kernel) ⟨Nat.le_of_ble_eq_true rfl, Nat.le_of_ble_eq_true rfl⟩) (preR (hP.sub (ws' := []) [] rfl) hE) rfl rfl hl.1 rfl (lv_room (Nat.le_of_ble_eq_true rfl)) dX8_fewestStopped_35 ⟨by decide +kernel, by decide +kernel⟩)) (fun r_3 hr_4 => ?_)
  obtain rfl := hr_4
  refine lv_iload_n hx hb dX8_fewestStopped_38 rfl (lv_at hl 1 rfl) ?_
  refine lv_icmp_ne (tgt := 52) hx hb dX8_fewestStopped_39 (by decide) (fun c_5 => absurd (by decide) c_5) (fun _ => ?_)
  refine lv_aload_n hx hb dX8_fewestStopped_42 rfl (lv_at hl 3 rfl) ?_
  refine lv_iload_n hx hb dX8_fewestStopped_43 rfl (lv_at hl 0 rfl) ?_
  refine vp_callSi (va_Run.run (va_runV (As := [.int 0]) (rest := []) ⟨hx, hb, hml, hown, hts⟩ (c_safeWithout1 l dC dI cI cJ cS  x5 wm wt wv wk we wf p g ps pc ) (cwV 1 hts gX8_fewestStopped_X8_isSafeWithout rfl rfl rfl (by decide +kernel) ⟨Nat.le_of_ble_eq_true rfl, Nat.le_of_ble_eq_true rfl⟩) (preRV (hP.sub (ws' := [(x5, .inr (8, [.ref wm, .ref wt, .ref wv, .ref wk, .int 1, .ref we, .ref wf, .int 0, .ref p, .int g, .long 4611686018427387903, .int 4095, .int 0, .int 0, .int 0, .int 0, .int 0])), (p, .inr (4, [.ref ps, .ref pc, .int 0, .int 0, .int 0, .int 0]))]) [0, 1] rfl) hE 0 (ci := 8) rfl rfl) rfl rfl hl.1 rfl (lv_room (Nat.le_of_ble_eq_true rfl)) dX8_fewestStopped_44 ⟨by decide +kernel, by decide +kernel⟩)) (fun r_6 hr_7 => ?_)
  obtain rfl := hr_7
  refine lv_if_eq (tgt := 52) hx hb dX8_fewestStopped_47 (by decide) (fun c_8 => absurd c_8 (by decide)) (fun _ => ?_)
  refine lv_iload_n hx hb dX8_fewestStopped_50 rfl (lv_at hl 0 rfl) ?_
  have hP9 := hP.sub (ws' := [(x5, .inr (8, [.ref wm, .ref wt, .ref wv, .ref wk, .int 1, .ref we, .ref wf, .int 0, .ref p, .int g, .long 4611686018427387903, .int 4095, .int 0, .int 0, .int 0, .int 0, .int 0])), (p, .inr (4, [.ref ps, .ref pc, .int 0, .int 0, .int 0, .int 0]))]) [0, 1] rfl
  have hD9 := hD.sub (ws' := [(x5, .inr (8, [.ref wm, .ref wt, .ref wv, .ref wk, .int 1, .ref we, .ref wf, .int 0, .ref p, .int g, .long 4611686018427387903, .int 4095, .int 0, .int 0, .int 0, .int 0, .int 0])), (p, .inr (4, [.ref ps, .ref pc, .int 0, .int 0, .int 0, .int 0]))]) [0, 1] (by decide) rfl
  exact W.iret (v := 0) hx hb hr (fun tt_ ht hW => ⟨⟨_, (), rfl, rfl, by rw [ht]; exact hP9, hD9⟩, hS.F ht⟩) hS.2.2 dX8_fewestStopped_51
