def B_m_in_0 (K : Nat)  (rec : Nat → Int32 → Int32 → Int32 → Option (Int32)) (l0 : Int32) (l1 : Int32) (l2 : Int32) : Option (Int32) := if l0 < l1 then (rec 1 l0 l1 l2) else (if l2 < l0 then (rec 1 l0 l1 l2) else (some (1)))
def B_m_in_1 (K : Nat)  (rec : Nat → Int32 → Int32 → Int32 → Option (Int32)) (l0 : Int32) (l1 : Int32) (l2 : Int32) : Option (Int32) := some (0)
def L_m_in (K : Nat)  : Nat → Nat → Int32 → Int32 → Int32 → Option (Int32)
  | 0 => fun _ _ _ _ => none
  | n + 1 => fun c l0 l1 l2 => if c = 0 then B_m_in_0 K  (L_m_in K  n) l0 l1 l2 else if c = 1 then B_m_in_1 K  (L_m_in K  n) l0 l1 l2 else none
def F_m_in (K : Nat) (l0 : Int32) (l1 : Int32) (l2 : Int32)  : Option (Int32) := L_m_in K K 0 l0 l1 l2
set_option maxHeartbeats 2000000 in
set_option maxRecDepth 100000 in
theorem c_m_in (l : Launch) (dC : Nat → ClassId) (dI : Nat → Nat → Nat) (cI cJ cS : ClassId) (sz K : Nat) (p1 : Int32) (p2 : Int32) (p3 : Int32) (r : Int32) (hF : F_m_in K p1 p2 p3 = some (r)) : Met l yX10_in wsX10_in ({ frames := 0, cells := 0, slots := 0, locals := 0 }) (va_Pc [.int p1, .int p2, .int p3] (PE dC dI cI cJ cS [] sz)) (va_Qi (fun (r_ : Int32) (_ : Unit) => r_ = r) (BE dC dI (va_A [] sz) (fun _ => [])) (va_A [] sz)) 0 0 (va_A [] sz) := by
  refine Met.ofW (cc := cX10_in) (maxL := 3) (ret := (some .boolean)) (by decide) rfl ?_
  intro pp_ ee_ ss_ mm_ args below meth cc_ s₁ B hml hv
  obtain ⟨rfl, hsz, hP, hE, hD0⟩ := hv
  have hx := B.exec
  have hb := B.bytes
  have hr := B.returns
  have hts := atoms_spec (ws := wsX10_in) B.pre
  have hown : ss_.vm.findClass RX10 = some mm_.cls := findClass_of_methodNamed B.named
  have hlocks := B.notSynchronized
  have hK := hE.1
  subst hsz
  have hD := hD0.self (sz := ss_.heap.size)
  generalize hAe : va_A [] ss_.heap.size = A at hD ⊢
  have hA : ∀ q : Nat, ss_.heap.size ≤ q → A q := fun q h => by rw [← hAe]; exact Or.inr h
  have hS : va_S A ss_.heap ss_.heap [] := va_S.rf
  have hl := lv_entry ([.int p1, .int p2, .int p3]) (n := 3) (Nat.le_of_ble_eq_true rfl)
  rw [lg_entry_eq]
  generalize (lg_sl ([.int p1, .int p2, .int p3]) ++ List.replicate (3 - (lg_sl ([.int p1, .int p2, .int p3])).length) Slot.unset).toArray = ls at hl ⊢
  have hl : lv_has ls 3 [(0, .int p1), (1, .int p2), (2, .int p3)] := hl
  have key : ∀ n : Nat, (∀ (l0 : Int32) (l1 : Int32) (l2 : Int32) (r : Int32), L_m_in K  n 0 l0 l1 l2 = some (r) → ∀ (H : Heap) (locs : List Loc), va_P (dC, dI) vwCl [] H → va_D A [] → va_S A ss_.heap H locs → ∀ ls : Array Slot, lv_has ls 3 [(0, .int l0), (1, .int l1), (2, .int l2)] → W pp_ l ee_ (headSpec wsX10_in ({ frames := 0, cells := 0, slots := 0, locals := 0 })).room ss_ mm_ #[.int p1, .int p2, .int p3] below meth cc_ H locs 0 0 (MQ below (va_Qi (fun (r_ : Int32) (_ : Unit) => r_ = r) (BE dC dI A (fun _ => [])) A) #[.int p1, .int p2, .int p3] ss_ 0 0 A) (F0 mm_ 0 ls [])) ∧ (∀ (l0 : Int32) (l1 : Int32) (l2 : Int32) (r : Int32), L_m_in K  n 1 l0 l1 l2 = some (r) → ∀ (H : Heap) (locs : List Loc), va_P (dC, dI) vwCl [] H → va_D A [] → va_S A ss_.heap H locs → ∀ ls : Array Slot, lv_has ls 3 [(0, .int l0), (1, .int l1), (2, .int l2)] → W pp_ l ee_ (headSpec wsX10_in ({ frames := 0, cells := 0, slots := 0, locals := 0 })).room ss_ mm_ #[.int p1, .int p2, .int p3] below meth cc_ H locs 0 0 (MQ below (va_Qi (fun (r_ : Int32) (_ : Unit) => r_ = r) (BE dC dI A (fun _ => [])) A) #[.int p1, .int p2, .int p3] ss_ 0 0 A) (F0 mm_ 14 ls [])) := by
    intro n
    induction n with
    | zero => exact ⟨(fun _ _ _ _ hF => absurd hF (fun e => by cases e)), (fun _ _ _ _ hF => absurd hF (fun e => by cases e))⟩
    | succ n ih =>
      refine ⟨?_, ?_⟩
      · intro l0 l1 l2 r hB H locs hP hD hS ls hl
        change B_m_in_0 K  (L_m_in K  n) l0 l1 l2 = some (r) at hB
        unfold B_m_in_0 at hB
        refine lv_iload_n hx hb dX10_in_0 rfl (lv_at hl 0 rfl) ?_
        refine lv_iload_n hx hb dX10_in_1 rfl (lv_at hl 1 rfl) ?_
        refine lv_icmp_lt (tgt := 14) hx hb dX10_in_2 (by decide) (fun c_1 => ?_) (fun c_1 => ?_)
        · rw [if_pos c_1] at hB
          exact ih.2 l0 l1 l2 _ hB _ _ (hP.sub (ws' := []) [] rfl) (hD.sub (ws' := []) [] (by decide) rfl) hS ls (lv_sub hl [0, 1, 2] rfl)
        · rw [if_neg c_1] at hB
          refine lv_iload_n hx hb dX10_in_5 rfl (lv_at hl 0 rfl) ?_
          refine lv_iload_n hx hb dX10_in_6 rfl (lv_at hl 2 rfl) ?_
          refine lv_icmp_gt (tgt := 14) hx hb dX10_in_7 (by decide) (fun c_2 => ?_) (fun c_2 => ?_)
          · rw [if_pos c_2] at hB
            exact ih.2 l0 l1 l2 _ hB _ _ (hP.sub (ws' := []) [] rfl) (hD.sub (ws' := []) [] (by decide) rfl) hS ls (lv_sub hl [0, 1, 2] rfl)
          · rw [if_neg c_2] at hB
            refine lv_iconst (v := 1) hx hb dX10_in_10 (by decide) ?_
            refine lv_goto (tgt := 15) hx hb dX10_in_11 (by decide) ?_
            cases hB
            have hP9 := (hP.sub (ws' := []) [] rfl)
            have hD9 := (hD.sub (ws' := []) [] (by decide) rfl)
            exact W.zret (v := 1) hx hb hr (by decide) (fun tt_ ht hW => ⟨⟨_, (), rfl, rfl, by rw [ht]; exact hP9, hD9⟩, hS.F ht⟩) hS.2.2 dX10_in_15
      · intro l0 l1 l2 r hB H locs hP hD hS ls hl
        change B_m_in_1 K  (L_m_in K  n) l0 l1 l2 = some (r) at hB
        unfold B_m_in_1 at hB
        refine lv_iconst (v := 0) hx hb dX10_in_14 (by decide) ?_
        cases hB
        have hP9 := (hP.sub (ws' := []) [] rfl)
        have hD9 := (hD.sub (ws' := []) [] (by decide) rfl)
        exact W.zret (v := 0) hx hb hr (by decide) (fun tt_ ht hW => ⟨⟨_, (), rfl, rfl, by rw [ht]; exact hP9, hD9⟩, hS.F ht⟩) hS.2.2 dX10_in_15
  exact (key K).1 p1 p2 p3 r hF _ _ hP hD hS ls hl
def B_m_isWithin_0 (K : Nat)  (rec : Nat → Int32 → Int32 → Option (Int32)) (l0 : Int32) (l1 : Int32) : Option (Int32) := if (l0 &&& (l1 ^^^ (-1))) = 0 then (some (1)) else (some (0))
def L_m_isWithin (K : Nat)  : Nat → Nat → Int32 → Int32 → Option (Int32)
  | 0 => fun _ _ _ => none
  | n + 1 => fun c l0 l1 => if c = 0 then B_m_isWithin_0 K  (L_m_isWithin K  n) l0 l1 else none
def F_m_isWithin (K : Nat) (l0 : Int32) (l1 : Int32)  : Option (Int32) := L_m_isWithin K K 0 l0 l1
set_option maxHeartbeats 2000000 in
set_option maxRecDepth 100000 in
theorem c_m_isWithin (l : Launch) (dC : Nat → ClassId) (dI : Nat → Nat → Nat) (cI cJ cS : ClassId) (sz K : Nat) (p1 : Int32) (p2 : Int32) (r : Int32) (hF : F_m_isWithin K p1 p2 = some (r)) : Met l yX10_isWithin wsX10_isWithin ({ frames := 0, cells := 0, slots := 0, locals := 0 }) (va_Pc [.int p1, .int p2] (PE dC dI cI cJ cS [] sz)) (va_Qi (fun (r_ : Int32) (_ : Unit) => r_ = r) (BE dC dI (va_A [] sz) (fun _ => [])) (va_A [] sz)) 0 0 (va_A [] sz) := by
  refine Met.ofW (cc := cX10_isWithin) (maxL := 2) (ret := (some .boolean)) (by decide) rfl ?_
  intro pp_ ee_ ss_ mm_ args below meth cc_ s₁ B hml hv
  obtain ⟨rfl, hsz, hP, hE, hD0⟩ := hv
  have hx := B.exec
  have hb := B.bytes
  have hr := B.returns
  have hts := atoms_spec (ws := wsX10_isWithin) B.pre
  have hown : ss_.vm.findClass RX10 = some mm_.cls := findClass_of_methodNamed B.named
  have hlocks := B.notSynchronized
  have hK := hE.1
  subst hsz
  have hD := hD0.self (sz := ss_.heap.size)
  generalize hAe : va_A [] ss_.heap.size = A at hD ⊢
  have hA : ∀ q : Nat, ss_.heap.size ≤ q → A q := fun q h => by rw [← hAe]; exact Or.inr h
  have hS : va_S A ss_.heap ss_.heap [] := va_S.rf
  have hl := lv_entry ([.int p1, .int p2]) (n := 2) (Nat.le_of_ble_eq_true rfl)
  rw [lg_entry_eq]
  generalize (lg_sl ([.int p1, .int p2]) ++ List.replicate (2 - (lg_sl ([.int p1, .int p2])).length) Slot.unset).toArray = ls at hl ⊢
  have hl : lv_has ls 2 [(0, .int p1), (1, .int p2)] := hl
  have key : ∀ n : Nat, (∀ (l0 : Int32) (l1 : Int32) (r : Int32), L_m_isWithin K  n 0 l0 l1 = some (r) → ∀ (H : Heap) (locs : List Loc), va_P (dC, dI) vwCl [] H → va_D A [] → va_S A ss_.heap H locs → ∀ ls : Array Slot, lv_has ls 2 [(0, .int l0), (1, .int l1)] → W pp_ l ee_ (headSpec wsX10_isWithin ({ frames := 0, cells := 0, slots := 0, locals := 0 })).room ss_ mm_ #[.int p1, .int p2] below meth cc_ H locs 0 0 (MQ below (va_Qi (fun (r_ : Int32) (_ : Unit) => r_ = r) (BE dC dI A (fun _ => [])) A) #[.int p1, .int p2] ss_ 0 0 A) (F0 mm_ 0 ls [])) := by
    intro n
    induction n with
    | zero => exact fun _ _ _ hF => absurd hF (fun e => by cases e)
    | succ n ih =>
      intro l0 l1 r hB H locs hP hD hS ls hl
      change B_m_isWithin_0 K  (L_m_isWithin K  n) l0 l1 = some (r) at hB
      unfold B_m_isWithin_0 at hB
      refine lv_iload_n hx hb dX10_isWithin_0 rfl (lv_at hl 0 rfl) ?_
      refine lv_iload_n hx hb dX10_isWithin_1 rfl (lv_at hl 1 rfl) ?_
      refine lv_iconst (v := (-1)) hx hb dX10_isWithin_2 (by decide) ?_
      refine lv_ixor hx hb dX10_isWithin_3 ?_
      refine lv_iand hx hb dX10_isWithin_4 ?_
      refine lv_if_ne (tgt := 12) hx hb dX10_isWithin_5 (by decide) (fun c_1 => ?_) (fun c_1 => ?_)
      · rw [if_neg c_1] at hB
        refine lv_iconst (v := 0) hx hb dX10_isWithin_12 (by decide) ?_
        cases hB
        have hP9 := (hP.sub (ws' := []) [] rfl)
        have hD9 := (hD.sub (ws' := []) [] (by decide) rfl)
        exact W.zret (v := 0) hx hb hr (by decide) (fun tt_ ht hW => ⟨⟨_, (), rfl, rfl, by rw [ht]; exact hP9, hD9⟩, hS.F ht⟩) hS.2.2 dX10_isWithin_13
      · rw [if_pos c_1] at hB
        refine lv_iconst (v := 1) hx hb dX10_isWithin_8 (by decide) ?_
        refine lv_goto (tgt := 13) hx hb dX10_isWithin_9 (by decide) ?_
        cases hB
        have hP9 := (hP.sub (ws' := []) [] rfl)
        have hD9 := (hD.sub (ws' := []) [] (by decide) rfl)
        exact W.zret (v := 1) hx hb hr (by decide) (fun tt_ ht hW => ⟨⟨_, (), rfl, rfl, by rw [ht]; exact hP9, hD9⟩, hS.F ht⟩) hS.2.2 dX10_isWithin_13
  exact (key K) p1 p2 r hF _ _ hP hD hS ls hl
def B_m_level_0 (K : Nat)  (rec : Nat → Int32 → Int32 → Int32 → (Nat → Int32) → Option (Int32 × Int32 × (Nat → Int32))) (l1 : Int32) (l2 : Int32) (ithrown : Int32) (alev : Nat → Int32) : Option (Int32 × Int32 × (Nat → Int32)) := (F_m_in K l1 0 5).bind (fun o_1 => if o_1 = 0 then (rec 1 l1 l2 0 alev) else ((F_m_in K l2 0 3).bind (fun o_7 => if o_7 = 0 then (rec 1 l1 l2 0 alev) else (if okIx l1 6 = true then (if okIx l1 6 = true then (some ((alev (l1).toNatClampNeg), 0, (upd alev (l1).toNatClampNeg l2))) else none) else none))))
def B_m_level_1 (K : Nat)  (rec : Nat → Int32 → Int32 → Int32 → (Nat → Int32) → Option (Int32 × Int32 × (Nat → Int32))) (l1 : Int32) (l2 : Int32) (ithrown : Int32) (alev : Nat → Int32) : Option (Int32 × Int32 × (Nat → Int32)) := some ((-1), ithrown, alev)
def L_m_level (K : Nat)  : Nat → Nat → Int32 → Int32 → Int32 → (Nat → Int32) → Option (Int32 × Int32 × (Nat → Int32))
  | 0 => fun _ _ _ _ _ => none
  | n + 1 => fun c l1 l2 ithrown alev => if c = 0 then B_m_level_0 K  (L_m_level K  n) l1 l2 ithrown alev else if c = 1 then B_m_level_1 K  (L_m_level K  n) l1 l2 ithrown alev else none
def F_m_level (K : Nat) (l1 : Int32) (l2 : Int32) (ithrown : Int32) (alev : Nat → Int32) : Option (Int32 × Int32 × (Nat → Int32)) := L_m_level K K 0 l1 l2 ithrown alev
set_option maxHeartbeats 2000000 in
set_option maxRecDepth 100000 in
theorem c_m_level (l : Launch) (dC : Nat → ClassId) (dI : Nat → Nat → Nat) (cI cJ cS : ClassId) (sz K : Nat) (mm : Nat) (p1 : Int32) (p2 : Int32) (ithrown : Int32) (qlev : Nat) (qtxt : Nat) (ityped : Int32) (inext : Int32) (itoken : Int32) (iplace : Int32) (ivalue : Int32) (ifault : Int32) (imany : Int32) (idrafts : Int32) (qstm : Nat) (qsm : Nat) (isumMany : Int32) (qsgn : Nat) (qvls : Nat) (qopn : Nat) (qopp : Nat) (qbke : Nat) (qbko : Nat) (qbkl : Nat) (qcel : Nat) (isteps : Int32) (icame : Int32) (qtap : Nat) (qtpl : Nat) (iranSteps : Int32) (iranCame : Int32) (qrtp : Nat) (qrlv : Nat) (ipassed : Int32) (qsen : Nat) (qhpo : Nat) (qhpm : Nat) (qbgn : Nat) (qchn : Nat) (qsgt : Nat) (isecrets : Int32) (iheaps : Int32) (qrsd : Nat) (alev : Nat → Int32) (r : Int32) (w0 : Int32) (w1 : Nat → Int32) (hF : F_m_level K p1 p2 ithrown alev = some (r, w0, w1)) : Met l yX10_level wsX10_level ({ frames := 1, cells := 0, slots := 0, locals := 22 }) (va_Pc [.ref mm, .int p1, .int p2] (PE dC dI cI cJ cS [(mm, .inr (10, [.int ithrown, .ref qlev, .ref qtxt, .int ityped, .int inext, .int itoken, .int iplace, .int ivalue, .int ifault, .int imany, .int idrafts, .ref qstm, .ref qsm, .int isumMany, .ref qsgn, .ref qvls, .ref qopn, .ref qopp, .ref qbke, .ref qbko, .ref qbkl, .ref qcel, .int isteps, .int icame, .ref qtap, .ref qtpl, .int iranSteps, .int iranCame, .ref qrtp, .ref qrlv, .int ipassed, .ref qsen, .ref qhpo, .ref qhpm, .ref qbgn, .ref qchn, .ref qsgt, .int isecrets, .int iheaps, .ref qrsd])), (qlev, aI cI 6 alev)] sz)) (va_Qi (fun (r_ : Int32) (_ : Unit) => r_ = r) (BE dC dI (va_A [(mm, .inr (10, [.int ithrown, .ref qlev, .ref qtxt, .int ityped, .int inext, .int itoken, .int iplace, .int ivalue, .int ifault, .int imany, .int idrafts, .ref qstm, .ref qsm, .int isumMany, .ref qsgn, .ref qvls, .ref qopn, .ref qopp, .ref qbke, .ref qbko, .ref qbkl, .ref qcel, .int isteps, .int icame, .ref qtap, .ref qtpl, .int iranSteps, .int iranCame, .ref qrtp, .ref qrlv, .int ipassed, .ref qsen, .ref qhpo, .ref qhpm, .ref qbgn, .ref qchn, .ref qsgt, .int isecrets, .int iheaps, .ref qrsd])), (qlev, aI cI 6 alev)] sz) (fun _ => [(mm, .inr (10, [.int w0, .ref qlev, .ref qtxt, .int ityped, .int inext, .int itoken, .int iplace, .int ivalue, .int ifault, .int imany, .int idrafts, .ref qstm, .ref qsm, .int isumMany, .ref qsgn, .ref qvls, .ref qopn, .ref qopp, .ref qbke, .ref qbko, .ref qbkl, .ref qcel, .int isteps, .int icame, .ref qtap, .ref qtpl, .int iranSteps, .int iranCame, .ref qrtp, .ref qrlv, .int ipassed, .ref qsen, .ref qhpo, .ref qhpm, .ref qbgn, .ref qchn, .ref qsgt, .int isecrets, .int iheaps, .ref qrsd])), (qlev, aI cI 6 w1)])) (va_A [(mm, .inr (10, [.int ithrown, .ref qlev, .ref qtxt, .int ityped, .int inext, .int itoken, .int iplace, .int ivalue, .int ifault, .int imany, .int idrafts, .ref qstm, .ref qsm, .int isumMany, .ref qsgn, .ref qvls, .ref qopn, .ref qopp, .ref qbke, .ref qbko, .ref qbkl, .ref qcel, .int isteps, .int icame, .ref qtap, .ref qtpl, .int iranSteps, .int iranCame, .ref qrtp, .ref qrlv, .int ipassed, .ref qsen, .ref qhpo, .ref qhpm, .ref qbgn, .ref qchn, .ref qsgt, .int isecrets, .int iheaps, .ref qrsd])), (qlev, aI cI 6 alev)] sz)) 0 0 (va_A [(mm, .inr (10, [.int ithrown, .ref qlev, .ref qtxt, .int ityped, .int inext, .int itoken, .int iplace, .int ivalue, .int ifault, .int imany, .int idrafts, .ref qstm, .ref qsm, .int isumMany, .ref qsgn, .ref qvls, .ref qopn, .ref qopp, .ref qbke, .ref qbko, .ref qbkl, .ref qcel, .int isteps, .int icame, .ref qtap, .ref qtpl, .int iranSteps, .int iranCame, .ref qrtp, .ref qrlv, .int ipassed, .ref qsen, .ref qhpo, .ref qhpm, .ref qbgn, .ref qchn, .ref qsgt, .int isecrets, .int iheaps, .ref qrsd])), (qlev, aI cI 6 alev)] sz) := by
  refine Met.ofW (cc := cX10_level) (maxL := 4) (ret := (some .int)) (by decide) rfl ?_
  intro pp_ ee_ ss_ mm_ args below meth cc_ s₁ B hml hv
  obtain ⟨rfl, hsz, hP, hE, hD0⟩ := hv
  have hx := B.exec
  have hb := B.bytes
  have hr := B.returns
  have hts := atoms_spec (ws := wsX10_level) B.pre
  have hown : ss_.vm.findClass RX10 = some mm_.cls := findClass_of_methodNamed B.named
  have hlocks := B.notSynchronized
  have hK := hE.1
  have hiX10 : ∀ w ∈ wsX100, w ∈ wsX10_level := by decide +kernel
  subst hsz
  have hD := hD0.self (sz := ss_.heap.size)
  generalize hAe : va_A [(mm, .inr (10, [.int ithrown, .ref qlev, .ref qtxt, .int ityped, .int inext, .int itoken, .int iplace, .int ivalue, .int ifault, .int imany, .int idrafts, .ref qstm, .ref qsm, .int isumMany, .ref qsgn, .ref qvls, .ref qopn, .ref qopp, .ref qbke, .ref qbko, .ref qbkl, .ref qcel, .int isteps, .int icame, .ref qtap, .ref qtpl, .int iranSteps, .int iranCame, .ref qrtp, .ref qrlv, .int ipassed, .ref qsen, .ref qhpo, .ref qhpm, .ref qbgn, .ref qchn, .ref qsgt, .int isecrets, .int iheaps, .ref qrsd])), (qlev, aI cI 6 alev)] ss_.heap.size = A at hD ⊢
  have hA : ∀ q : Nat, ss_.heap.size ≤ q → A q := fun q h => by rw [← hAe]; exact Or.inr h
  have hS : va_S A ss_.heap ss_.heap [] := va_S.rf
  have hl := lv_entry ([.ref mm, .int p1, .int p2]) (n := 4) (Nat.le_of_ble_eq_true rfl)
  rw [lg_entry_eq]
  generalize (lg_sl ([.ref mm, .int p1, .int p2]) ++ List.replicate (4 - (lg_sl ([.ref mm, .int p1, .int p2])).length) Slot.unset).toArray = ls at hl ⊢
  have hl : lv_has ls 4 [(0, .ref mm), (1, .int p1), (2, .int p2)] := hl
  have key : ∀ n : Nat, (∀ (l1 : Int32) (l2 : Int32) (ithrown : Int32) (alev : Nat → Int32) (r : Int32) (w0 : Int32) (w1 : Nat → Int32), L_m_level K  n 0 l1 l2 ithrown alev = some (r, w0, w1) → ∀ (H : Heap) (locs : List Loc), va_P (dC, dI) vwCl [(mm, .inr (10, [.int ithrown, .ref qlev, .ref qtxt, .int ityped, .int inext, .int itoken, .int iplace, .int ivalue, .int ifault, .int imany, .int idrafts, .ref qstm, .ref qsm, .int isumMany, .ref qsgn, .ref qvls, .ref qopn, .ref qopp, .ref qbke, .ref qbko, .ref qbkl, .ref qcel, .int isteps, .int icame, .ref qtap, .ref qtpl, .int iranSteps, .int iranCame, .ref qrtp, .ref qrlv, .int ipassed, .ref qsen, .ref qhpo, .ref qhpm, .ref qbgn, .ref qchn, .ref qsgt, .int isecrets, .int iheaps, .ref qrsd])), (qlev, aI cI 6 alev)] H → va_D A [(mm, .inr (10, [.int ithrown, .ref qlev, .ref qtxt, .int ityped, .int inext, .int itoken, .int iplace, .int ivalue, .int ifault, .int imany, .int idrafts, .ref qstm, .ref qsm, .int isumMany, .ref qsgn, .ref qvls, .ref qopn, .ref qopp, .ref qbke, .ref qbko, .ref qbkl, .ref qcel, .int isteps, .int icame, .ref qtap, .ref qtpl, .int iranSteps, .int iranCame, .ref qrtp, .ref qrlv, .int ipassed, .ref qsen, .ref qhpo, .ref qhpm, .ref qbgn, .ref qchn, .ref qsgt, .int isecrets, .int iheaps, .ref qrsd])), (qlev, aI cI 6 alev)] → va_S A ss_.heap H locs → ∀ ls : Array Slot, lv_has ls 4 [(0, .ref mm), (1, .int l1), (2, .int l2)] → W pp_ l ee_ (headSpec wsX10_level ({ frames := 1, cells := 0, slots := 0, locals := 22 })).room ss_ mm_ #[.ref mm, .int p1, .int p2] below meth cc_ H locs 0 0 (MQ below (va_Qi (fun (r_ : Int32) (_ : Unit) => r_ = r) (BE dC dI A (fun _ => [(mm, .inr (10, [.int w0, .ref qlev, .ref qtxt, .int ityped, .int inext, .int itoken, .int iplace, .int ivalue, .int ifault, .int imany, .int idrafts, .ref qstm, .ref qsm, .int isumMany, .ref qsgn, .ref qvls, .ref qopn, .ref qopp, .ref qbke, .ref qbko, .ref qbkl, .ref qcel, .int isteps, .int icame, .ref qtap, .ref qtpl, .int iranSteps, .int iranCame, .ref qrtp, .ref qrlv, .int ipassed, .ref qsen, .ref qhpo, .ref qhpm, .ref qbgn, .ref qchn, .ref qsgt, .int isecrets, .int iheaps, .ref qrsd])), (qlev, aI cI 6 w1)])) A) #[.ref mm, .int p1, .int p2] ss_ 0 0 A) (F0 mm_ 0 ls [])) ∧ (∀ (l1 : Int32) (l2 : Int32) (ithrown : Int32) (alev : Nat → Int32) (r : Int32) (w0 : Int32) (w1 : Nat → Int32), L_m_level K  n 1 l1 l2 ithrown alev = some (r, w0, w1) → ∀ (H : Heap) (locs : List Loc), va_P (dC, dI) vwCl [(mm, .inr (10, [.int ithrown, .ref qlev, .ref qtxt, .int ityped, .int inext, .int itoken, .int iplace, .int ivalue, .int ifault, .int imany, .int idrafts, .ref qstm, .ref qsm, .int isumMany, .ref qsgn, .ref qvls, .ref qopn, .ref qopp, .ref qbke, .ref qbko, .ref qbkl, .ref qcel, .int isteps, .int icame, .ref qtap, .ref qtpl, .int iranSteps, .int iranCame, .ref qrtp, .ref qrlv, .int ipassed, .ref qsen, .ref qhpo, .ref qhpm, .ref qbgn, .ref qchn, .ref qsgt, .int isecrets, .int iheaps, .ref qrsd])), (qlev, aI cI 6 alev)] H → va_D A [(mm, .inr (10, [.int ithrown, .ref qlev, .ref qtxt, .int ityped, .int inext, .int itoken, .int iplace, .int ivalue, .int ifault, .int imany, .int idrafts, .ref qstm, .ref qsm, .int isumMany, .ref qsgn, .ref qvls, .ref qopn, .ref qopp, .ref qbke, .ref qbko, .ref qbkl, .ref qcel, .int isteps, .int icame, .ref qtap, .ref qtpl, .int iranSteps, .int iranCame, .ref qrtp, .ref qrlv, .int ipassed, .ref qsen, .ref qhpo, .ref qhpm, .ref qbgn, .ref qchn, .ref qsgt, .int isecrets, .int iheaps, .ref qrsd])), (qlev, aI cI 6 alev)] → va_S A ss_.heap H locs → ∀ ls : Array Slot, lv_has ls 4 [(0, .ref mm), (1, .int l1), (2, .int l2)] → W pp_ l ee_ (headSpec wsX10_level ({ frames := 1, cells := 0, slots := 0, locals := 22 })).room ss_ mm_ #[.ref mm, .int p1, .int p2] below meth cc_ H locs 0 0 (MQ below (va_Qi (fun (r_ : Int32) (_ : Unit) => r_ = r) (BE dC dI A (fun _ => [(mm, .inr (10, [.int w0, .ref qlev, .ref qtxt, .int ityped, .int inext, .int itoken, .int iplace, .int ivalue, .int ifault, .int imany, .int idrafts, .ref qstm, .ref qsm, .int isumMany, .ref qsgn, .ref qvls, .ref qopn, .ref qopp, .ref qbke, .ref qbko, .ref qbkl, .ref qcel, .int isteps, .int icame, .ref qtap, .ref qtpl, .int iranSteps, .int iranCame, .ref qrtp, .ref qrlv, .int ipassed, .ref qsen, .ref qhpo, .ref qhpm, .ref qbgn, .ref qchn, .ref qsgt, .int isecrets, .int iheaps, .ref qrsd])), (qlev, aI cI 6 w1)])) A) #[.ref mm, .int p1, .int p2] ss_ 0 0 A) (F0 mm_ 23 ls [])) := by
    intro n
    induction n with
    | zero => exact ⟨(fun _ _ _ _ _ _ _ hF => absurd hF (fun e => by cases e)), (fun _ _ _ _ _ _ _ hF => absurd hF (fun e => by cases e))⟩
    | succ n ih =>
      refine ⟨?_, ?_⟩
      · intro l1 l2 ithrown alev r w0 w1 hB H locs hP hD hS ls hl
        change B_m_level_0 K  (L_m_level K  n) l1 l2 ithrown alev = some (r, w0, w1) at hB
        unfold B_m_level_0 at hB
        refine lv_aload_n hx hb dX10_level_0 rfl (lv_at hl 0 rfl) ?_
        refine lv_iconst (v := 0) hx hb dX10_level_1 (by decide) ?_
        refine va_put (D := (dC, dI)) (ci := 10) (v := .int 0) (ty := .int) (C := RX10) (T := TX10) (N := 40) hx hb hts hiX10 tyX10 tyX10_ok nmX10 hown hK hP hD hS 0 rfl rfl 0 (by decide) (hts (.fieldLink RX10 80 "WatchedProgramsModel" "thrown" "I") (by decide +kernel)) (fun _ h9 => h9) rfl (by decide +kernel) rfl rfl (Nat.le_of_ble_eq_true rfl) dX10_level_2 (fun H locs hP hD hS => ?_)
        have hP : va_P (dC, dI) vwCl [(mm, .inr (10, [.int 0, .ref qlev, .ref qtxt, .int ityped, .int inext, .int itoken, .int iplace, .int ivalue, .int ifault, .int imany, .int idrafts, .ref qstm, .ref qsm, .int isumMany, .ref qsgn, .ref qvls, .ref qopn, .ref qopp, .ref qbke, .ref qbko, .ref qbkl, .ref qcel, .int isteps, .int icame, .ref qtap, .ref qtpl, .int iranSteps, .int iranCame, .ref qrtp, .ref qrlv, .int ipassed, .ref qsen, .ref qhpo, .ref qhpm, .ref qbgn, .ref qchn, .ref qsgt, .int isecrets, .int iheaps, .ref qrsd])), (qlev, aI cI 6 alev)] H := hP
        have hD : va_D A [(mm, .inr (10, [.int 0, .ref qlev, .ref qtxt, .int ityped, .int inext, .int itoken, .int iplace, .int ivalue, .int ifault, .int imany, .int idrafts, .ref qstm, .ref qsm, .int isumMany, .ref qsgn, .ref qvls, .ref qopn, .ref qopp, .ref qbke, .ref qbko, .ref qbkl, .ref qcel, .int isteps, .int icame, .ref qtap, .ref qtpl, .int iranSteps, .int iranCame, .ref qrtp, .ref qrlv, .int ipassed, .ref qsen, .ref qhpo, .ref qhpm, .ref qbgn, .ref qchn, .ref qsgt, .int isecrets, .int iheaps, .ref qrsd])), (qlev, aI cI 6 alev)] := hD
        refine lv_iload_n hx hb dX10_level_5 rfl (lv_at hl 1 rfl) ?_
        refine lv_iconst (v := 0) hx hb dX10_level_6 (by decide) ?_
        refine lv_iconst (v := 5) hx hb dX10_level_7 (by decide) ?_
        rcases hc_2 : F_m_in K l1 0 5 with _ | o_1
        · rw [hc_2] at hB; cases hB
        rw [hc_2] at hB
        obtain ⟨r_3, er_3⟩ : ∃ q, q = o_1 := ⟨_, rfl⟩
        subst er_3
        simp only [Option.bind_some] at hB
        have hFc := va_free (wc := []) hD hS hA [] rfl
        refine zCi (wr := [(mm, .inr (10, [.int 0, .ref qlev, .ref qtxt, .int ityped, .int inext, .int itoken, .int iplace, .int ivalue, .int ifault, .int imany, .int idrafts, .ref qstm, .ref qsm, .int isumMany, .ref qsgn, .ref qvls, .ref qopn, .ref qopp, .ref qbke, .ref qbko, .ref qbkl, .ref qcel, .int isteps, .int icame, .ref qtap, .ref qtpl, .int iranSteps, .int iranCame, .ref qrtp, .ref qrlv, .int ipassed, .ref qsen, .ref qhpo, .ref qhpm, .ref qbgn, .ref qchn, .ref qsgt, .int isecrets, .int iheaps, .ref qrsd])), (qlev, aI cI 6 alev)]) hP hD hS hFc [] [0, 1] rfl rfl (by decide) (by decide) (va_runS (As := [.int l1, .int 0, .int 5]) (rest := []) ⟨hx, hb, hml, hown, hts⟩ (c_m_in l dC dI cI cJ cS H.size K l1 0 5 r_3 hc_2) (va_cwS 3 hts gX10_level_X10_in rfl rfl rfl (by decide +kernel) ⟨Nat.le_of_ble_eq_true rfl, Nat.le_of_ble_eq_true rfl⟩) (preE (hP.sub (ws' := []) [] rfl) hE (hD.sub (ws' := []) [] (by decide) rfl)) rfl rfl hl.1 rfl (lv_room (Nat.le_of_ble_eq_true rfl)) dX10_level_8 ⟨Nat.le_refl _, Nat.le_refl _⟩) (fun rr_4 _ H locs hr_5 hP hD hS => ?_)
        obtain rfl := hr_5
        have hP : va_P (dC, dI) vwCl [(mm, .inr (10, [.int 0, .ref qlev, .ref qtxt, .int ityped, .int inext, .int itoken, .int iplace, .int ivalue, .int ifault, .int imany, .int idrafts, .ref qstm, .ref qsm, .int isumMany, .ref qsgn, .ref qvls, .ref qopn, .ref qopp, .ref qbke, .ref qbko, .ref qbkl, .ref qcel, .int isteps, .int icame, .ref qtap, .ref qtpl, .int iranSteps, .int iranCame, .ref qrtp, .ref qrlv, .int ipassed, .ref qsen, .ref qhpo, .ref qhpm, .ref qbgn, .ref qchn, .ref qsgt, .int isecrets, .int iheaps, .ref qrsd])), (qlev, aI cI 6 alev)] H := hP
        have hD : va_D A [(mm, .inr (10, [.int 0, .ref qlev, .ref qtxt, .int ityped, .int inext, .int itoken, .int iplace, .int ivalue, .int ifault, .int imany, .int idrafts, .ref qstm, .ref qsm, .int isumMany, .ref qsgn, .ref qvls, .ref qopn, .ref qopp, .ref qbke, .ref qbko, .ref qbkl, .ref qcel, .int isteps, .int icame, .ref qtap, .ref qtpl, .int iranSteps, .int iranCame, .ref qrtp, .ref qrlv, .int ipassed, .ref qsen, .ref qhpo, .ref qhpm, .ref qbgn, .ref qchn, .ref qsgt, .int isecrets, .int iheaps, .ref qrsd])), (qlev, aI cI 6 alev)] := hD
        refine lv_if_eq (tgt := 23) hx hb dX10_level_11 (by decide) (fun c_6 => ?_) (fun c_6 => ?_)
        · rw [if_pos c_6] at hB
          exact ih.2 l1 l2 0 alev _ _ _ hB _ _ (hP.sub (ws' := [(mm, .inr (10, [.int 0, .ref qlev, .ref qtxt, .int ityped, .int inext, .int itoken, .int iplace, .int ivalue, .int ifault, .int imany, .int idrafts, .ref qstm, .ref qsm, .int isumMany, .ref qsgn, .ref qvls, .ref qopn, .ref qopp, .ref qbke, .ref qbko, .ref qbkl, .ref qcel, .int isteps, .int icame, .ref qtap, .ref qtpl, .int iranSteps, .int iranCame, .ref qrtp, .ref qrlv, .int ipassed, .ref qsen, .ref qhpo, .ref qhpm, .ref qbgn, .ref qchn, .ref qsgt, .int isecrets, .int iheaps, .ref qrsd])), (qlev, aI cI 6 alev)]) [0, 1] rfl) (hD.sub (ws' := [(mm, .inr (10, [.int 0, .ref qlev, .ref qtxt, .int ityped, .int inext, .int itoken, .int iplace, .int ivalue, .int ifault, .int imany, .int idrafts, .ref qstm, .ref qsm, .int isumMany, .ref qsgn, .ref qvls, .ref qopn, .ref qopp, .ref qbke, .ref qbko, .ref qbkl, .ref qcel, .int isteps, .int icame, .ref qtap, .ref qtpl, .int iranSteps, .int iranCame, .ref qrtp, .ref qrlv, .int ipassed, .ref qsen, .ref qhpo, .ref qhpm, .ref qbgn, .ref qchn, .ref qsgt, .int isecrets, .int iheaps, .ref qrsd])), (qlev, aI cI 6 alev)]) [0, 1] (by decide) rfl) hS ls (lv_sub hl [0, 1, 2] rfl)
        · rw [if_neg c_6] at hB
          refine lv_iload_n hx hb dX10_level_14 rfl (lv_at hl 2 rfl) ?_
          refine lv_iconst (v := 0) hx hb dX10_level_15 (by decide) ?_
          refine lv_iconst (v := 3) hx hb dX10_level_16 (by decide) ?_
          rcases hc_8 : F_m_in K l2 0 3 with _ | o_7
          · rw [hc_8] at hB; cases hB
          rw [hc_8] at hB
          obtain ⟨r_9, er_9⟩ : ∃ q, q = o_7 := ⟨_, rfl⟩
          subst er_9
          simp only [Option.bind_some] at hB
          have hFc := va_free (wc := []) hD hS hA [] rfl
          refine zCi (wr := [(mm, .inr (10, [.int 0, .ref qlev, .ref qtxt, .int ityped, .int inext, .int itoken, .int iplace, .int ivalue, .int ifault, .int imany, .int idrafts, .ref qstm, .ref qsm, .int isumMany, .ref qsgn, .ref qvls, .ref qopn, .ref qopp, .ref qbke, .ref qbko, .ref qbkl, .ref qcel, .int isteps, .int icame, .ref qtap, .ref qtpl, .int iranSteps, .int iranCame, .ref qrtp, .ref qrlv, .int ipassed, .ref qsen, .ref qhpo, .ref qhpm, .ref qbgn, .ref qchn, .ref qsgt, .int isecrets, .int iheaps, .ref qrsd])), (qlev, aI cI 6 alev)]) hP hD hS hFc [] [0, 1] rfl rfl (by decide) (by decide) (va_runS (As := [.int l2, .int 0, .int 3]) (rest := []) ⟨hx, hb, hml, hown, hts⟩ (c_m_in l dC dI cI cJ cS H.size K l2 0 3 r_9 hc_8) (va_cwS 3 hts gX10_level_X10_in rfl rfl rfl (by decide +kernel) ⟨Nat.le_of_ble_eq_true rfl, Nat.le_of_ble_eq_true rfl⟩) (preE (hP.sub (ws' := []) [] rfl) hE (hD.sub (ws' := []) [] (by decide) rfl)) rfl rfl hl.1 rfl (lv_room (Nat.le_of_ble_eq_true rfl)) dX10_level_17 ⟨Nat.le_refl _, Nat.le_refl _⟩) (fun rr_10 _ H locs hr_11 hP hD hS => ?_)
          obtain rfl := hr_11
          have hP : va_P (dC, dI) vwCl [(mm, .inr (10, [.int 0, .ref qlev, .ref qtxt, .int ityped, .int inext, .int itoken, .int iplace, .int ivalue, .int ifault, .int imany, .int idrafts, .ref qstm, .ref qsm, .int isumMany, .ref qsgn, .ref qvls, .ref qopn, .ref qopp, .ref qbke, .ref qbko, .ref qbkl, .ref qcel, .int isteps, .int icame, .ref qtap, .ref qtpl, .int iranSteps, .int iranCame, .ref qrtp, .ref qrlv, .int ipassed, .ref qsen, .ref qhpo, .ref qhpm, .ref qbgn, .ref qchn, .ref qsgt, .int isecrets, .int iheaps, .ref qrsd])), (qlev, aI cI 6 alev)] H := hP
          have hD : va_D A [(mm, .inr (10, [.int 0, .ref qlev, .ref qtxt, .int ityped, .int inext, .int itoken, .int iplace, .int ivalue, .int ifault, .int imany, .int idrafts, .ref qstm, .ref qsm, .int isumMany, .ref qsgn, .ref qvls, .ref qopn, .ref qopp, .ref qbke, .ref qbko, .ref qbkl, .ref qcel, .int isteps, .int icame, .ref qtap, .ref qtpl, .int iranSteps, .int iranCame, .ref qrtp, .ref qrlv, .int ipassed, .ref qsen, .ref qhpo, .ref qhpm, .ref qbgn, .ref qchn, .ref qsgt, .int isecrets, .int iheaps, .ref qrsd])), (qlev, aI cI 6 alev)] := hD
          refine lv_if_ne (tgt := 25) hx hb dX10_level_20 (by decide) (fun c_12 => ?_) (fun c_12 => ?_)
          · rw [if_neg c_12] at hB
            refine lv_aload_n hx hb dX10_level_25 rfl (lv_at hl 0 rfl) ?_
            refine va_get (D := (dC, dI)) (ci := 10) (v := .ref qlev) (C := RX10) (T := TX10) (N := 40) hx hb hts hiX10 hown hK hP 0 rfl rfl 1 (by decide) (hts (.fieldLink RX10 7 "WatchedProgramsModel" "level" "[I") (by decide +kernel)) (fun _ h9 => h9) rfl dX10_level_26 ?_
            refine lv_iload_n hx hb dX10_level_29 rfl (lv_at hl 1 rfl) ?_
            by_cases k_13 : okIx l1 6 = true
            case neg => rw [if_neg k_13] at hB; cases hB
            rw [if_pos k_13] at hB
            refine va_iald hx hb hK hP 1 0 rfl rfl (okIx_in k_13) dX10_level_30 ?_
            refine lv_istore_n (lv' := [(3, .int (alev (l1).toNatClampNeg)), (0, .ref mm), (1, .int l1), (2, .int l2)]) hx hb dX10_level_31 rfl hl (by decide) rfl (fun ls hl => ?_)
            refine lv_aload_n hx hb dX10_level_32 rfl (lv_at hl 1 rfl) ?_
            refine va_get (D := (dC, dI)) (ci := 10) (v := .ref qlev) (C := RX10) (T := TX10) (N := 40) hx hb hts hiX10 hown hK hP 0 rfl rfl 1 (by decide) (hts (.fieldLink RX10 7 "WatchedProgramsModel" "level" "[I") (by decide +kernel)) (fun _ h9 => h9) rfl dX10_level_33 ?_
            refine lv_iload_n hx hb dX10_level_36 rfl (lv_at hl 2 rfl) ?_
            refine lv_iload_n hx hb dX10_level_37 rfl (lv_at hl 3 rfl) ?_
            by_cases k_14 : okIx l1 6 = true
            case neg => rw [if_neg k_14] at hB; cases hB
            rw [if_pos k_14] at hB
            refine va_iast hx hb hK hP hD hS 1 0 rfl rfl (okIx_in k_14) dX10_level_38 (fun H locs hP hD hS => ?_)
            have hP : va_P (dC, dI) vwCl [(mm, .inr (10, [.int 0, .ref qlev, .ref qtxt, .int ityped, .int inext, .int itoken, .int iplace, .int ivalue, .int ifault, .int imany, .int idrafts, .ref qstm, .ref qsm, .int isumMany, .ref qsgn, .ref qvls, .ref qopn, .ref qopp, .ref qbke, .ref qbko, .ref qbkl, .ref qcel, .int isteps, .int icame, .ref qtap, .ref qtpl, .int iranSteps, .int iranCame, .ref qrtp, .ref qrlv, .int ipassed, .ref qsen, .ref qhpo, .ref qhpm, .ref qbgn, .ref qchn, .ref qsgt, .int isecrets, .int iheaps, .ref qrsd])), (qlev, aI cI 6 (upd alev (l1).toNatClampNeg l2))] H := hP
            have hD : va_D A [(mm, .inr (10, [.int 0, .ref qlev, .ref qtxt, .int ityped, .int inext, .int itoken, .int iplace, .int ivalue, .int ifault, .int imany, .int idrafts, .ref qstm, .ref qsm, .int isumMany, .ref qsgn, .ref qvls, .ref qopn, .ref qopp, .ref qbke, .ref qbko, .ref qbkl, .ref qcel, .int isteps, .int icame, .ref qtap, .ref qtpl, .int iranSteps, .int iranCame, .ref qrtp, .ref qrlv, .int ipassed, .ref qsen, .ref qhpo, .ref qhpm, .ref qbgn, .ref qchn, .ref qsgt, .int isecrets, .int iheaps, .ref qrsd])), (qlev, aI cI 6 (upd alev (l1).toNatClampNeg l2))] := hD
            refine lv_iload_n hx hb dX10_level_39 rfl (lv_at hl 0 rfl) ?_
            cases hB
            have hP9 := (hP.sub (ws' := [(mm, .inr (10, [.int 0, .ref qlev, .ref qtxt, .int ityped, .int inext, .int itoken, .int iplace, .int ivalue, .int ifault, .int imany, .int idrafts, .ref qstm, .ref qsm, .int isumMany, .ref qsgn, .ref qvls, .ref qopn, .ref qopp, .ref qbke, .ref qbko, .ref qbkl, .ref qcel, .int isteps, .int icame, .ref qtap, .ref qtpl, .int iranSteps, .int iranCame, .ref qrtp, .ref qrlv, .int ipassed, .ref qsen, .ref qhpo, .ref qhpm, .ref qbgn, .ref qchn, .ref qsgt, .int isecrets, .int iheaps, .ref qrsd])), (qlev, aI cI 6 (upd alev (l1).toNatClampNeg l2))]) [0, 1] rfl)
            have hD9 := (hD.sub (ws' := [(mm, .inr (10, [.int 0, .ref qlev, .ref qtxt, .int ityped, .int inext, .int itoken, .int iplace, .int ivalue, .int ifault, .int imany, .int idrafts, .ref qstm, .ref qsm, .int isumMany, .ref qsgn, .ref qvls, .ref qopn, .ref qopp, .ref qbke, .ref qbko, .ref qbkl, .ref qcel, .int isteps, .int icame, .ref qtap, .ref qtpl, .int iranSteps, .int iranCame, .ref qrtp, .ref qrlv, .int ipassed, .ref qsen, .ref qhpo, .ref qhpm, .ref qbgn, .ref qchn, .ref qsgt, .int isecrets, .int iheaps, .ref qrsd])), (qlev, aI cI 6 (upd alev (l1).toNatClampNeg l2))]) [0, 1] (by decide) rfl)
            exact W.iret (v := (alev (l1).toNatClampNeg)) hx hb hr (fun tt_ ht hW => ⟨⟨_, (), rfl, rfl, by rw [ht]; exact hP9, hD9⟩, hS.F ht⟩) hS.2.2 dX10_level_40
          · rw [if_pos c_12] at hB
            exact ih.2 l1 l2 0 alev _ _ _ hB _ _ (hP.sub (ws' := [(mm, .inr (10, [.int 0, .ref qlev, .ref qtxt, .int ityped, .int inext, .int itoken, .int iplace, .int ivalue, .int ifault, .int imany, .int idrafts, .ref qstm, .ref qsm, .int isumMany, .ref qsgn, .ref qvls, .ref qopn, .ref qopp, .ref qbke, .ref qbko, .ref qbkl, .ref qcel, .int isteps, .int icame, .ref qtap, .ref qtpl, .int iranSteps, .int iranCame, .ref qrtp, .ref qrlv, .int ipassed, .ref qsen, .ref qhpo, .ref qhpm, .ref qbgn, .ref qchn, .ref qsgt, .int isecrets, .int iheaps, .ref qrsd])), (qlev, aI cI 6 alev)]) [0, 1] rfl) (hD.sub (ws' := [(mm, .inr (10, [.int 0, .ref qlev, .ref qtxt, .int ityped, .int inext, .int itoken, .int iplace, .int ivalue, .int ifault, .int imany, .int idrafts, .ref qstm, .ref qsm, .int isumMany, .ref qsgn, .ref qvls, .ref qopn, .ref qopp, .ref qbke, .ref qbko, .ref qbkl, .ref qcel, .int isteps, .int icame, .ref qtap, .ref qtpl, .int iranSteps, .int iranCame, .ref qrtp, .ref qrlv, .int ipassed, .ref qsen, .ref qhpo, .ref qhpm, .ref qbgn, .ref qchn, .ref qsgt, .int isecrets, .int iheaps, .ref qrsd])), (qlev, aI cI 6 alev)]) [0, 1] (by decide) rfl) hS ls (lv_sub hl [0, 1, 2] rfl)
      · intro l1 l2 ithrown alev r w0 w1 hB H locs hP hD hS ls hl
        change B_m_level_1 K  (L_m_level K  n) l1 l2 ithrown alev = some (r, w0, w1) at hB
        unfold B_m_level_1 at hB
        refine lv_iconst (v := (-1)) hx hb dX10_level_23 (by decide) ?_
        cases hB
        have hP9 := (hP.sub (ws' := [(mm, .inr (10, [.int ithrown, .ref qlev, .ref qtxt, .int ityped, .int inext, .int itoken, .int iplace, .int ivalue, .int ifault, .int imany, .int idrafts, .ref qstm, .ref qsm, .int isumMany, .ref qsgn, .ref qvls, .ref qopn, .ref qopp, .ref qbke, .ref qbko, .ref qbkl, .ref qcel, .int isteps, .int icame, .ref qtap, .ref qtpl, .int iranSteps, .int iranCame, .ref qrtp, .ref qrlv, .int ipassed, .ref qsen, .ref qhpo, .ref qhpm, .ref qbgn, .ref qchn, .ref qsgt, .int isecrets, .int iheaps, .ref qrsd])), (qlev, aI cI 6 alev)]) [0, 1] rfl)
        have hD9 := (hD.sub (ws' := [(mm, .inr (10, [.int ithrown, .ref qlev, .ref qtxt, .int ityped, .int inext, .int itoken, .int iplace, .int ivalue, .int ifault, .int imany, .int idrafts, .ref qstm, .ref qsm, .int isumMany, .ref qsgn, .ref qvls, .ref qopn, .ref qopp, .ref qbke, .ref qbko, .ref qbkl, .ref qcel, .int isteps, .int icame, .ref qtap, .ref qtpl, .int iranSteps, .int iranCame, .ref qrtp, .ref qrlv, .int ipassed, .ref qsen, .ref qhpo, .ref qhpm, .ref qbgn, .ref qchn, .ref qsgt, .int isecrets, .int iheaps, .ref qrsd])), (qlev, aI cI 6 alev)]) [0, 1] (by decide) rfl)
        exact W.iret (v := (-1)) hx hb hr (fun tt_ ht hW => ⟨⟨_, (), rfl, rfl, by rw [ht]; exact hP9, hD9⟩, hS.F ht⟩) hS.2.2 dX10_level_24
  exact (key K).1 p1 p2 ithrown alev r w0 w1 hF _ _ hP hD hS ls hl
def B_m_type_0 (K : Nat)  (rec : Nat → Int64 → Int32 → Int32 → Int32 → Int32 → (Nat → Int32) → Option (Int32 × Int32 × Int32 × (Nat → Int32))) (j1 : Int64) (l3 : Int32) (l4 : Int32) (ithrown : Int32) (ityped : Int32) (atxt : Nat → Int32) : Option (Int32 × Int32 × Int32 × (Nat → Int32)) := (F_m_in K l3 1 8).bind (fun o_1 => if o_1 = 0 then (some ((-1), 0, ityped, atxt)) else (if (ityped + l3) ≤ 300 then (rec 1 j1 l3 (l3 - 1) 0 ityped atxt) else (some ((-3), 0, ityped, atxt))))
def B_m_type_1 (K : Nat)  (rec : Nat → Int64 → Int32 → Int32 → Int32 → Int32 → (Nat → Int32) → Option (Int32 × Int32 × Int32 × (Nat → Int32))) (j1 : Int64) (l3 : Int32) (l4 : Int32) (ithrown : Int32) (ityped : Int32) (atxt : Nat → Int32) : Option (Int32 × Int32 × Int32 × (Nat → Int32)) := if l4 < 0 then (some (ityped, ithrown, ityped, atxt)) else (if okIx ityped 300 = true then (rec 1 j1 l3 (l4 + (-1)) ithrown (ityped + 1) (upd atxt (ityped).toNatClampNeg ((((j1 >>> (((8 * l4)).toInt64 &&& 63)) &&& 255)).toInt32))) else none)
def L_m_type (K : Nat)  : Nat → Nat → Int64 → Int32 → Int32 → Int32 → Int32 → (Nat → Int32) → Option (Int32 × Int32 × Int32 × (Nat → Int32))
  | 0 => fun _ _ _ _ _ _ _ => none
  | n + 1 => fun c j1 l3 l4 ithrown ityped atxt => if c = 0 then B_m_type_0 K  (L_m_type K  n) j1 l3 l4 ithrown ityped atxt else if c = 1 then B_m_type_1 K  (L_m_type K  n) j1 l3 l4 ithrown ityped atxt else none
def F_m_type (K : Nat) (j1 : Int64) (l3 : Int32) (ithrown : Int32) (ityped : Int32) (atxt : Nat → Int32) : Option (Int32 × Int32 × Int32 × (Nat → Int32)) := L_m_type K K 0 j1 l3 0 ithrown ityped atxt
set_option maxHeartbeats 2000000 in
set_option maxRecDepth 100000 in
theorem c_m_type (l : Launch) (dC : Nat → ClassId) (dI : Nat → Nat → Nat) (cI cJ cS : ClassId) (sz K : Nat) (mm : Nat) (p1 : Int64) (p2 : Int32) (ithrown : Int32) (qlev : Nat) (qtxt : Nat) (ityped : Int32) (inext : Int32) (itoken : Int32) (iplace : Int32) (ivalue : Int32) (ifault : Int32) (imany : Int32) (idrafts : Int32) (qstm : Nat) (qsm : Nat) (isumMany : Int32) (qsgn : Nat) (qvls : Nat) (qopn : Nat) (qopp : Nat) (qbke : Nat) (qbko : Nat) (qbkl : Nat) (qcel : Nat) (isteps : Int32) (icame : Int32) (qtap : Nat) (qtpl : Nat) (iranSteps : Int32) (iranCame : Int32) (qrtp : Nat) (qrlv : Nat) (ipassed : Int32) (qsen : Nat) (qhpo : Nat) (qhpm : Nat) (qbgn : Nat) (qchn : Nat) (qsgt : Nat) (isecrets : Int32) (iheaps : Int32) (qrsd : Nat) (atxt : Nat → Int32) (r : Int32) (w0 : Int32) (w1 : Int32) (w2 : Nat → Int32) (hF : F_m_type K p1 p2 ithrown ityped atxt = some (r, w0, w1, w2)) : Met l yX10_type wsX10_type ({ frames := 1, cells := 0, slots := 0, locals := 22 }) (va_Pc [.ref mm, .long p1, .int p2] (PE dC dI cI cJ cS [(mm, .inr (10, [.int ithrown, .ref qlev, .ref qtxt, .int ityped, .int inext, .int itoken, .int iplace, .int ivalue, .int ifault, .int imany, .int idrafts, .ref qstm, .ref qsm, .int isumMany, .ref qsgn, .ref qvls, .ref qopn, .ref qopp, .ref qbke, .ref qbko, .ref qbkl, .ref qcel, .int isteps, .int icame, .ref qtap, .ref qtpl, .int iranSteps, .int iranCame, .ref qrtp, .ref qrlv, .int ipassed, .ref qsen, .ref qhpo, .ref qhpm, .ref qbgn, .ref qchn, .ref qsgt, .int isecrets, .int iheaps, .ref qrsd])), (qtxt, aI cI 300 atxt)] sz)) (va_Qi (fun (r_ : Int32) (_ : Unit) => r_ = r) (BE dC dI (va_A [(mm, .inr (10, [.int ithrown, .ref qlev, .ref qtxt, .int ityped, .int inext, .int itoken, .int iplace, .int ivalue, .int ifault, .int imany, .int idrafts, .ref qstm, .ref qsm, .int isumMany, .ref qsgn, .ref qvls, .ref qopn, .ref qopp, .ref qbke, .ref qbko, .ref qbkl, .ref qcel, .int isteps, .int icame, .ref qtap, .ref qtpl, .int iranSteps, .int iranCame, .ref qrtp, .ref qrlv, .int ipassed, .ref qsen, .ref qhpo, .ref qhpm, .ref qbgn, .ref qchn, .ref qsgt, .int isecrets, .int iheaps, .ref qrsd])), (qtxt, aI cI 300 atxt)] sz) (fun _ => [(mm, .inr (10, [.int w0, .ref qlev, .ref qtxt, .int w1, .int inext, .int itoken, .int iplace, .int ivalue, .int ifault, .int imany, .int idrafts, .ref qstm, .ref qsm, .int isumMany, .ref qsgn, .ref qvls, .ref qopn, .ref qopp, .ref qbke, .ref qbko, .ref qbkl, .ref qcel, .int isteps, .int icame, .ref qtap, .ref qtpl, .int iranSteps, .int iranCame, .ref qrtp, .ref qrlv, .int ipassed, .ref qsen, .ref qhpo, .ref qhpm, .ref qbgn, .ref qchn, .ref qsgt, .int isecrets, .int iheaps, .ref qrsd])), (qtxt, aI cI 300 w2)])) (va_A [(mm, .inr (10, [.int ithrown, .ref qlev, .ref qtxt, .int ityped, .int inext, .int itoken, .int iplace, .int ivalue, .int ifault, .int imany, .int idrafts, .ref qstm, .ref qsm, .int isumMany, .ref qsgn, .ref qvls, .ref qopn, .ref qopp, .ref qbke, .ref qbko, .ref qbkl, .ref qcel, .int isteps, .int icame, .ref qtap, .ref qtpl, .int iranSteps, .int iranCame, .ref qrtp, .ref qrlv, .int ipassed, .ref qsen, .ref qhpo, .ref qhpm, .ref qbgn, .ref qchn, .ref qsgt, .int isecrets, .int iheaps, .ref qrsd])), (qtxt, aI cI 300 atxt)] sz)) 0 0 (va_A [(mm, .inr (10, [.int ithrown, .ref qlev, .ref qtxt, .int ityped, .int inext, .int itoken, .int iplace, .int ivalue, .int ifault, .int imany, .int idrafts, .ref qstm, .ref qsm, .int isumMany, .ref qsgn, .ref qvls, .ref qopn, .ref qopp, .ref qbke, .ref qbko, .ref qbkl, .ref qcel, .int isteps, .int icame, .ref qtap, .ref qtpl, .int iranSteps, .int iranCame, .ref qrtp, .ref qrlv, .int ipassed, .ref qsen, .ref qhpo, .ref qhpm, .ref qbgn, .ref qchn, .ref qsgt, .int isecrets, .int iheaps, .ref qrsd])), (qtxt, aI cI 300 atxt)] sz) := by
  refine Met.ofW (cc := cX10_type) (maxL := 5) (ret := (some .int)) (by decide) rfl ?_
  intro pp_ ee_ ss_ mm_ args below meth cc_ s₁ B hml hv
  obtain ⟨rfl, hsz, hP, hE, hD0⟩ := hv
  have hx := B.exec
  have hb := B.bytes
  have hr := B.returns
  have hts := atoms_spec (ws := wsX10_type) B.pre
  have hown : ss_.vm.findClass RX10 = some mm_.cls := findClass_of_methodNamed B.named
  have hlocks := B.notSynchronized
  have hK := hE.1
  have hiX10 : ∀ w ∈ wsX100, w ∈ wsX10_type := by decide +kernel
  subst hsz
  have hD := hD0.self (sz := ss_.heap.size)
  generalize hAe : va_A [(mm, .inr (10, [.int ithrown, .ref qlev, .ref qtxt, .int ityped, .int inext, .int itoken, .int iplace, .int ivalue, .int ifault, .int imany, .int idrafts, .ref qstm, .ref qsm, .int isumMany, .ref qsgn, .ref qvls, .ref qopn, .ref qopp, .ref qbke, .ref qbko, .ref qbkl, .ref qcel, .int isteps, .int icame, .ref qtap, .ref qtpl, .int iranSteps, .int iranCame, .ref qrtp, .ref qrlv, .int ipassed, .ref qsen, .ref qhpo, .ref qhpm, .ref qbgn, .ref qchn, .ref qsgt, .int isecrets, .int iheaps, .ref qrsd])), (qtxt, aI cI 300 atxt)] ss_.heap.size = A at hD ⊢
  have hA : ∀ q : Nat, ss_.heap.size ≤ q → A q := fun q h => by rw [← hAe]; exact Or.inr h
  have hS : va_S A ss_.heap ss_.heap [] := va_S.rf
  have hl := lv_entry ([.ref mm, .long p1, .int p2]) (n := 5) (Nat.le_of_ble_eq_true rfl)
  rw [lg_entry_eq]
  generalize (lg_sl ([.ref mm, .long p1, .int p2]) ++ List.replicate (5 - (lg_sl ([.ref mm, .long p1, .int p2])).length) Slot.unset).toArray = ls at hl ⊢
  have hl : lv_has ls 5 [(0, .ref mm), (1, .long p1), (3, .int p2)] := hl
  have key : ∀ n : Nat, (∀ (j1 : Int64) (l3 : Int32) (l4 : Int32) (ithrown : Int32) (ityped : Int32) (atxt : Nat → Int32) (r : Int32) (w0 : Int32) (w1 : Int32) (w2 : Nat → Int32), L_m_type K  n 0 j1 l3 l4 ithrown ityped atxt = some (r, w0, w1, w2) → ∀ (H : Heap) (locs : List Loc), va_P (dC, dI) vwCl [(mm, .inr (10, [.int ithrown, .ref qlev, .ref qtxt, .int ityped, .int inext, .int itoken, .int iplace, .int ivalue, .int ifault, .int imany, .int idrafts, .ref qstm, .ref qsm, .int isumMany, .ref qsgn, .ref qvls, .ref qopn, .ref qopp, .ref qbke, .ref qbko, .ref qbkl, .ref qcel, .int isteps, .int icame, .ref qtap, .ref qtpl, .int iranSteps, .int iranCame, .ref qrtp, .ref qrlv, .int ipassed, .ref qsen, .ref qhpo, .ref qhpm, .ref qbgn, .ref qchn, .ref qsgt, .int isecrets, .int iheaps, .ref qrsd])), (qtxt, aI cI 300 atxt)] H → va_D A [(mm, .inr (10, [.int ithrown, .ref qlev, .ref qtxt, .int ityped, .int inext, .int itoken, .int iplace, .int ivalue, .int ifault, .int imany, .int idrafts, .ref qstm, .ref qsm, .int isumMany, .ref qsgn, .ref qvls, .ref qopn, .ref qopp, .ref qbke, .ref qbko, .ref qbkl, .ref qcel, .int isteps, .int icame, .ref qtap, .ref qtpl, .int iranSteps, .int iranCame, .ref qrtp, .ref qrlv, .int ipassed, .ref qsen, .ref qhpo, .ref qhpm, .ref qbgn, .ref qchn, .ref qsgt, .int isecrets, .int iheaps, .ref qrsd])), (qtxt, aI cI 300 atxt)] → va_S A ss_.heap H locs → ∀ ls : Array Slot, lv_has ls 5 [(0, .ref mm), (1, .long j1), (3, .int l3)] → W pp_ l ee_ (headSpec wsX10_type ({ frames := 1, cells := 0, slots := 0, locals := 22 })).room ss_ mm_ #[.ref mm, .long p1, .int p2] below meth cc_ H locs 0 0 (MQ below (va_Qi (fun (r_ : Int32) (_ : Unit) => r_ = r) (BE dC dI A (fun _ => [(mm, .inr (10, [.int w0, .ref qlev, .ref qtxt, .int w1, .int inext, .int itoken, .int iplace, .int ivalue, .int ifault, .int imany, .int idrafts, .ref qstm, .ref qsm, .int isumMany, .ref qsgn, .ref qvls, .ref qopn, .ref qopp, .ref qbke, .ref qbko, .ref qbkl, .ref qcel, .int isteps, .int icame, .ref qtap, .ref qtpl, .int iranSteps, .int iranCame, .ref qrtp, .ref qrlv, .int ipassed, .ref qsen, .ref qhpo, .ref qhpm, .ref qbgn, .ref qchn, .ref qsgt, .int isecrets, .int iheaps, .ref qrsd])), (qtxt, aI cI 300 w2)])) A) #[.ref mm, .long p1, .int p2] ss_ 0 0 A) (F0 mm_ 0 ls [])) ∧ (∀ (j1 : Int64) (l3 : Int32) (l4 : Int32) (ithrown : Int32) (ityped : Int32) (atxt : Nat → Int32) (r : Int32) (w0 : Int32) (w1 : Int32) (w2 : Nat → Int32), L_m_type K  n 1 j1 l3 l4 ithrown ityped atxt = some (r, w0, w1, w2) → ∀ (H : Heap) (locs : List Loc), va_P (dC, dI) vwCl [(mm, .inr (10, [.int ithrown, .ref qlev, .ref qtxt, .int ityped, .int inext, .int itoken, .int iplace, .int ivalue, .int ifault, .int imany, .int idrafts, .ref qstm, .ref qsm, .int isumMany, .ref qsgn, .ref qvls, .ref qopn, .ref qopp, .ref qbke, .ref qbko, .ref qbkl, .ref qcel, .int isteps, .int icame, .ref qtap, .ref qtpl, .int iranSteps, .int iranCame, .ref qrtp, .ref qrlv, .int ipassed, .ref qsen, .ref qhpo, .ref qhpm, .ref qbgn, .ref qchn, .ref qsgt, .int isecrets, .int iheaps, .ref qrsd])), (qtxt, aI cI 300 atxt)] H → va_D A [(mm, .inr (10, [.int ithrown, .ref qlev, .ref qtxt, .int ityped, .int inext, .int itoken, .int iplace, .int ivalue, .int ifault, .int imany, .int idrafts, .ref qstm, .ref qsm, .int isumMany, .ref qsgn, .ref qvls, .ref qopn, .ref qopp, .ref qbke, .ref qbko, .ref qbkl, .ref qcel, .int isteps, .int icame, .ref qtap, .ref qtpl, .int iranSteps, .int iranCame, .ref qrtp, .ref qrlv, .int ipassed, .ref qsen, .ref qhpo, .ref qhpm, .ref qbgn, .ref qchn, .ref qsgt, .int isecrets, .int iheaps, .ref qrsd])), (qtxt, aI cI 300 atxt)] → va_S A ss_.heap H locs → ∀ ls : Array Slot, lv_has ls 5 [(0, .ref mm), (1, .long j1), (3, .int l3), (4, .int l4)] → W pp_ l ee_ (headSpec wsX10_type ({ frames := 1, cells := 0, slots := 0, locals := 22 })).room ss_ mm_ #[.ref mm, .long p1, .int p2] below meth cc_ H locs 0 0 (MQ below (va_Qi (fun (r_ : Int32) (_ : Unit) => r_ = r) (BE dC dI A (fun _ => [(mm, .inr (10, [.int w0, .ref qlev, .ref qtxt, .int w1, .int inext, .int itoken, .int iplace, .int ivalue, .int ifault, .int imany, .int idrafts, .ref qstm, .ref qsm, .int isumMany, .ref qsgn, .ref qvls, .ref qopn, .ref qopp, .ref qbke, .ref qbko, .ref qbkl, .ref qcel, .int isteps, .int icame, .ref qtap, .ref qtpl, .int iranSteps, .int iranCame, .ref qrtp, .ref qrlv, .int ipassed, .ref qsen, .ref qhpo, .ref qhpm, .ref qbgn, .ref qchn, .ref qsgt, .int isecrets, .int iheaps, .ref qrsd])), (qtxt, aI cI 300 w2)])) A) #[.ref mm, .long p1, .int p2] ss_ 0 0 A) (F0 mm_ 37 ls [])) := by
    intro n
    induction n with
    | zero => exact ⟨(fun _ _ _ _ _ _ _ _ _ _ hF => absurd hF (fun e => by cases e)), (fun _ _ _ _ _ _ _ _ _ _ hF => absurd hF (fun e => by cases e))⟩
    | succ n ih =>
      refine ⟨?_, ?_⟩
      · intro j1 l3 l4 ithrown ityped atxt r w0 w1 w2 hB H locs hP hD hS ls hl
        change B_m_type_0 K  (L_m_type K  n) j1 l3 l4 ithrown ityped atxt = some (r, w0, w1, w2) at hB
        unfold B_m_type_0 at hB
        refine lv_aload_n hx hb dX10_type_0 rfl (lv_at hl 0 rfl) ?_
        refine lv_iconst (v := 0) hx hb dX10_type_1 (by decide) ?_
        refine va_put (D := (dC, dI)) (ci := 10) (v := .int 0) (ty := .int) (C := RX10) (T := TX10) (N := 40) hx hb hts hiX10 tyX10 tyX10_ok nmX10 hown hK hP hD hS 0 rfl rfl 0 (by decide) (hts (.fieldLink RX10 80 "WatchedProgramsModel" "thrown" "I") (by decide +kernel)) (fun _ h9 => h9) rfl (by decide +kernel) rfl rfl (Nat.le_of_ble_eq_true rfl) dX10_type_2 (fun H locs hP hD hS => ?_)
        have hP : va_P (dC, dI) vwCl [(mm, .inr (10, [.int 0, .ref qlev, .ref qtxt, .int ityped, .int inext, .int itoken, .int iplace, .int ivalue, .int ifault, .int imany, .int idrafts, .ref qstm, .ref qsm, .int isumMany, .ref qsgn, .ref qvls, .ref qopn, .ref qopp, .ref qbke, .ref qbko, .ref qbkl, .ref qcel, .int isteps, .int icame, .ref qtap, .ref qtpl, .int iranSteps, .int iranCame, .ref qrtp, .ref qrlv, .int ipassed, .ref qsen, .ref qhpo, .ref qhpm, .ref qbgn, .ref qchn, .ref qsgt, .int isecrets, .int iheaps, .ref qrsd])), (qtxt, aI cI 300 atxt)] H := hP
        have hD : va_D A [(mm, .inr (10, [.int 0, .ref qlev, .ref qtxt, .int ityped, .int inext, .int itoken, .int iplace, .int ivalue, .int ifault, .int imany, .int idrafts, .ref qstm, .ref qsm, .int isumMany, .ref qsgn, .ref qvls, .ref qopn, .ref qopp, .ref qbke, .ref qbko, .ref qbkl, .ref qcel, .int isteps, .int icame, .ref qtap, .ref qtpl, .int iranSteps, .int iranCame, .ref qrtp, .ref qrlv, .int ipassed, .ref qsen, .ref qhpo, .ref qhpm, .ref qbgn, .ref qchn, .ref qsgt, .int isecrets, .int iheaps, .ref qrsd])), (qtxt, aI cI 300 atxt)] := hD
        refine lv_iload_n hx hb dX10_type_5 rfl (lv_at hl 2 rfl) ?_
        refine lv_iconst (v := 1) hx hb dX10_type_6 (by decide) ?_
        refine lv_bipush (v := 8) hx hb dX10_type_7 (by decide) ?_
        rcases hc_2 : F_m_in K l3 1 8 with _ | o_1
        · rw [hc_2] at hB; cases hB
        rw [hc_2] at hB
        obtain ⟨r_3, er_3⟩ : ∃ q, q = o_1 := ⟨_, rfl⟩
        subst er_3
        simp only [Option.bind_some] at hB
        have hFc := va_free (wc := []) hD hS hA [] rfl
        refine zCi (wr := [(mm, .inr (10, [.int 0, .ref qlev, .ref qtxt, .int ityped, .int inext, .int itoken, .int iplace, .int ivalue, .int ifault, .int imany, .int idrafts, .ref qstm, .ref qsm, .int isumMany, .ref qsgn, .ref qvls, .ref qopn, .ref qopp, .ref qbke, .ref qbko, .ref qbkl, .ref qcel, .int isteps, .int icame, .ref qtap, .ref qtpl, .int iranSteps, .int iranCame, .ref qrtp, .ref qrlv, .int ipassed, .ref qsen, .ref qhpo, .ref qhpm, .ref qbgn, .ref qchn, .ref qsgt, .int isecrets, .int iheaps, .ref qrsd])), (qtxt, aI cI 300 atxt)]) hP hD hS hFc [] [0, 1] rfl rfl (by decide) (by decide) (va_runS (As := [.int l3, .int 1, .int 8]) (rest := []) ⟨hx, hb, hml, hown, hts⟩ (c_m_in l dC dI cI cJ cS H.size K l3 1 8 r_3 hc_2) (va_cwS 3 hts gX10_type_X10_in rfl rfl rfl (by decide +kernel) ⟨Nat.le_of_ble_eq_true rfl, Nat.le_of_ble_eq_true rfl⟩) (preE (hP.sub (ws' := []) [] rfl) hE (hD.sub (ws' := []) [] (by decide) rfl)) rfl rfl hl.1 rfl (lv_room (Nat.le_of_ble_eq_true rfl)) dX10_type_9 ⟨Nat.le_refl _, Nat.le_refl _⟩) (fun rr_4 _ H locs hr_5 hP hD hS => ?_)
        obtain rfl := hr_5
        have hP : va_P (dC, dI) vwCl [(mm, .inr (10, [.int 0, .ref qlev, .ref qtxt, .int ityped, .int inext, .int itoken, .int iplace, .int ivalue, .int ifault, .int imany, .int idrafts, .ref qstm, .ref qsm, .int isumMany, .ref qsgn, .ref qvls, .ref qopn, .ref qopp, .ref qbke, .ref qbko, .ref qbkl, .ref qcel, .int isteps, .int icame, .ref qtap, .ref qtpl, .int iranSteps, .int iranCame, .ref qrtp, .ref qrlv, .int ipassed, .ref qsen, .ref qhpo, .ref qhpm, .ref qbgn, .ref qchn, .ref qsgt, .int isecrets, .int iheaps, .ref qrsd])), (qtxt, aI cI 300 atxt)] H := hP
        have hD : va_D A [(mm, .inr (10, [.int 0, .ref qlev, .ref qtxt, .int ityped, .int inext, .int itoken, .int iplace, .int ivalue, .int ifault, .int imany, .int idrafts, .ref qstm, .ref qsm, .int isumMany, .ref qsgn, .ref qvls, .ref qopn, .ref qopp, .ref qbke, .ref qbko, .ref qbkl, .ref qcel, .int isteps, .int icame, .ref qtap, .ref qtpl, .int iranSteps, .int iranCame, .ref qrtp, .ref qrlv, .int ipassed, .ref qsen, .ref qhpo, .ref qhpm, .ref qbgn, .ref qchn, .ref qsgt, .int isecrets, .int iheaps, .ref qrsd])), (qtxt, aI cI 300 atxt)] := hD
        refine lv_if_ne (tgt := 17) hx hb dX10_type_12 (by decide) (fun c_6 => ?_) (fun c_6 => ?_)
        · rw [if_neg c_6] at hB
          refine lv_aload_n hx hb dX10_type_17 rfl (lv_at hl 0 rfl) ?_
          refine va_get (D := (dC, dI)) (ci := 10) (v := .int ityped) (C := RX10) (T := TX10) (N := 40) hx hb hts hiX10 hown hK hP 0 rfl rfl 3 (by decide) (hts (.fieldLink RX10 88 "WatchedProgramsModel" "typed" "I") (by decide +kernel)) (fun _ h9 => h9) rfl dX10_type_18 ?_
          refine lv_iload_n hx hb dX10_type_21 rfl (lv_at hl 2 rfl) ?_
          refine lv_iadd hx hb dX10_type_22 ?_
          refine lv_sipush (v := 300) hx hb dX10_type_23 (by decide) ?_
          refine lv_icmp_le (tgt := 32) hx hb dX10_type_26 (by decide) (fun c_7 => ?_) (fun c_7 => ?_)
          · rw [if_pos c_7] at hB
            refine lv_iload_n hx hb dX10_type_32 rfl (lv_at hl 2 rfl) ?_
            refine lv_iconst (v := 1) hx hb dX10_type_33 (by decide) ?_
            refine lv_isub hx hb dX10_type_34 ?_
            refine lv_istore (lv' := [(4, .int (l3 - 1)), (0, .ref mm), (1, .long j1), (3, .int l3)]) hx hb dX10_type_35 hl (by decide) rfl (fun ls hl => ?_)
            exact ih.2 j1 l3 (l3 - 1) 0 ityped atxt _ _ _ _ hB _ _ (hP.sub (ws' := [(mm, .inr (10, [.int 0, .ref qlev, .ref qtxt, .int ityped, .int inext, .int itoken, .int iplace, .int ivalue, .int ifault, .int imany, .int idrafts, .ref qstm, .ref qsm, .int isumMany, .ref qsgn, .ref qvls, .ref qopn, .ref qopp, .ref qbke, .ref qbko, .ref qbkl, .ref qcel, .int isteps, .int icame, .ref qtap, .ref qtpl, .int iranSteps, .int iranCame, .ref qrtp, .ref qrlv, .int ipassed, .ref qsen, .ref qhpo, .ref qhpm, .ref qbgn, .ref qchn, .ref qsgt, .int isecrets, .int iheaps, .ref qrsd])), (qtxt, aI cI 300 atxt)]) [0, 1] rfl) (hD.sub (ws' := [(mm, .inr (10, [.int 0, .ref qlev, .ref qtxt, .int ityped, .int inext, .int itoken, .int iplace, .int ivalue, .int ifault, .int imany, .int idrafts, .ref qstm, .ref qsm, .int isumMany, .ref qsgn, .ref qvls, .ref qopn, .ref qopp, .ref qbke, .ref qbko, .ref qbkl, .ref qcel, .int isteps, .int icame, .ref qtap, .ref qtpl, .int iranSteps, .int iranCame, .ref qrtp, .ref qrlv, .int ipassed, .ref qsen, .ref qhpo, .ref qhpm, .ref qbgn, .ref qchn, .ref qsgt, .int isecrets, .int iheaps, .ref qrsd])), (qtxt, aI cI 300 atxt)]) [0, 1] (by decide) rfl) hS ls (lv_sub hl [1, 2, 3, 0] rfl)
          · rw [if_neg c_7] at hB
            refine lv_bipush (v := (-3)) hx hb dX10_type_29 (by decide) ?_
            cases hB
            have hP9 := (hP.sub (ws' := [(mm, .inr (10, [.int 0, .ref qlev, .ref qtxt, .int ityped, .int inext, .int itoken, .int iplace, .int ivalue, .int ifault, .int imany, .int idrafts, .ref qstm, .ref qsm, .int isumMany, .ref qsgn, .ref qvls, .ref qopn, .ref qopp, .ref qbke, .ref qbko, .ref qbkl, .ref qcel, .int isteps, .int icame, .ref qtap, .ref qtpl, .int iranSteps, .int iranCame, .ref qrtp, .ref qrlv, .int ipassed, .ref qsen, .ref qhpo, .ref qhpm, .ref qbgn, .ref qchn, .ref qsgt, .int isecrets, .int iheaps, .ref qrsd])), (qtxt, aI cI 300 atxt)]) [0, 1] rfl)
            have hD9 := (hD.sub (ws' := [(mm, .inr (10, [.int 0, .ref qlev, .ref qtxt, .int ityped, .int inext, .int itoken, .int iplace, .int ivalue, .int ifault, .int imany, .int idrafts, .ref qstm, .ref qsm, .int isumMany, .ref qsgn, .ref qvls, .ref qopn, .ref qopp, .ref qbke, .ref qbko, .ref qbkl, .ref qcel, .int isteps, .int icame, .ref qtap, .ref qtpl, .int iranSteps, .int iranCame, .ref qrtp, .ref qrlv, .int ipassed, .ref qsen, .ref qhpo, .ref qhpm, .ref qbgn, .ref qchn, .ref qsgt, .int isecrets, .int iheaps, .ref qrsd])), (qtxt, aI cI 300 atxt)]) [0, 1] (by decide) rfl)
            exact W.iret (v := (-3)) hx hb hr (fun tt_ ht hW => ⟨⟨_, (), rfl, rfl, by rw [ht]; exact hP9, hD9⟩, hS.F ht⟩) hS.2.2 dX10_type_31
        · rw [if_pos c_6] at hB
          refine lv_iconst (v := (-1)) hx hb dX10_type_15 (by decide) ?_
          cases hB
          have hP9 := (hP.sub (ws' := [(mm, .inr (10, [.int 0, .ref qlev, .ref qtxt, .int ityped, .int inext, .int itoken, .int iplace, .int ivalue, .int ifault, .int imany, .int idrafts, .ref qstm, .ref qsm, .int isumMany, .ref qsgn, .ref qvls, .ref qopn, .ref qopp, .ref qbke, .ref qbko, .ref qbkl, .ref qcel, .int isteps, .int icame, .ref qtap, .ref qtpl, .int iranSteps, .int iranCame, .ref qrtp, .ref qrlv, .int ipassed, .ref qsen, .ref qhpo, .ref qhpm, .ref qbgn, .ref qchn, .ref qsgt, .int isecrets, .int iheaps, .ref qrsd])), (qtxt, aI cI 300 atxt)]) [0, 1] rfl)
          have hD9 := (hD.sub (ws' := [(mm, .inr (10, [.int 0, .ref qlev, .ref qtxt, .int ityped, .int inext, .int itoken, .int iplace, .int ivalue, .int ifault, .int imany, .int idrafts, .ref qstm, .ref qsm, .int isumMany, .ref qsgn, .ref qvls, .ref qopn, .ref qopp, .ref qbke, .ref qbko, .ref qbkl, .ref qcel, .int isteps, .int icame, .ref qtap, .ref qtpl, .int iranSteps, .int iranCame, .ref qrtp, .ref qrlv, .int ipassed, .ref qsen, .ref qhpo, .ref qhpm, .ref qbgn, .ref qchn, .ref qsgt, .int isecrets, .int iheaps, .ref qrsd])), (qtxt, aI cI 300 atxt)]) [0, 1] (by decide) rfl)
          exact W.iret (v := (-1)) hx hb hr (fun tt_ ht hW => ⟨⟨_, (), rfl, rfl, by rw [ht]; exact hP9, hD9⟩, hS.F ht⟩) hS.2.2 dX10_type_16
      · intro j1 l3 l4 ithrown ityped atxt r w0 w1 w2 hB H locs hP hD hS ls hl
        change B_m_type_1 K  (L_m_type K  n) j1 l3 l4 ithrown ityped atxt = some (r, w0, w1, w2) at hB
        unfold B_m_type_1 at hB
        refine lv_iload hx hb dX10_type_37 (lv_at hl 3 rfl) ?_
        refine lv_if_lt (tgt := 79) hx hb dX10_type_39 (by decide) (fun c_1 => ?_) (fun c_1 => ?_)
        · rw [if_pos c_1] at hB
          refine lv_aload_n hx hb dX10_type_79 rfl (lv_at hl 0 rfl) ?_
          refine va_get (D := (dC, dI)) (ci := 10) (v := .int ityped) (C := RX10) (T := TX10) (N := 40) hx hb hts hiX10 hown hK hP 0 rfl rfl 3 (by decide) (hts (.fieldLink RX10 88 "WatchedProgramsModel" "typed" "I") (by decide +kernel)) (fun _ h9 => h9) rfl dX10_type_80 ?_
          cases hB
          have hP9 := (hP.sub (ws' := [(mm, .inr (10, [.int ithrown, .ref qlev, .ref qtxt, .int ityped, .int inext, .int itoken, .int iplace, .int ivalue, .int ifault, .int imany, .int idrafts, .ref qstm, .ref qsm, .int isumMany, .ref qsgn, .ref qvls, .ref qopn, .ref qopp, .ref qbke, .ref qbko, .ref qbkl, .ref qcel, .int isteps, .int icame, .ref qtap, .ref qtpl, .int iranSteps, .int iranCame, .ref qrtp, .ref qrlv, .int ipassed, .ref qsen, .ref qhpo, .ref qhpm, .ref qbgn, .ref qchn, .ref qsgt, .int isecrets, .int iheaps, .ref qrsd])), (qtxt, aI cI 300 atxt)]) [0, 1] rfl)
          have hD9 := (hD.sub (ws' := [(mm, .inr (10, [.int ithrown, .ref qlev, .ref qtxt, .int ityped, .int inext, .int itoken, .int iplace, .int ivalue, .int ifault, .int imany, .int idrafts, .ref qstm, .ref qsm, .int isumMany, .ref qsgn, .ref qvls, .ref qopn, .ref qopp, .ref qbke, .ref qbko, .ref qbkl, .ref qcel, .int isteps, .int icame, .ref qtap, .ref qtpl, .int iranSteps, .int iranCame, .ref qrtp, .ref qrlv, .int ipassed, .ref qsen, .ref qhpo, .ref qhpm, .ref qbgn, .ref qchn, .ref qsgt, .int isecrets, .int iheaps, .ref qrsd])), (qtxt, aI cI 300 atxt)]) [0, 1] (by decide) rfl)
          exact W.iret (v := ityped) hx hb hr (fun tt_ ht hW => ⟨⟨_, (), rfl, rfl, by rw [ht]; exact hP9, hD9⟩, hS.F ht⟩) hS.2.2 dX10_type_83
        · rw [if_neg c_1] at hB
          refine lv_aload_n hx hb dX10_type_42 rfl (lv_at hl 0 rfl) ?_
          refine va_get (D := (dC, dI)) (ci := 10) (v := .ref qtxt) (C := RX10) (T := TX10) (N := 40) hx hb hts hiX10 hown hK hP 0 rfl rfl 2 (by decide) (hts (.fieldLink RX10 13 "WatchedProgramsModel" "text" "[I") (by decide +kernel)) (fun _ h9 => h9) rfl dX10_type_43 ?_
          refine lv_aload_n hx hb dX10_type_46 rfl (lv_at hl 0 rfl) ?_
          refine va_get (D := (dC, dI)) (ci := 10) (v := .int ityped) (C := RX10) (T := TX10) (N := 40) hx hb hts hiX10 hown hK hP 0 rfl rfl 3 (by decide) (hts (.fieldLink RX10 88 "WatchedProgramsModel" "typed" "I") (by decide +kernel)) (fun _ h9 => h9) rfl dX10_type_47 ?_
          refine lv_lload_n hx hb dX10_type_50 rfl (lv_at hl 1 rfl) ?_
          refine lv_bipush (v := 8) hx hb dX10_type_51 (by decide) ?_
          refine lv_iload hx hb dX10_type_53 (lv_at hl 3 rfl) ?_
          refine lv_imul hx hb dX10_type_55 ?_
          refine lv_lshr (v := (j1 >>> (((8 * l4)).toInt64 &&& 63))) hx hb dX10_type_56 rfl ?_
          refine lv_ldc2 (v := 255) hx hb hown (hts (.constantLong RX10 91 (255)) (by decide +kernel)) dX10_type_57 ?_
          refine lv_land hx hb dX10_type_60 ?_
          refine lv_l2i (v := (((j1 >>> (((8 * l4)).toInt64 &&& 63)) &&& 255)).toInt32) hx hb dX10_type_61 rfl ?_
          by_cases k_2 : okIx ityped 300 = true
          case neg => rw [if_neg k_2] at hB; cases hB
          rw [if_pos k_2] at hB
          refine va_iast hx hb hK hP hD hS 1 0 rfl rfl (okIx_in k_2) dX10_type_62 (fun H locs hP hD hS => ?_)
          have hP : va_P (dC, dI) vwCl [(mm, .inr (10, [.int ithrown, .ref qlev, .ref qtxt, .int ityped, .int inext, .int itoken, .int iplace, .int ivalue, .int ifault, .int imany, .int idrafts, .ref qstm, .ref qsm, .int isumMany, .ref qsgn, .ref qvls, .ref qopn, .ref qopp, .ref qbke, .ref qbko, .ref qbkl, .ref qcel, .int isteps, .int icame, .ref qtap, .ref qtpl, .int iranSteps, .int iranCame, .ref qrtp, .ref qrlv, .int ipassed, .ref qsen, .ref qhpo, .ref qhpm, .ref qbgn, .ref qchn, .ref qsgt, .int isecrets, .int iheaps, .ref qrsd])), (qtxt, aI cI 300 (upd atxt (ityped).toNatClampNeg ((((j1 >>> (((8 * l4)).toInt64 &&& 63)) &&& 255)).toInt32)))] H := hP
          have hD : va_D A [(mm, .inr (10, [.int ithrown, .ref qlev, .ref qtxt, .int ityped, .int inext, .int itoken, .int iplace, .int ivalue, .int ifault, .int imany, .int idrafts, .ref qstm, .ref qsm, .int isumMany, .ref qsgn, .ref qvls, .ref qopn, .ref qopp, .ref qbke, .ref qbko, .ref qbkl, .ref qcel, .int isteps, .int icame, .ref qtap, .ref qtpl, .int iranSteps, .int iranCame, .ref qrtp, .ref qrlv, .int ipassed, .ref qsen, .ref qhpo, .ref qhpm, .ref qbgn, .ref qchn, .ref qsgt, .int isecrets, .int iheaps, .ref qrsd])), (qtxt, aI cI 300 (upd atxt (ityped).toNatClampNeg ((((j1 >>> (((8 * l4)).toInt64 &&& 63)) &&& 255)).toInt32)))] := hD
          refine lv_aload_n hx hb dX10_type_63 rfl (lv_at hl 0 rfl) ?_
          refine lv_dup hx hb dX10_type_64 rfl ?_
          refine va_get (D := (dC, dI)) (ci := 10) (v := .int ityped) (C := RX10) (T := TX10) (N := 40) hx hb hts hiX10 hown hK hP 0 rfl rfl 3 (by decide) (hts (.fieldLink RX10 88 "WatchedProgramsModel" "typed" "I") (by decide +kernel)) (fun _ h9 => h9) rfl dX10_type_65 ?_
          refine lv_iconst (v := 1) hx hb dX10_type_68 (by decide) ?_
          refine lv_iadd hx hb dX10_type_69 ?_
          refine va_put (D := (dC, dI)) (ci := 10) (v := .int (ityped + 1)) (ty := .int) (C := RX10) (T := TX10) (N := 40) hx hb hts hiX10 tyX10 tyX10_ok nmX10 hown hK hP hD hS 0 rfl rfl 3 (by decide) (hts (.fieldLink RX10 88 "WatchedProgramsModel" "typed" "I") (by decide +kernel)) (fun _ h9 => h9) rfl (by decide +kernel) rfl rfl (Nat.le_of_ble_eq_true rfl) dX10_type_70 (fun H locs hP hD hS => ?_)
          have hP : va_P (dC, dI) vwCl [(mm, .inr (10, [.int ithrown, .ref qlev, .ref qtxt, .int (ityped + 1), .int inext, .int itoken, .int iplace, .int ivalue, .int ifault, .int imany, .int idrafts, .ref qstm, .ref qsm, .int isumMany, .ref qsgn, .ref qvls, .ref qopn, .ref qopp, .ref qbke, .ref qbko, .ref qbkl, .ref qcel, .int isteps, .int icame, .ref qtap, .ref qtpl, .int iranSteps, .int iranCame, .ref qrtp, .ref qrlv, .int ipassed, .ref qsen, .ref qhpo, .ref qhpm, .ref qbgn, .ref qchn, .ref qsgt, .int isecrets, .int iheaps, .ref qrsd])), (qtxt, aI cI 300 (upd atxt (ityped).toNatClampNeg ((((j1 >>> (((8 * l4)).toInt64 &&& 63)) &&& 255)).toInt32)))] H := hP
          have hD : va_D A [(mm, .inr (10, [.int ithrown, .ref qlev, .ref qtxt, .int (ityped + 1), .int inext, .int itoken, .int iplace, .int ivalue, .int ifault, .int imany, .int idrafts, .ref qstm, .ref qsm, .int isumMany, .ref qsgn, .ref qvls, .ref qopn, .ref qopp, .ref qbke, .ref qbko, .ref qbkl, .ref qcel, .int isteps, .int icame, .ref qtap, .ref qtpl, .int iranSteps, .int iranCame, .ref qrtp, .ref qrlv, .int ipassed, .ref qsen, .ref qhpo, .ref qhpm, .ref qbgn, .ref qchn, .ref qsgt, .int isecrets, .int iheaps, .ref qrsd])), (qtxt, aI cI 300 (upd atxt (ityped).toNatClampNeg ((((j1 >>> (((8 * l4)).toInt64 &&& 63)) &&& 255)).toInt32)))] := hD
          refine lv_iinc (v := (l4 + (-1))) (lv' := [(4, .int (l4 + (-1))), (0, .ref mm), (1, .long j1), (3, .int l3)]) hx hb dX10_type_73 hl (k := 3) rfl (rfl) (by decide) rfl (fun ls hl => ?_)
          refine lv_goto (tgt := 37) hx hb dX10_type_76 (by decide) ?_
          exact ih.2 j1 l3 (l4 + (-1)) ithrown (ityped + 1) (upd atxt (ityped).toNatClampNeg ((((j1 >>> (((8 * l4)).toInt64 &&& 63)) &&& 255)).toInt32)) _ _ _ _ hB _ _ (hP.sub (ws' := [(mm, .inr (10, [.int ithrown, .ref qlev, .ref qtxt, .int (ityped + 1), .int inext, .int itoken, .int iplace, .int ivalue, .int ifault, .int imany, .int idrafts, .ref qstm, .ref qsm, .int isumMany, .ref qsgn, .ref qvls, .ref qopn, .ref qopp, .ref qbke, .ref qbko, .ref qbkl, .ref qcel, .int isteps, .int icame, .ref qtap, .ref qtpl, .int iranSteps, .int iranCame, .ref qrtp, .ref qrlv, .int ipassed, .ref qsen, .ref qhpo, .ref qhpm, .ref qbgn, .ref qchn, .ref qsgt, .int isecrets, .int iheaps, .ref qrsd])), (qtxt, aI cI 300 (upd atxt (ityped).toNatClampNeg ((((j1 >>> (((8 * l4)).toInt64 &&& 63)) &&& 255)).toInt32)))]) [0, 1] rfl) (hD.sub (ws' := [(mm, .inr (10, [.int ithrown, .ref qlev, .ref qtxt, .int (ityped + 1), .int inext, .int itoken, .int iplace, .int ivalue, .int ifault, .int imany, .int idrafts, .ref qstm, .ref qsm, .int isumMany, .ref qsgn, .ref qvls, .ref qopn, .ref qopp, .ref qbke, .ref qbko, .ref qbkl, .ref qcel, .int isteps, .int icame, .ref qtap, .ref qtpl, .int iranSteps, .int iranCame, .ref qrtp, .ref qrlv, .int ipassed, .ref qsen, .ref qhpo, .ref qhpm, .ref qbgn, .ref qchn, .ref qsgt, .int isecrets, .int iheaps, .ref qrsd])), (qtxt, aI cI 300 (upd atxt (ityped).toNatClampNeg ((((j1 >>> (((8 * l4)).toInt64 &&& 63)) &&& 255)).toInt32)))]) [0, 1] (by decide) rfl) hS ls (lv_sub hl [1, 2, 3, 0] rfl)
  exact (key K).1 p1 p2 0 ithrown ityped atxt r w0 w1 w2 hF _ _ hP hD hS ls hl
def B_m_clear_0 (K : Nat)  (rec : Nat → Int32 → Int32 → Option (Int32 × Int32 × Int32)) (ithrown : Int32) (ityped : Int32) : Option (Int32 × Int32 × Int32) := some (ityped, 0, 0)
def L_m_clear (K : Nat)  : Nat → Nat → Int32 → Int32 → Option (Int32 × Int32 × Int32)
  | 0 => fun _ _ _ => none
  | n + 1 => fun c ithrown ityped => if c = 0 then B_m_clear_0 K  (L_m_clear K  n) ithrown ityped else none
def F_m_clear (K : Nat)  (ithrown : Int32) (ityped : Int32) : Option (Int32 × Int32 × Int32) := L_m_clear K K 0 ithrown ityped
set_option maxHeartbeats 2000000 in
set_option maxRecDepth 100000 in
theorem c_m_clear (l : Launch) (dC : Nat → ClassId) (dI : Nat → Nat → Nat) (cI cJ cS : ClassId) (sz K : Nat) (mm : Nat) (ithrown : Int32) (qlev : Nat) (qtxt : Nat) (ityped : Int32) (inext : Int32) (itoken : Int32) (iplace : Int32) (ivalue : Int32) (ifault : Int32) (imany : Int32) (idrafts : Int32) (qstm : Nat) (qsm : Nat) (isumMany : Int32) (qsgn : Nat) (qvls : Nat) (qopn : Nat) (qopp : Nat) (qbke : Nat) (qbko : Nat) (qbkl : Nat) (qcel : Nat) (isteps : Int32) (icame : Int32) (qtap : Nat) (qtpl : Nat) (iranSteps : Int32) (iranCame : Int32) (qrtp : Nat) (qrlv : Nat) (ipassed : Int32) (qsen : Nat) (qhpo : Nat) (qhpm : Nat) (qbgn : Nat) (qchn : Nat) (qsgt : Nat) (isecrets : Int32) (iheaps : Int32) (qrsd : Nat) (r : Int32) (w0 : Int32) (w1 : Int32) (hF : F_m_clear K ithrown ityped = some (r, w0, w1)) : Met l yX10_clear wsX10_clear ({ frames := 0, cells := 0, slots := 0, locals := 0 }) (va_Pc [.ref mm] (PE dC dI cI cJ cS [(mm, .inr (10, [.int ithrown, .ref qlev, .ref qtxt, .int ityped, .int inext, .int itoken, .int iplace, .int ivalue, .int ifault, .int imany, .int idrafts, .ref qstm, .ref qsm, .int isumMany, .ref qsgn, .ref qvls, .ref qopn, .ref qopp, .ref qbke, .ref qbko, .ref qbkl, .ref qcel, .int isteps, .int icame, .ref qtap, .ref qtpl, .int iranSteps, .int iranCame, .ref qrtp, .ref qrlv, .int ipassed, .ref qsen, .ref qhpo, .ref qhpm, .ref qbgn, .ref qchn, .ref qsgt, .int isecrets, .int iheaps, .ref qrsd]))] sz)) (va_Qi (fun (r_ : Int32) (_ : Unit) => r_ = r) (BE dC dI (va_A [(mm, .inr (10, [.int ithrown, .ref qlev, .ref qtxt, .int ityped, .int inext, .int itoken, .int iplace, .int ivalue, .int ifault, .int imany, .int idrafts, .ref qstm, .ref qsm, .int isumMany, .ref qsgn, .ref qvls, .ref qopn, .ref qopp, .ref qbke, .ref qbko, .ref qbkl, .ref qcel, .int isteps, .int icame, .ref qtap, .ref qtpl, .int iranSteps, .int iranCame, .ref qrtp, .ref qrlv, .int ipassed, .ref qsen, .ref qhpo, .ref qhpm, .ref qbgn, .ref qchn, .ref qsgt, .int isecrets, .int iheaps, .ref qrsd]))] sz) (fun _ => [(mm, .inr (10, [.int w0, .ref qlev, .ref qtxt, .int w1, .int inext, .int itoken, .int iplace, .int ivalue, .int ifault, .int imany, .int idrafts, .ref qstm, .ref qsm, .int isumMany, .ref qsgn, .ref qvls, .ref qopn, .ref qopp, .ref qbke, .ref qbko, .ref qbkl, .ref qcel, .int isteps, .int icame, .ref qtap, .ref qtpl, .int iranSteps, .int iranCame, .ref qrtp, .ref qrlv, .int ipassed, .ref qsen, .ref qhpo, .ref qhpm, .ref qbgn, .ref qchn, .ref qsgt, .int isecrets, .int iheaps, .ref qrsd]))])) (va_A [(mm, .inr (10, [.int ithrown, .ref qlev, .ref qtxt, .int ityped, .int inext, .int itoken, .int iplace, .int ivalue, .int ifault, .int imany, .int idrafts, .ref qstm, .ref qsm, .int isumMany, .ref qsgn, .ref qvls, .ref qopn, .ref qopp, .ref qbke, .ref qbko, .ref qbkl, .ref qcel, .int isteps, .int icame, .ref qtap, .ref qtpl, .int iranSteps, .int iranCame, .ref qrtp, .ref qrlv, .int ipassed, .ref qsen, .ref qhpo, .ref qhpm, .ref qbgn, .ref qchn, .ref qsgt, .int isecrets, .int iheaps, .ref qrsd]))] sz)) 0 0 (va_A [(mm, .inr (10, [.int ithrown, .ref qlev, .ref qtxt, .int ityped, .int inext, .int itoken, .int iplace, .int ivalue, .int ifault, .int imany, .int idrafts, .ref qstm, .ref qsm, .int isumMany, .ref qsgn, .ref qvls, .ref qopn, .ref qopp, .ref qbke, .ref qbko, .ref qbkl, .ref qcel, .int isteps, .int icame, .ref qtap, .ref qtpl, .int iranSteps, .int iranCame, .ref qrtp, .ref qrlv, .int ipassed, .ref qsen, .ref qhpo, .ref qhpm, .ref qbgn, .ref qchn, .ref qsgt, .int isecrets, .int iheaps, .ref qrsd]))] sz) := by
  refine Met.ofW (cc := cX10_clear) (maxL := 2) (ret := (some .int)) (by decide) rfl ?_
  intro pp_ ee_ ss_ mm_ args below meth cc_ s₁ B hml hv
  obtain ⟨rfl, hsz, hP, hE, hD0⟩ := hv
  have hx := B.exec
  have hb := B.bytes
  have hr := B.returns
  have hts := atoms_spec (ws := wsX10_clear) B.pre
  have hown : ss_.vm.findClass RX10 = some mm_.cls := findClass_of_methodNamed B.named
  have hlocks := B.notSynchronized
  have hK := hE.1
  have hiX10 : ∀ w ∈ wsX100, w ∈ wsX10_clear := by decide +kernel
  subst hsz
  have hD := hD0.self (sz := ss_.heap.size)
  generalize hAe : va_A [(mm, .inr (10, [.int ithrown, .ref qlev, .ref qtxt, .int ityped, .int inext, .int itoken, .int iplace, .int ivalue, .int ifault, .int imany, .int idrafts, .ref qstm, .ref qsm, .int isumMany, .ref qsgn, .ref qvls, .ref qopn, .ref qopp, .ref qbke, .ref qbko, .ref qbkl, .ref qcel, .int isteps, .int icame, .ref qtap, .ref qtpl, .int iranSteps, .int iranCame, .ref qrtp, .ref qrlv, .int ipassed, .ref qsen, .ref qhpo, .ref qhpm, .ref qbgn, .ref qchn, .ref qsgt, .int isecrets, .int iheaps, .ref qrsd]))] ss_.heap.size = A at hD ⊢
  have hA : ∀ q : Nat, ss_.heap.size ≤ q → A q := fun q h => by rw [← hAe]; exact Or.inr h
  have hS : va_S A ss_.heap ss_.heap [] := va_S.rf
  have hl := lv_entry ([.ref mm]) (n := 2) (Nat.le_of_ble_eq_true rfl)
  rw [lg_entry_eq]
  generalize (lg_sl ([.ref mm]) ++ List.replicate (2 - (lg_sl ([.ref mm])).length) Slot.unset).toArray = ls at hl ⊢
  have hl : lv_has ls 2 [(0, .ref mm)] := hl
  have key : ∀ n : Nat, (∀ (ithrown : Int32) (ityped : Int32) (r : Int32) (w0 : Int32) (w1 : Int32), L_m_clear K  n 0 ithrown ityped = some (r, w0, w1) → ∀ (H : Heap) (locs : List Loc), va_P (dC, dI) vwCl [(mm, .inr (10, [.int ithrown, .ref qlev, .ref qtxt, .int ityped, .int inext, .int itoken, .int iplace, .int ivalue, .int ifault, .int imany, .int idrafts, .ref qstm, .ref qsm, .int isumMany, .ref qsgn, .ref qvls, .ref qopn, .ref qopp, .ref qbke, .ref qbko, .ref qbkl, .ref qcel, .int isteps, .int icame, .ref qtap, .ref qtpl, .int iranSteps, .int iranCame, .ref qrtp, .ref qrlv, .int ipassed, .ref qsen, .ref qhpo, .ref qhpm, .ref qbgn, .ref qchn, .ref qsgt, .int isecrets, .int iheaps, .ref qrsd]))] H → va_D A [(mm, .inr (10, [.int ithrown, .ref qlev, .ref qtxt, .int ityped, .int inext, .int itoken, .int iplace, .int ivalue, .int ifault, .int imany, .int idrafts, .ref qstm, .ref qsm, .int isumMany, .ref qsgn, .ref qvls, .ref qopn, .ref qopp, .ref qbke, .ref qbko, .ref qbkl, .ref qcel, .int isteps, .int icame, .ref qtap, .ref qtpl, .int iranSteps, .int iranCame, .ref qrtp, .ref qrlv, .int ipassed, .ref qsen, .ref qhpo, .ref qhpm, .ref qbgn, .ref qchn, .ref qsgt, .int isecrets, .int iheaps, .ref qrsd]))] → va_S A ss_.heap H locs → ∀ ls : Array Slot, lv_has ls 2 [(0, .ref mm)] → W pp_ l ee_ (headSpec wsX10_clear ({ frames := 0, cells := 0, slots := 0, locals := 0 })).room ss_ mm_ #[.ref mm] below meth cc_ H locs 0 0 (MQ below (va_Qi (fun (r_ : Int32) (_ : Unit) => r_ = r) (BE dC dI A (fun _ => [(mm, .inr (10, [.int w0, .ref qlev, .ref qtxt, .int w1, .int inext, .int itoken, .int iplace, .int ivalue, .int ifault, .int imany, .int idrafts, .ref qstm, .ref qsm, .int isumMany, .ref qsgn, .ref qvls, .ref qopn, .ref qopp, .ref qbke, .ref qbko, .ref qbkl, .ref qcel, .int isteps, .int icame, .ref qtap, .ref qtpl, .int iranSteps, .int iranCame, .ref qrtp, .ref qrlv, .int ipassed, .ref qsen, .ref qhpo, .ref qhpm, .ref qbgn, .ref qchn, .ref qsgt, .int isecrets, .int iheaps, .ref qrsd]))])) A) #[.ref mm] ss_ 0 0 A) (F0 mm_ 0 ls [])) := by
    intro n
    induction n with
    | zero => exact fun _ _ _ _ _ hF => absurd hF (fun e => by cases e)
    | succ n ih =>
      intro ithrown ityped r w0 w1 hB H locs hP hD hS ls hl
      change B_m_clear_0 K  (L_m_clear K  n) ithrown ityped = some (r, w0, w1) at hB
      unfold B_m_clear_0 at hB
      refine lv_aload_n hx hb dX10_clear_0 rfl (lv_at hl 0 rfl) ?_
      refine lv_iconst (v := 0) hx hb dX10_clear_1 (by decide) ?_
      refine va_put (D := (dC, dI)) (ci := 10) (v := .int 0) (ty := .int) (C := RX10) (T := TX10) (N := 40) hx hb hts hiX10 tyX10 tyX10_ok nmX10 hown hK hP hD hS 0 rfl rfl 0 (by decide) (hts (.fieldLink RX10 80 "WatchedProgramsModel" "thrown" "I") (by decide +kernel)) (fun _ h9 => h9) rfl (by decide +kernel) rfl rfl (Nat.le_of_ble_eq_true rfl) dX10_clear_2 (fun H locs hP hD hS => ?_)
      have hP : va_P (dC, dI) vwCl [(mm, .inr (10, [.int 0, .ref qlev, .ref qtxt, .int ityped, .int inext, .int itoken, .int iplace, .int ivalue, .int ifault, .int imany, .int idrafts, .ref qstm, .ref qsm, .int isumMany, .ref qsgn, .ref qvls, .ref qopn, .ref qopp, .ref qbke, .ref qbko, .ref qbkl, .ref qcel, .int isteps, .int icame, .ref qtap, .ref qtpl, .int iranSteps, .int iranCame, .ref qrtp, .ref qrlv, .int ipassed, .ref qsen, .ref qhpo, .ref qhpm, .ref qbgn, .ref qchn, .ref qsgt, .int isecrets, .int iheaps, .ref qrsd]))] H := hP
      have hD : va_D A [(mm, .inr (10, [.int 0, .ref qlev, .ref qtxt, .int ityped, .int inext, .int itoken, .int iplace, .int ivalue, .int ifault, .int imany, .int idrafts, .ref qstm, .ref qsm, .int isumMany, .ref qsgn, .ref qvls, .ref qopn, .ref qopp, .ref qbke, .ref qbko, .ref qbkl, .ref qcel, .int isteps, .int icame, .ref qtap, .ref qtpl, .int iranSteps, .int iranCame, .ref qrtp, .ref qrlv, .int ipassed, .ref qsen, .ref qhpo, .ref qhpm, .ref qbgn, .ref qchn, .ref qsgt, .int isecrets, .int iheaps, .ref qrsd]))] := hD
      refine lv_aload_n hx hb dX10_clear_5 rfl (lv_at hl 0 rfl) ?_
      refine va_get (D := (dC, dI)) (ci := 10) (v := .int ityped) (C := RX10) (T := TX10) (N := 40) hx hb hts hiX10 hown hK hP 0 rfl rfl 3 (by decide) (hts (.fieldLink RX10 88 "WatchedProgramsModel" "typed" "I") (by decide +kernel)) (fun _ h9 => h9) rfl dX10_clear_6 ?_
      refine lv_istore_n (lv' := [(1, .int ityped), (0, .ref mm)]) hx hb dX10_clear_9 rfl hl (by decide) rfl (fun ls hl => ?_)
      refine lv_aload_n hx hb dX10_clear_10 rfl (lv_at hl 1 rfl) ?_
      refine lv_iconst (v := 0) hx hb dX10_clear_11 (by decide) ?_
      refine va_put (D := (dC, dI)) (ci := 10) (v := .int 0) (ty := .int) (C := RX10) (T := TX10) (N := 40) hx hb hts hiX10 tyX10 tyX10_ok nmX10 hown hK hP hD hS 0 rfl rfl 3 (by decide) (hts (.fieldLink RX10 88 "WatchedProgramsModel" "typed" "I") (by decide +kernel)) (fun _ h9 => h9) rfl (by decide +kernel) rfl rfl (Nat.le_of_ble_eq_true rfl) dX10_clear_12 (fun H locs hP hD hS => ?_)
      have hP : va_P (dC, dI) vwCl [(mm, .inr (10, [.int 0, .ref qlev, .ref qtxt, .int 0, .int inext, .int itoken, .int iplace, .int ivalue, .int ifault, .int imany, .int idrafts, .ref qstm, .ref qsm, .int isumMany, .ref qsgn, .ref qvls, .ref qopn, .ref qopp, .ref qbke, .ref qbko, .ref qbkl, .ref qcel, .int isteps, .int icame, .ref qtap, .ref qtpl, .int iranSteps, .int iranCame, .ref qrtp, .ref qrlv, .int ipassed, .ref qsen, .ref qhpo, .ref qhpm, .ref qbgn, .ref qchn, .ref qsgt, .int isecrets, .int iheaps, .ref qrsd]))] H := hP
      have hD : va_D A [(mm, .inr (10, [.int 0, .ref qlev, .ref qtxt, .int 0, .int inext, .int itoken, .int iplace, .int ivalue, .int ifault, .int imany, .int idrafts, .ref qstm, .ref qsm, .int isumMany, .ref qsgn, .ref qvls, .ref qopn, .ref qopp, .ref qbke, .ref qbko, .ref qbkl, .ref qcel, .int isteps, .int icame, .ref qtap, .ref qtpl, .int iranSteps, .int iranCame, .ref qrtp, .ref qrlv, .int ipassed, .ref qsen, .ref qhpo, .ref qhpm, .ref qbgn, .ref qchn, .ref qsgt, .int isecrets, .int iheaps, .ref qrsd]))] := hD
      refine lv_iload_n hx hb dX10_clear_15 rfl (lv_at hl 0 rfl) ?_
      cases hB
      have hP9 := (hP.sub (ws' := [(mm, .inr (10, [.int 0, .ref qlev, .ref qtxt, .int 0, .int inext, .int itoken, .int iplace, .int ivalue, .int ifault, .int imany, .int idrafts, .ref qstm, .ref qsm, .int isumMany, .ref qsgn, .ref qvls, .ref qopn, .ref qopp, .ref qbke, .ref qbko, .ref qbkl, .ref qcel, .int isteps, .int icame, .ref qtap, .ref qtpl, .int iranSteps, .int iranCame, .ref qrtp, .ref qrlv, .int ipassed, .ref qsen, .ref qhpo, .ref qhpm, .ref qbgn, .ref qchn, .ref qsgt, .int isecrets, .int iheaps, .ref qrsd]))]) [0] rfl)
      have hD9 := (hD.sub (ws' := [(mm, .inr (10, [.int 0, .ref qlev, .ref qtxt, .int 0, .int inext, .int itoken, .int iplace, .int ivalue, .int ifault, .int imany, .int idrafts, .ref qstm, .ref qsm, .int isumMany, .ref qsgn, .ref qvls, .ref qopn, .ref qopp, .ref qbke, .ref qbko, .ref qbkl, .ref qcel, .int isteps, .int icame, .ref qtap, .ref qtpl, .int iranSteps, .int iranCame, .ref qrtp, .ref qrlv, .int ipassed, .ref qsen, .ref qhpo, .ref qhpm, .ref qbgn, .ref qchn, .ref qsgt, .int isecrets, .int iheaps, .ref qrsd]))]) [0] (by decide) rfl)
      exact W.iret (v := ityped) hx hb hr (fun tt_ ht hW => ⟨⟨_, (), rfl, rfl, by rw [ht]; exact hP9, hD9⟩, hS.F ht⟩) hS.2.2 dX10_clear_16
  exact (key K) ithrown ityped r w0 w1 hF _ _ hP hD hS ls hl
def B_m_byteAt_0 (K : Nat)  (rec : Nat → Int32 → Int32 → (Nat → Int32) → Option (Int32)) (l1 : Int32) (ityped : Int32) (atxt : Nat → Int32) : Option (Int32) := if ityped ≤ l1 then (some ((-1))) else (if okIx l1 300 = true then (some ((atxt (l1).toNatClampNeg))) else none)
def L_m_byteAt (K : Nat)  : Nat → Nat → Int32 → Int32 → (Nat → Int32) → Option (Int32)
  | 0 => fun _ _ _ _ => none
  | n + 1 => fun c l1 ityped atxt => if c = 0 then B_m_byteAt_0 K  (L_m_byteAt K  n) l1 ityped atxt else none
def F_m_byteAt (K : Nat) (l1 : Int32) (ityped : Int32) (atxt : Nat → Int32) : Option (Int32) := L_m_byteAt K K 0 l1 ityped atxt
set_option maxHeartbeats 2000000 in
set_option maxRecDepth 100000 in
theorem c_m_byteAt (l : Launch) (dC : Nat → ClassId) (dI : Nat → Nat → Nat) (cI cJ cS : ClassId) (sz K : Nat) (mm : Nat) (p1 : Int32) (ithrown : Int32) (qlev : Nat) (qtxt : Nat) (ityped : Int32) (inext : Int32) (itoken : Int32) (iplace : Int32) (ivalue : Int32) (ifault : Int32) (imany : Int32) (idrafts : Int32) (qstm : Nat) (qsm : Nat) (isumMany : Int32) (qsgn : Nat) (qvls : Nat) (qopn : Nat) (qopp : Nat) (qbke : Nat) (qbko : Nat) (qbkl : Nat) (qcel : Nat) (isteps : Int32) (icame : Int32) (qtap : Nat) (qtpl : Nat) (iranSteps : Int32) (iranCame : Int32) (qrtp : Nat) (qrlv : Nat) (ipassed : Int32) (qsen : Nat) (qhpo : Nat) (qhpm : Nat) (qbgn : Nat) (qchn : Nat) (qsgt : Nat) (isecrets : Int32) (iheaps : Int32) (qrsd : Nat) (atxt : Nat → Int32) (r : Int32) (hF : F_m_byteAt K p1 ityped atxt = some (r)) : Met l yX10_byteAt wsX10_byteAt ({ frames := 0, cells := 0, slots := 0, locals := 0 }) (va_Pc [.ref mm, .int p1] (PE dC dI cI cJ cS [(mm, .inr (10, [.int ithrown, .ref qlev, .ref qtxt, .int ityped, .int inext, .int itoken, .int iplace, .int ivalue, .int ifault, .int imany, .int idrafts, .ref qstm, .ref qsm, .int isumMany, .ref qsgn, .ref qvls, .ref qopn, .ref qopp, .ref qbke, .ref qbko, .ref qbkl, .ref qcel, .int isteps, .int icame, .ref qtap, .ref qtpl, .int iranSteps, .int iranCame, .ref qrtp, .ref qrlv, .int ipassed, .ref qsen, .ref qhpo, .ref qhpm, .ref qbgn, .ref qchn, .ref qsgt, .int isecrets, .int iheaps, .ref qrsd])), (qtxt, aI cI 300 atxt)] sz)) (va_Qi (fun (r_ : Int32) (_ : Unit) => r_ = r) (BE dC dI (va_A [(mm, .inr (10, [.int ithrown, .ref qlev, .ref qtxt, .int ityped, .int inext, .int itoken, .int iplace, .int ivalue, .int ifault, .int imany, .int idrafts, .ref qstm, .ref qsm, .int isumMany, .ref qsgn, .ref qvls, .ref qopn, .ref qopp, .ref qbke, .ref qbko, .ref qbkl, .ref qcel, .int isteps, .int icame, .ref qtap, .ref qtpl, .int iranSteps, .int iranCame, .ref qrtp, .ref qrlv, .int ipassed, .ref qsen, .ref qhpo, .ref qhpm, .ref qbgn, .ref qchn, .ref qsgt, .int isecrets, .int iheaps, .ref qrsd])), (qtxt, aI cI 300 atxt)] sz) (fun _ => [(mm, .inr (10, [.int ithrown, .ref qlev, .ref qtxt, .int ityped, .int inext, .int itoken, .int iplace, .int ivalue, .int ifault, .int imany, .int idrafts, .ref qstm, .ref qsm, .int isumMany, .ref qsgn, .ref qvls, .ref qopn, .ref qopp, .ref qbke, .ref qbko, .ref qbkl, .ref qcel, .int isteps, .int icame, .ref qtap, .ref qtpl, .int iranSteps, .int iranCame, .ref qrtp, .ref qrlv, .int ipassed, .ref qsen, .ref qhpo, .ref qhpm, .ref qbgn, .ref qchn, .ref qsgt, .int isecrets, .int iheaps, .ref qrsd])), (qtxt, aI cI 300 atxt)])) (va_A [(mm, .inr (10, [.int ithrown, .ref qlev, .ref qtxt, .int ityped, .int inext, .int itoken, .int iplace, .int ivalue, .int ifault, .int imany, .int idrafts, .ref qstm, .ref qsm, .int isumMany, .ref qsgn, .ref qvls, .ref qopn, .ref qopp, .ref qbke, .ref qbko, .ref qbkl, .ref qcel, .int isteps, .int icame, .ref qtap, .ref qtpl, .int iranSteps, .int iranCame, .ref qrtp, .ref qrlv, .int ipassed, .ref qsen, .ref qhpo, .ref qhpm, .ref qbgn, .ref qchn, .ref qsgt, .int isecrets, .int iheaps, .ref qrsd])), (qtxt, aI cI 300 atxt)] sz)) 0 0 (va_A [(mm, .inr (10, [.int ithrown, .ref qlev, .ref qtxt, .int ityped, .int inext, .int itoken, .int iplace, .int ivalue, .int ifault, .int imany, .int idrafts, .ref qstm, .ref qsm, .int isumMany, .ref qsgn, .ref qvls, .ref qopn, .ref qopp, .ref qbke, .ref qbko, .ref qbkl, .ref qcel, .int isteps, .int icame, .ref qtap, .ref qtpl, .int iranSteps, .int iranCame, .ref qrtp, .ref qrlv, .int ipassed, .ref qsen, .ref qhpo, .ref qhpm, .ref qbgn, .ref qchn, .ref qsgt, .int isecrets, .int iheaps, .ref qrsd])), (qtxt, aI cI 300 atxt)] sz) := by
  refine Met.ofW (cc := cX10_byteAt) (maxL := 2) (ret := (some .int)) (by decide) rfl ?_
  intro pp_ ee_ ss_ mm_ args below meth cc_ s₁ B hml hv
  obtain ⟨rfl, hsz, hP, hE, hD0⟩ := hv
  have hx := B.exec
  have hb := B.bytes
  have hr := B.returns
  have hts := atoms_spec (ws := wsX10_byteAt) B.pre
  have hown : ss_.vm.findClass RX10 = some mm_.cls := findClass_of_methodNamed B.named
  have hlocks := B.notSynchronized
  have hK := hE.1
  have hiX10 : ∀ w ∈ wsX100, w ∈ wsX10_byteAt := by decide +kernel
  subst hsz
  have hD := hD0.self (sz := ss_.heap.size)
  generalize hAe : va_A [(mm, .inr (10, [.int ithrown, .ref qlev, .ref qtxt, .int ityped, .int inext, .int itoken, .int iplace, .int ivalue, .int ifault, .int imany, .int idrafts, .ref qstm, .ref qsm, .int isumMany, .ref qsgn, .ref qvls, .ref qopn, .ref qopp, .ref qbke, .ref qbko, .ref qbkl, .ref qcel, .int isteps, .int icame, .ref qtap, .ref qtpl, .int iranSteps, .int iranCame, .ref qrtp, .ref qrlv, .int ipassed, .ref qsen, .ref qhpo, .ref qhpm, .ref qbgn, .ref qchn, .ref qsgt, .int isecrets, .int iheaps, .ref qrsd])), (qtxt, aI cI 300 atxt)] ss_.heap.size = A at hD ⊢
  have hA : ∀ q : Nat, ss_.heap.size ≤ q → A q := fun q h => by rw [← hAe]; exact Or.inr h
  have hS : va_S A ss_.heap ss_.heap [] := va_S.rf
  have hl := lv_entry ([.ref mm, .int p1]) (n := 2) (Nat.le_of_ble_eq_true rfl)
  rw [lg_entry_eq]
  generalize (lg_sl ([.ref mm, .int p1]) ++ List.replicate (2 - (lg_sl ([.ref mm, .int p1])).length) Slot.unset).toArray = ls at hl ⊢
  have hl : lv_has ls 2 [(0, .ref mm), (1, .int p1)] := hl
  have key : ∀ n : Nat, (∀ (l1 : Int32) (ityped : Int32) (atxt : Nat → Int32) (r : Int32), L_m_byteAt K  n 0 l1 ityped atxt = some (r) → ∀ (H : Heap) (locs : List Loc), va_P (dC, dI) vwCl [(mm, .inr (10, [.int ithrown, .ref qlev, .ref qtxt, .int ityped, .int inext, .int itoken, .int iplace, .int ivalue, .int ifault, .int imany, .int idrafts, .ref qstm, .ref qsm, .int isumMany, .ref qsgn, .ref qvls, .ref qopn, .ref qopp, .ref qbke, .ref qbko, .ref qbkl, .ref qcel, .int isteps, .int icame, .ref qtap, .ref qtpl, .int iranSteps, .int iranCame, .ref qrtp, .ref qrlv, .int ipassed, .ref qsen, .ref qhpo, .ref qhpm, .ref qbgn, .ref qchn, .ref qsgt, .int isecrets, .int iheaps, .ref qrsd])), (qtxt, aI cI 300 atxt)] H → va_D A [(mm, .inr (10, [.int ithrown, .ref qlev, .ref qtxt, .int ityped, .int inext, .int itoken, .int iplace, .int ivalue, .int ifault, .int imany, .int idrafts, .ref qstm, .ref qsm, .int isumMany, .ref qsgn, .ref qvls, .ref qopn, .ref qopp, .ref qbke, .ref qbko, .ref qbkl, .ref qcel, .int isteps, .int icame, .ref qtap, .ref qtpl, .int iranSteps, .int iranCame, .ref qrtp, .ref qrlv, .int ipassed, .ref qsen, .ref qhpo, .ref qhpm, .ref qbgn, .ref qchn, .ref qsgt, .int isecrets, .int iheaps, .ref qrsd])), (qtxt, aI cI 300 atxt)] → va_S A ss_.heap H locs → ∀ ls : Array Slot, lv_has ls 2 [(0, .ref mm), (1, .int l1)] → W pp_ l ee_ (headSpec wsX10_byteAt ({ frames := 0, cells := 0, slots := 0, locals := 0 })).room ss_ mm_ #[.ref mm, .int p1] below meth cc_ H locs 0 0 (MQ below (va_Qi (fun (r_ : Int32) (_ : Unit) => r_ = r) (BE dC dI A (fun _ => [(mm, .inr (10, [.int ithrown, .ref qlev, .ref qtxt, .int ityped, .int inext, .int itoken, .int iplace, .int ivalue, .int ifault, .int imany, .int idrafts, .ref qstm, .ref qsm, .int isumMany, .ref qsgn, .ref qvls, .ref qopn, .ref qopp, .ref qbke, .ref qbko, .ref qbkl, .ref qcel, .int isteps, .int icame, .ref qtap, .ref qtpl, .int iranSteps, .int iranCame, .ref qrtp, .ref qrlv, .int ipassed, .ref qsen, .ref qhpo, .ref qhpm, .ref qbgn, .ref qchn, .ref qsgt, .int isecrets, .int iheaps, .ref qrsd])), (qtxt, aI cI 300 atxt)])) A) #[.ref mm, .int p1] ss_ 0 0 A) (F0 mm_ 0 ls [])) := by
    intro n
    induction n with
    | zero => exact fun _ _ _ _ hF => absurd hF (fun e => by cases e)
    | succ n ih =>
      intro l1 ityped atxt r hB H locs hP hD hS ls hl
      change B_m_byteAt_0 K  (L_m_byteAt K  n) l1 ityped atxt = some (r) at hB
      unfold B_m_byteAt_0 at hB
      refine lv_iload_n hx hb dX10_byteAt_0 rfl (lv_at hl 1 rfl) ?_
      refine lv_aload_n hx hb dX10_byteAt_1 rfl (lv_at hl 0 rfl) ?_
      refine va_get (D := (dC, dI)) (ci := 10) (v := .int ityped) (C := RX10) (T := TX10) (N := 40) hx hb hts hiX10 hown hK hP 0 rfl rfl 3 (by decide) (hts (.fieldLink RX10 88 "WatchedProgramsModel" "typed" "I") (by decide +kernel)) (fun _ h9 => h9) rfl dX10_byteAt_2 ?_
      refine lv_icmp_ge (tgt := 17) hx hb dX10_byteAt_5 (by decide) (fun c_1 => ?_) (fun c_1 => ?_)
      · rw [if_pos c_1] at hB
        refine lv_iconst (v := (-1)) hx hb dX10_byteAt_17 (by decide) ?_
        cases hB
        have hP9 := (hP.sub (ws' := [(mm, .inr (10, [.int ithrown, .ref qlev, .ref qtxt, .int ityped, .int inext, .int itoken, .int iplace, .int ivalue, .int ifault, .int imany, .int idrafts, .ref qstm, .ref qsm, .int isumMany, .ref qsgn, .ref qvls, .ref qopn, .ref qopp, .ref qbke, .ref qbko, .ref qbkl, .ref qcel, .int isteps, .int icame, .ref qtap, .ref qtpl, .int iranSteps, .int iranCame, .ref qrtp, .ref qrlv, .int ipassed, .ref qsen, .ref qhpo, .ref qhpm, .ref qbgn, .ref qchn, .ref qsgt, .int isecrets, .int iheaps, .ref qrsd])), (qtxt, aI cI 300 atxt)]) [0, 1] rfl)
        have hD9 := (hD.sub (ws' := [(mm, .inr (10, [.int ithrown, .ref qlev, .ref qtxt, .int ityped, .int inext, .int itoken, .int iplace, .int ivalue, .int ifault, .int imany, .int idrafts, .ref qstm, .ref qsm, .int isumMany, .ref qsgn, .ref qvls, .ref qopn, .ref qopp, .ref qbke, .ref qbko, .ref qbkl, .ref qcel, .int isteps, .int icame, .ref qtap, .ref qtpl, .int iranSteps, .int iranCame, .ref qrtp, .ref qrlv, .int ipassed, .ref qsen, .ref qhpo, .ref qhpm, .ref qbgn, .ref qchn, .ref qsgt, .int isecrets, .int iheaps, .ref qrsd])), (qtxt, aI cI 300 atxt)]) [0, 1] (by decide) rfl)
        exact W.iret (v := (-1)) hx hb hr (fun tt_ ht hW => ⟨⟨_, (), rfl, rfl, by rw [ht]; exact hP9, hD9⟩, hS.F ht⟩) hS.2.2 dX10_byteAt_18
      · rw [if_neg c_1] at hB
        refine lv_aload_n hx hb dX10_byteAt_8 rfl (lv_at hl 0 rfl) ?_
        refine va_get (D := (dC, dI)) (ci := 10) (v := .ref qtxt) (C := RX10) (T := TX10) (N := 40) hx hb hts hiX10 hown hK hP 0 rfl rfl 2 (by decide) (hts (.fieldLink RX10 13 "WatchedProgramsModel" "text" "[I") (by decide +kernel)) (fun _ h9 => h9) rfl dX10_byteAt_9 ?_
        refine lv_iload_n hx hb dX10_byteAt_12 rfl (lv_at hl 1 rfl) ?_
        by_cases k_2 : okIx l1 300 = true
        case neg => rw [if_neg k_2] at hB; cases hB
        rw [if_pos k_2] at hB
        refine va_iald hx hb hK hP 1 0 rfl rfl (okIx_in k_2) dX10_byteAt_13 ?_
        refine lv_goto (tgt := 18) hx hb dX10_byteAt_14 (by decide) ?_
        cases hB
        have hP9 := (hP.sub (ws' := [(mm, .inr (10, [.int ithrown, .ref qlev, .ref qtxt, .int ityped, .int inext, .int itoken, .int iplace, .int ivalue, .int ifault, .int imany, .int idrafts, .ref qstm, .ref qsm, .int isumMany, .ref qsgn, .ref qvls, .ref qopn, .ref qopp, .ref qbke, .ref qbko, .ref qbkl, .ref qcel, .int isteps, .int icame, .ref qtap, .ref qtpl, .int iranSteps, .int iranCame, .ref qrtp, .ref qrlv, .int ipassed, .ref qsen, .ref qhpo, .ref qhpm, .ref qbgn, .ref qchn, .ref qsgt, .int isecrets, .int iheaps, .ref qrsd])), (qtxt, aI cI 300 atxt)]) [0, 1] rfl)
        have hD9 := (hD.sub (ws' := [(mm, .inr (10, [.int ithrown, .ref qlev, .ref qtxt, .int ityped, .int inext, .int itoken, .int iplace, .int ivalue, .int ifault, .int imany, .int idrafts, .ref qstm, .ref qsm, .int isumMany, .ref qsgn, .ref qvls, .ref qopn, .ref qopp, .ref qbke, .ref qbko, .ref qbkl, .ref qcel, .int isteps, .int icame, .ref qtap, .ref qtpl, .int iranSteps, .int iranCame, .ref qrtp, .ref qrlv, .int ipassed, .ref qsen, .ref qhpo, .ref qhpm, .ref qbgn, .ref qchn, .ref qsgt, .int isecrets, .int iheaps, .ref qrsd])), (qtxt, aI cI 300 atxt)]) [0, 1] (by decide) rfl)
        exact W.iret (v := (atxt (l1).toNatClampNeg)) hx hb hr (fun tt_ ht hW => ⟨⟨_, (), rfl, rfl, by rw [ht]; exact hP9, hD9⟩, hS.F ht⟩) hS.2.2 dX10_byteAt_18
  exact (key K) p1 ityped atxt r hF _ _ hP hD hS ls hl
def B_m_add_0 (K : Nat)  (rec : Nat → Int64 → Int32 → Option (Int64)) (j0 : Int64) (l2 : Int32) : Option (Int64) := if l2 = 0 then (some (j0)) else (some (((256 * j0) + (l2).toInt64)))
def L_m_add (K : Nat)  : Nat → Nat → Int64 → Int32 → Option (Int64)
  | 0 => fun _ _ _ => none
  | n + 1 => fun c j0 l2 => if c = 0 then B_m_add_0 K  (L_m_add K  n) j0 l2 else none
def F_m_add (K : Nat) (j0 : Int64) (l2 : Int32)  : Option (Int64) := L_m_add K K 0 j0 l2
set_option maxHeartbeats 2000000 in
set_option maxRecDepth 100000 in
theorem c_m_add (l : Launch) (dC : Nat → ClassId) (dI : Nat → Nat → Nat) (cI cJ cS : ClassId) (sz K : Nat) (p1 : Int64) (p2 : Int32) (r : Int64) (hF : F_m_add K p1 p2 = some (r)) : Met l yX10_add wsX10_add ({ frames := 0, cells := 0, slots := 0, locals := 0 }) (va_Pc [.long p1, .int p2] (PE dC dI cI cJ cS [] sz)) (va_Ql (fun (r_ : Int64) (_ : Unit) => r_ = r) (BE dC dI (va_A [] sz) (fun _ => [])) (va_A [] sz)) 0 0 (va_A [] sz) := by
  refine Met.ofW (cc := cX10_add) (maxL := 3) (ret := (some .long)) (by decide) rfl ?_
  intro pp_ ee_ ss_ mm_ args below meth cc_ s₁ B hml hv
  obtain ⟨rfl, hsz, hP, hE, hD0⟩ := hv
  have hx := B.exec
  have hb := B.bytes
  have hr := B.returns
  have hts := atoms_spec (ws := wsX10_add) B.pre
  have hown : ss_.vm.findClass RX10 = some mm_.cls := findClass_of_methodNamed B.named
  have hlocks := B.notSynchronized
  have hK := hE.1
  subst hsz
  have hD := hD0.self (sz := ss_.heap.size)
  generalize hAe : va_A [] ss_.heap.size = A at hD ⊢
  have hA : ∀ q : Nat, ss_.heap.size ≤ q → A q := fun q h => by rw [← hAe]; exact Or.inr h
  have hS : va_S A ss_.heap ss_.heap [] := va_S.rf
  have hl := lv_entry ([.long p1, .int p2]) (n := 3) (Nat.le_of_ble_eq_true rfl)
  rw [lg_entry_eq]
  generalize (lg_sl ([.long p1, .int p2]) ++ List.replicate (3 - (lg_sl ([.long p1, .int p2])).length) Slot.unset).toArray = ls at hl ⊢
  have hl : lv_has ls 3 [(0, .long p1), (2, .int p2)] := hl
  have key : ∀ n : Nat, (∀ (j0 : Int64) (l2 : Int32) (r : Int64), L_m_add K  n 0 j0 l2 = some (r) → ∀ (H : Heap) (locs : List Loc), va_P (dC, dI) vwCl [] H → va_D A [] → va_S A ss_.heap H locs → ∀ ls : Array Slot, lv_has ls 3 [(0, .long j0), (2, .int l2)] → W pp_ l ee_ (headSpec wsX10_add ({ frames := 0, cells := 0, slots := 0, locals := 0 })).room ss_ mm_ #[.long p1, .int p2] below meth cc_ H locs 0 0 (MQ below (va_Ql (fun (r_ : Int64) (_ : Unit) => r_ = r) (BE dC dI A (fun _ => [])) A) #[.long p1, .int p2] ss_ 0 0 A) (F0 mm_ 0 ls [])) := by
    intro n
    induction n with
    | zero => exact fun _ _ _ hF => absurd hF (fun e => by cases e)
    | succ n ih =>
      intro j0 l2 r hB H locs hP hD hS ls hl
      change B_m_add_0 K  (L_m_add K  n) j0 l2 = some (r) at hB
      unfold B_m_add_0 at hB
      refine lv_iload_n hx hb dX10_add_0 rfl (lv_at hl 1 rfl) ?_
      refine lv_if_ne (tgt := 8) hx hb dX10_add_1 (by decide) (fun c_1 => ?_) (fun c_1 => ?_)
      · rw [if_neg c_1] at hB
        refine lv_ldc2 (v := 256) hx hb hown (hts (.constantLong RX10 93 (256)) (by decide +kernel)) dX10_add_8 ?_
        refine lv_lload_n hx hb dX10_add_11 rfl (lv_at hl 0 rfl) ?_
        refine lv_lmul hx hb dX10_add_12 ?_
        refine lv_iload_n hx hb dX10_add_13 rfl (lv_at hl 1 rfl) ?_
        refine lv_i2l (v := (l2).toInt64) hx hb dX10_add_14 rfl ?_
        refine lv_ladd hx hb dX10_add_15 ?_
        cases hB
        have hP9 := (hP.sub (ws' := []) [] rfl)
        have hD9 := (hD.sub (ws' := []) [] (by decide) rfl)
        exact W.lret (v := ((256 * j0) + (l2).toInt64)) hx hb hr (fun tt_ ht hW => ⟨⟨_, (), rfl, rfl, by rw [ht]; exact hP9, hD9⟩, hS.F ht⟩) hS.2.2 dX10_add_16
      · rw [if_pos c_1] at hB
        refine lv_lload_n hx hb dX10_add_4 rfl (lv_at hl 0 rfl) ?_
        refine lv_goto (tgt := 16) hx hb dX10_add_5 (by decide) ?_
        cases hB
        have hP9 := (hP.sub (ws' := []) [] rfl)
        have hD9 := (hD.sub (ws' := []) [] (by decide) rfl)
        exact W.lret (v := j0) hx hb hr (fun tt_ ht hW => ⟨⟨_, (), rfl, rfl, by rw [ht]; exact hP9, hD9⟩, hS.F ht⟩) hS.2.2 dX10_add_16
  exact (key K) p1 p2 r hF _ _ hP hD hS ls hl
def B_m_word_0 (K : Nat)  (rec : Nat → Int32 → Int32 → Int32 → Int32 → Option (Int64)) (l0 : Int32) (l1 : Int32) (l2 : Int32) (l3 : Int32) : Option (Int64) := (F_m_add K 0 l0).bind (fun o_1 => (F_m_add K o_1 l1).bind (fun o_6 => (F_m_add K o_6 l2).bind (fun o_11 => (F_m_add K o_11 l3).bind (fun o_16 => some (o_16)))))
def L_m_word (K : Nat)  : Nat → Nat → Int32 → Int32 → Int32 → Int32 → Option (Int64)
  | 0 => fun _ _ _ _ _ => none
  | n + 1 => fun c l0 l1 l2 l3 => if c = 0 then B_m_word_0 K  (L_m_word K  n) l0 l1 l2 l3 else none
def F_m_word (K : Nat) (l0 : Int32) (l1 : Int32) (l2 : Int32) (l3 : Int32)  : Option (Int64) := L_m_word K K 0 l0 l1 l2 l3
set_option maxHeartbeats 2000000 in
set_option maxRecDepth 100000 in
theorem c_m_word (l : Launch) (dC : Nat → ClassId) (dI : Nat → Nat → Nat) (cI cJ cS : ClassId) (sz K : Nat) (p1 : Int32) (p2 : Int32) (p3 : Int32) (p4 : Int32) (r : Int64) (hF : F_m_word K p1 p2 p3 p4 = some (r)) : Met l yX10_word wsX10_word ({ frames := 1, cells := 0, slots := 0, locals := 22 }) (va_Pc [.int p1, .int p2, .int p3, .int p4] (PE dC dI cI cJ cS [] sz)) (va_Ql (fun (r_ : Int64) (_ : Unit) => r_ = r) (BE dC dI (va_A [] sz) (fun _ => [])) (va_A [] sz)) 0 0 (va_A [] sz) := by
  refine Met.ofW (cc := cX10_word) (maxL := 4) (ret := (some .long)) (by decide) rfl ?_
  intro pp_ ee_ ss_ mm_ args below meth cc_ s₁ B hml hv
  obtain ⟨rfl, hsz, hP, hE, hD0⟩ := hv
  have hx := B.exec
  have hb := B.bytes
  have hr := B.returns
  have hts := atoms_spec (ws := wsX10_word) B.pre
  have hown : ss_.vm.findClass RX10 = some mm_.cls := findClass_of_methodNamed B.named
  have hlocks := B.notSynchronized
  have hK := hE.1
  subst hsz
  have hD := hD0.self (sz := ss_.heap.size)
  generalize hAe : va_A [] ss_.heap.size = A at hD ⊢
  have hA : ∀ q : Nat, ss_.heap.size ≤ q → A q := fun q h => by rw [← hAe]; exact Or.inr h
  have hS : va_S A ss_.heap ss_.heap [] := va_S.rf
  have hl := lv_entry ([.int p1, .int p2, .int p3, .int p4]) (n := 4) (Nat.le_of_ble_eq_true rfl)
  rw [lg_entry_eq]
  generalize (lg_sl ([.int p1, .int p2, .int p3, .int p4]) ++ List.replicate (4 - (lg_sl ([.int p1, .int p2, .int p3, .int p4])).length) Slot.unset).toArray = ls at hl ⊢
  have hl : lv_has ls 4 [(0, .int p1), (1, .int p2), (2, .int p3), (3, .int p4)] := hl
  have key : ∀ n : Nat, (∀ (l0 : Int32) (l1 : Int32) (l2 : Int32) (l3 : Int32) (r : Int64), L_m_word K  n 0 l0 l1 l2 l3 = some (r) → ∀ (H : Heap) (locs : List Loc), va_P (dC, dI) vwCl [] H → va_D A [] → va_S A ss_.heap H locs → ∀ ls : Array Slot, lv_has ls 4 [(0, .int l0), (1, .int l1), (2, .int l2), (3, .int l3)] → W pp_ l ee_ (headSpec wsX10_word ({ frames := 1, cells := 0, slots := 0, locals := 22 })).room ss_ mm_ #[.int p1, .int p2, .int p3, .int p4] below meth cc_ H locs 0 0 (MQ below (va_Ql (fun (r_ : Int64) (_ : Unit) => r_ = r) (BE dC dI A (fun _ => [])) A) #[.int p1, .int p2, .int p3, .int p4] ss_ 0 0 A) (F0 mm_ 0 ls [])) := by
    intro n
    induction n with
    | zero => exact fun _ _ _ _ _ hF => absurd hF (fun e => by cases e)
    | succ n ih =>
      intro l0 l1 l2 l3 r hB H locs hP hD hS ls hl
      change B_m_word_0 K  (L_m_word K  n) l0 l1 l2 l3 = some (r) at hB
      unfold B_m_word_0 at hB
      refine lv_lconst (v := 0) hx hb dX10_word_0 (by decide) ?_
      refine lv_iload_n hx hb dX10_word_1 rfl (lv_at hl 0 rfl) ?_
      rcases hc_2 : F_m_add K 0 l0 with _ | o_1
      · rw [hc_2] at hB; cases hB
      rw [hc_2] at hB
      obtain ⟨r_3, er_3⟩ : ∃ q, q = o_1 := ⟨_, rfl⟩
      subst er_3
      simp only [Option.bind_some] at hB
      have hFc := va_free (wc := []) hD hS hA [] rfl
      refine zCl (wr := []) hP hD hS hFc [] [] rfl rfl (by decide) (by decide) (va_runS (As := [.long 0, .int l0]) (rest := []) ⟨hx, hb, hml, hown, hts⟩ (c_m_add l dC dI cI cJ cS H.size K 0 l0 r_3 hc_2) (va_cwS 2 hts gX10_word_X10_add rfl rfl rfl (by decide +kernel) ⟨Nat.le_of_ble_eq_true rfl, Nat.le_of_ble_eq_true rfl⟩) (preE (hP.sub (ws' := []) [] rfl) hE (hD.sub (ws' := []) [] (by decide) rfl)) rfl rfl hl.1 rfl (lv_room (Nat.le_of_ble_eq_true rfl)) dX10_word_2 ⟨Nat.le_refl _, Nat.le_refl _⟩) (fun rr_4 _ H locs hr_5 hP hD hS => ?_)
      obtain rfl := hr_5
      have hP : va_P (dC, dI) vwCl [] H := hP
      have hD : va_D A [] := hD
      refine lv_iload_n hx hb dX10_word_5 rfl (lv_at hl 1 rfl) ?_
      rcases hc_7 : F_m_add K r_3 l1 with _ | o_6
      · rw [hc_7] at hB; cases hB
      rw [hc_7] at hB
      obtain ⟨r_8, er_8⟩ : ∃ q, q = o_6 := ⟨_, rfl⟩
      subst er_8
      simp only [Option.bind_some] at hB
      have hFc := va_free (wc := []) hD hS hA [] rfl
      refine zCl (wr := []) hP hD hS hFc [] [] rfl rfl (by decide) (by decide) (va_runS (As := [.long r_3, .int l1]) (rest := []) ⟨hx, hb, hml, hown, hts⟩ (c_m_add l dC dI cI cJ cS H.size K r_3 l1 r_8 hc_7) (va_cwS 2 hts gX10_word_X10_add rfl rfl rfl (by decide +kernel) ⟨Nat.le_of_ble_eq_true rfl, Nat.le_of_ble_eq_true rfl⟩) (preE (hP.sub (ws' := []) [] rfl) hE (hD.sub (ws' := []) [] (by decide) rfl)) rfl rfl hl.1 rfl (lv_room (Nat.le_of_ble_eq_true rfl)) dX10_word_6 ⟨Nat.le_refl _, Nat.le_refl _⟩) (fun rr_9 _ H locs hr_10 hP hD hS => ?_)
      obtain rfl := hr_10
      have hP : va_P (dC, dI) vwCl [] H := hP
      have hD : va_D A [] := hD
      refine lv_iload_n hx hb dX10_word_9 rfl (lv_at hl 2 rfl) ?_
      rcases hc_12 : F_m_add K r_8 l2 with _ | o_11
      · rw [hc_12] at hB; cases hB
      rw [hc_12] at hB
      obtain ⟨r_13, er_13⟩ : ∃ q, q = o_11 := ⟨_, rfl⟩
      subst er_13
      simp only [Option.bind_some] at hB
      have hFc := va_free (wc := []) hD hS hA [] rfl
      refine zCl (wr := []) hP hD hS hFc [] [] rfl rfl (by decide) (by decide) (va_runS (As := [.long r_8, .int l2]) (rest := []) ⟨hx, hb, hml, hown, hts⟩ (c_m_add l dC dI cI cJ cS H.size K r_8 l2 r_13 hc_12) (va_cwS 2 hts gX10_word_X10_add rfl rfl rfl (by decide +kernel) ⟨Nat.le_of_ble_eq_true rfl, Nat.le_of_ble_eq_true rfl⟩) (preE (hP.sub (ws' := []) [] rfl) hE (hD.sub (ws' := []) [] (by decide) rfl)) rfl rfl hl.1 rfl (lv_room (Nat.le_of_ble_eq_true rfl)) dX10_word_10 ⟨Nat.le_refl _, Nat.le_refl _⟩) (fun rr_14 _ H locs hr_15 hP hD hS => ?_)
      obtain rfl := hr_15
      have hP : va_P (dC, dI) vwCl [] H := hP
      have hD : va_D A [] := hD
      refine lv_iload_n hx hb dX10_word_13 rfl (lv_at hl 3 rfl) ?_
      rcases hc_17 : F_m_add K r_13 l3 with _ | o_16
      · rw [hc_17] at hB; cases hB
      rw [hc_17] at hB
      obtain ⟨r_18, er_18⟩ : ∃ q, q = o_16 := ⟨_, rfl⟩
      subst er_18
      simp only [Option.bind_some] at hB
      have hFc := va_free (wc := []) hD hS hA [] rfl
      refine zCl (wr := []) hP hD hS hFc [] [] rfl rfl (by decide) (by decide) (va_runS (As := [.long r_13, .int l3]) (rest := []) ⟨hx, hb, hml, hown, hts⟩ (c_m_add l dC dI cI cJ cS H.size K r_13 l3 r_18 hc_17) (va_cwS 2 hts gX10_word_X10_add rfl rfl rfl (by decide +kernel) ⟨Nat.le_of_ble_eq_true rfl, Nat.le_of_ble_eq_true rfl⟩) (preE (hP.sub (ws' := []) [] rfl) hE (hD.sub (ws' := []) [] (by decide) rfl)) rfl rfl hl.1 rfl (lv_room (Nat.le_of_ble_eq_true rfl)) dX10_word_14 ⟨Nat.le_refl _, Nat.le_refl _⟩) (fun rr_19 _ H locs hr_20 hP hD hS => ?_)
      obtain rfl := hr_20
      have hP : va_P (dC, dI) vwCl [] H := hP
      have hD : va_D A [] := hD
      cases hB
      have hP9 := (hP.sub (ws' := []) [] rfl)
      have hD9 := (hD.sub (ws' := []) [] (by decide) rfl)
      exact W.lret (v := r_18) hx hb hr (fun tt_ ht hW => ⟨⟨_, (), rfl, rfl, by rw [ht]; exact hP9, hD9⟩, hS.F ht⟩) hS.2.2 dX10_word_17
  exact (key K) p1 p2 p3 p4 r hF _ _ hP hD hS ls hl
def B_m_isWell_0 (K : Nat)  (rec : Nat → Int32 → Option (Int32)) (ifault : Int32) : Option (Int32) := if (0 : Int32) ≤ ifault then (some (0)) else (some (1))
def L_m_isWell (K : Nat)  : Nat → Nat → Int32 → Option (Int32)
  | 0 => fun _ _ => none
  | n + 1 => fun c ifault => if c = 0 then B_m_isWell_0 K  (L_m_isWell K  n) ifault else none
def F_m_isWell (K : Nat)  (ifault : Int32) : Option (Int32) := L_m_isWell K K 0 ifault
set_option maxHeartbeats 2000000 in
set_option maxRecDepth 100000 in
theorem c_m_isWell (l : Launch) (dC : Nat → ClassId) (dI : Nat → Nat → Nat) (cI cJ cS : ClassId) (sz K : Nat) (mm : Nat) (ithrown : Int32) (qlev : Nat) (qtxt : Nat) (ityped : Int32) (inext : Int32) (itoken : Int32) (iplace : Int32) (ivalue : Int32) (ifault : Int32) (imany : Int32) (idrafts : Int32) (qstm : Nat) (qsm : Nat) (isumMany : Int32) (qsgn : Nat) (qvls : Nat) (qopn : Nat) (qopp : Nat) (qbke : Nat) (qbko : Nat) (qbkl : Nat) (qcel : Nat) (isteps : Int32) (icame : Int32) (qtap : Nat) (qtpl : Nat) (iranSteps : Int32) (iranCame : Int32) (qrtp : Nat) (qrlv : Nat) (ipassed : Int32) (qsen : Nat) (qhpo : Nat) (qhpm : Nat) (qbgn : Nat) (qchn : Nat) (qsgt : Nat) (isecrets : Int32) (iheaps : Int32) (qrsd : Nat) (r : Int32) (hF : F_m_isWell K ifault = some (r)) : Met l yX10_isWell wsX10_isWell ({ frames := 0, cells := 0, slots := 0, locals := 0 }) (va_Pc [.ref mm] (PE dC dI cI cJ cS [(mm, .inr (10, [.int ithrown, .ref qlev, .ref qtxt, .int ityped, .int inext, .int itoken, .int iplace, .int ivalue, .int ifault, .int imany, .int idrafts, .ref qstm, .ref qsm, .int isumMany, .ref qsgn, .ref qvls, .ref qopn, .ref qopp, .ref qbke, .ref qbko, .ref qbkl, .ref qcel, .int isteps, .int icame, .ref qtap, .ref qtpl, .int iranSteps, .int iranCame, .ref qrtp, .ref qrlv, .int ipassed, .ref qsen, .ref qhpo, .ref qhpm, .ref qbgn, .ref qchn, .ref qsgt, .int isecrets, .int iheaps, .ref qrsd]))] sz)) (va_Qi (fun (r_ : Int32) (_ : Unit) => r_ = r) (BE dC dI (va_A [(mm, .inr (10, [.int ithrown, .ref qlev, .ref qtxt, .int ityped, .int inext, .int itoken, .int iplace, .int ivalue, .int ifault, .int imany, .int idrafts, .ref qstm, .ref qsm, .int isumMany, .ref qsgn, .ref qvls, .ref qopn, .ref qopp, .ref qbke, .ref qbko, .ref qbkl, .ref qcel, .int isteps, .int icame, .ref qtap, .ref qtpl, .int iranSteps, .int iranCame, .ref qrtp, .ref qrlv, .int ipassed, .ref qsen, .ref qhpo, .ref qhpm, .ref qbgn, .ref qchn, .ref qsgt, .int isecrets, .int iheaps, .ref qrsd]))] sz) (fun _ => [(mm, .inr (10, [.int ithrown, .ref qlev, .ref qtxt, .int ityped, .int inext, .int itoken, .int iplace, .int ivalue, .int ifault, .int imany, .int idrafts, .ref qstm, .ref qsm, .int isumMany, .ref qsgn, .ref qvls, .ref qopn, .ref qopp, .ref qbke, .ref qbko, .ref qbkl, .ref qcel, .int isteps, .int icame, .ref qtap, .ref qtpl, .int iranSteps, .int iranCame, .ref qrtp, .ref qrlv, .int ipassed, .ref qsen, .ref qhpo, .ref qhpm, .ref qbgn, .ref qchn, .ref qsgt, .int isecrets, .int iheaps, .ref qrsd]))])) (va_A [(mm, .inr (10, [.int ithrown, .ref qlev, .ref qtxt, .int ityped, .int inext, .int itoken, .int iplace, .int ivalue, .int ifault, .int imany, .int idrafts, .ref qstm, .ref qsm, .int isumMany, .ref qsgn, .ref qvls, .ref qopn, .ref qopp, .ref qbke, .ref qbko, .ref qbkl, .ref qcel, .int isteps, .int icame, .ref qtap, .ref qtpl, .int iranSteps, .int iranCame, .ref qrtp, .ref qrlv, .int ipassed, .ref qsen, .ref qhpo, .ref qhpm, .ref qbgn, .ref qchn, .ref qsgt, .int isecrets, .int iheaps, .ref qrsd]))] sz)) 0 0 (va_A [(mm, .inr (10, [.int ithrown, .ref qlev, .ref qtxt, .int ityped, .int inext, .int itoken, .int iplace, .int ivalue, .int ifault, .int imany, .int idrafts, .ref qstm, .ref qsm, .int isumMany, .ref qsgn, .ref qvls, .ref qopn, .ref qopp, .ref qbke, .ref qbko, .ref qbkl, .ref qcel, .int isteps, .int icame, .ref qtap, .ref qtpl, .int iranSteps, .int iranCame, .ref qrtp, .ref qrlv, .int ipassed, .ref qsen, .ref qhpo, .ref qhpm, .ref qbgn, .ref qchn, .ref qsgt, .int isecrets, .int iheaps, .ref qrsd]))] sz) := by
  refine Met.ofW (cc := cX10_isWell) (maxL := 1) (ret := (some .boolean)) (by decide) rfl ?_
  intro pp_ ee_ ss_ mm_ args below meth cc_ s₁ B hml hv
  obtain ⟨rfl, hsz, hP, hE, hD0⟩ := hv
  have hx := B.exec
  have hb := B.bytes
  have hr := B.returns
  have hts := atoms_spec (ws := wsX10_isWell) B.pre
  have hown : ss_.vm.findClass RX10 = some mm_.cls := findClass_of_methodNamed B.named
  have hlocks := B.notSynchronized
  have hK := hE.1
  have hiX10 : ∀ w ∈ wsX100, w ∈ wsX10_isWell := by decide +kernel
  subst hsz
  have hD := hD0.self (sz := ss_.heap.size)
  generalize hAe : va_A [(mm, .inr (10, [.int ithrown, .ref qlev, .ref qtxt, .int ityped, .int inext, .int itoken, .int iplace, .int ivalue, .int ifault, .int imany, .int idrafts, .ref qstm, .ref qsm, .int isumMany, .ref qsgn, .ref qvls, .ref qopn, .ref qopp, .ref qbke, .ref qbko, .ref qbkl, .ref qcel, .int isteps, .int icame, .ref qtap, .ref qtpl, .int iranSteps, .int iranCame, .ref qrtp, .ref qrlv, .int ipassed, .ref qsen, .ref qhpo, .ref qhpm, .ref qbgn, .ref qchn, .ref qsgt, .int isecrets, .int iheaps, .ref qrsd]))] ss_.heap.size = A at hD ⊢
  have hA : ∀ q : Nat, ss_.heap.size ≤ q → A q := fun q h => by rw [← hAe]; exact Or.inr h
  have hS : va_S A ss_.heap ss_.heap [] := va_S.rf
  have hl := lv_entry ([.ref mm]) (n := 1) (Nat.le_of_ble_eq_true rfl)
  rw [lg_entry_eq]
  generalize (lg_sl ([.ref mm]) ++ List.replicate (1 - (lg_sl ([.ref mm])).length) Slot.unset).toArray = ls at hl ⊢
  have hl : lv_has ls 1 [(0, .ref mm)] := hl
  have key : ∀ n : Nat, (∀ (ifault : Int32) (r : Int32), L_m_isWell K  n 0 ifault = some (r) → ∀ (H : Heap) (locs : List Loc), va_P (dC, dI) vwCl [(mm, .inr (10, [.int ithrown, .ref qlev, .ref qtxt, .int ityped, .int inext, .int itoken, .int iplace, .int ivalue, .int ifault, .int imany, .int idrafts, .ref qstm, .ref qsm, .int isumMany, .ref qsgn, .ref qvls, .ref qopn, .ref qopp, .ref qbke, .ref qbko, .ref qbkl, .ref qcel, .int isteps, .int icame, .ref qtap, .ref qtpl, .int iranSteps, .int iranCame, .ref qrtp, .ref qrlv, .int ipassed, .ref qsen, .ref qhpo, .ref qhpm, .ref qbgn, .ref qchn, .ref qsgt, .int isecrets, .int iheaps, .ref qrsd]))] H → va_D A [(mm, .inr (10, [.int ithrown, .ref qlev, .ref qtxt, .int ityped, .int inext, .int itoken, .int iplace, .int ivalue, .int ifault, .int imany, .int idrafts, .ref qstm, .ref qsm, .int isumMany, .ref qsgn, .ref qvls, .ref qopn, .ref qopp, .ref qbke, .ref qbko, .ref qbkl, .ref qcel, .int isteps, .int icame, .ref qtap, .ref qtpl, .int iranSteps, .int iranCame, .ref qrtp, .ref qrlv, .int ipassed, .ref qsen, .ref qhpo, .ref qhpm, .ref qbgn, .ref qchn, .ref qsgt, .int isecrets, .int iheaps, .ref qrsd]))] → va_S A ss_.heap H locs → ∀ ls : Array Slot, lv_has ls 1 [(0, .ref mm)] → W pp_ l ee_ (headSpec wsX10_isWell ({ frames := 0, cells := 0, slots := 0, locals := 0 })).room ss_ mm_ #[.ref mm] below meth cc_ H locs 0 0 (MQ below (va_Qi (fun (r_ : Int32) (_ : Unit) => r_ = r) (BE dC dI A (fun _ => [(mm, .inr (10, [.int ithrown, .ref qlev, .ref qtxt, .int ityped, .int inext, .int itoken, .int iplace, .int ivalue, .int ifault, .int imany, .int idrafts, .ref qstm, .ref qsm, .int isumMany, .ref qsgn, .ref qvls, .ref qopn, .ref qopp, .ref qbke, .ref qbko, .ref qbkl, .ref qcel, .int isteps, .int icame, .ref qtap, .ref qtpl, .int iranSteps, .int iranCame, .ref qrtp, .ref qrlv, .int ipassed, .ref qsen, .ref qhpo, .ref qhpm, .ref qbgn, .ref qchn, .ref qsgt, .int isecrets, .int iheaps, .ref qrsd]))])) A) #[.ref mm] ss_ 0 0 A) (F0 mm_ 0 ls [])) := by
    intro n
    induction n with
    | zero => exact fun _ _ hF => absurd hF (fun e => by cases e)
    | succ n ih =>
      intro ifault r hB H locs hP hD hS ls hl
      change B_m_isWell_0 K  (L_m_isWell K  n) ifault = some (r) at hB
      unfold B_m_isWell_0 at hB
      refine lv_aload_n hx hb dX10_isWell_0 rfl (lv_at hl 0 rfl) ?_
      refine va_get (D := (dC, dI)) (ci := 10) (v := .int ifault) (C := RX10) (T := TX10) (N := 40) hx hb hts hiX10 hown hK hP 0 rfl rfl 8 (by decide) (hts (.fieldLink RX10 119 "WatchedProgramsModel" "fault" "I") (by decide +kernel)) (fun _ h9 => h9) rfl dX10_isWell_1 ?_
      refine lv_if_ge (tgt := 11) hx hb dX10_isWell_4 (by decide) (fun c_1 => ?_) (fun c_1 => ?_)
      · rw [if_pos c_1] at hB
        refine lv_iconst (v := 0) hx hb dX10_isWell_11 (by decide) ?_
        cases hB
        have hP9 := (hP.sub (ws' := [(mm, .inr (10, [.int ithrown, .ref qlev, .ref qtxt, .int ityped, .int inext, .int itoken, .int iplace, .int ivalue, .int ifault, .int imany, .int idrafts, .ref qstm, .ref qsm, .int isumMany, .ref qsgn, .ref qvls, .ref qopn, .ref qopp, .ref qbke, .ref qbko, .ref qbkl, .ref qcel, .int isteps, .int icame, .ref qtap, .ref qtpl, .int iranSteps, .int iranCame, .ref qrtp, .ref qrlv, .int ipassed, .ref qsen, .ref qhpo, .ref qhpm, .ref qbgn, .ref qchn, .ref qsgt, .int isecrets, .int iheaps, .ref qrsd]))]) [0] rfl)
        have hD9 := (hD.sub (ws' := [(mm, .inr (10, [.int ithrown, .ref qlev, .ref qtxt, .int ityped, .int inext, .int itoken, .int iplace, .int ivalue, .int ifault, .int imany, .int idrafts, .ref qstm, .ref qsm, .int isumMany, .ref qsgn, .ref qvls, .ref qopn, .ref qopp, .ref qbke, .ref qbko, .ref qbkl, .ref qcel, .int isteps, .int icame, .ref qtap, .ref qtpl, .int iranSteps, .int iranCame, .ref qrtp, .ref qrlv, .int ipassed, .ref qsen, .ref qhpo, .ref qhpm, .ref qbgn, .ref qchn, .ref qsgt, .int isecrets, .int iheaps, .ref qrsd]))]) [0] (by decide) rfl)
        exact W.zret (v := 0) hx hb hr (by decide) (fun tt_ ht hW => ⟨⟨_, (), rfl, rfl, by rw [ht]; exact hP9, hD9⟩, hS.F ht⟩) hS.2.2 dX10_isWell_12
      · rw [if_neg c_1] at hB
        refine lv_iconst (v := 1) hx hb dX10_isWell_7 (by decide) ?_
        refine lv_goto (tgt := 12) hx hb dX10_isWell_8 (by decide) ?_
        cases hB
        have hP9 := (hP.sub (ws' := [(mm, .inr (10, [.int ithrown, .ref qlev, .ref qtxt, .int ityped, .int inext, .int itoken, .int iplace, .int ivalue, .int ifault, .int imany, .int idrafts, .ref qstm, .ref qsm, .int isumMany, .ref qsgn, .ref qvls, .ref qopn, .ref qopp, .ref qbke, .ref qbko, .ref qbkl, .ref qcel, .int isteps, .int icame, .ref qtap, .ref qtpl, .int iranSteps, .int iranCame, .ref qrtp, .ref qrlv, .int ipassed, .ref qsen, .ref qhpo, .ref qhpm, .ref qbgn, .ref qchn, .ref qsgt, .int isecrets, .int iheaps, .ref qrsd]))]) [0] rfl)
        have hD9 := (hD.sub (ws' := [(mm, .inr (10, [.int ithrown, .ref qlev, .ref qtxt, .int ityped, .int inext, .int itoken, .int iplace, .int ivalue, .int ifault, .int imany, .int idrafts, .ref qstm, .ref qsm, .int isumMany, .ref qsgn, .ref qvls, .ref qopn, .ref qopp, .ref qbke, .ref qbko, .ref qbkl, .ref qcel, .int isteps, .int icame, .ref qtap, .ref qtpl, .int iranSteps, .int iranCame, .ref qrtp, .ref qrlv, .int ipassed, .ref qsen, .ref qhpo, .ref qhpm, .ref qbgn, .ref qchn, .ref qsgt, .int isecrets, .int iheaps, .ref qrsd]))]) [0] (by decide) rfl)
        exact W.zret (v := 1) hx hb hr (by decide) (fun tt_ ht hW => ⟨⟨_, (), rfl, rfl, by rw [ht]; exact hP9, hD9⟩, hS.F ht⟩) hS.2.2 dX10_isWell_12
  exact (key K) ifault r hF _ _ hP hD hS ls hl
def B_m_fails_0 (K : Nat)  (rec : Nat → Int32 → Int32 → Int32 → Option (Int32)) (s0 : Int32) (iplace : Int32) (ifault : Int32) : Option (Int32) := if (0 : Int32) ≤ ifault then (rec 1 ifault iplace ifault) else (rec 1 iplace iplace ifault)
def B_m_fails_1 (K : Nat)  (rec : Nat → Int32 → Int32 → Int32 → Option (Int32)) (s0 : Int32) (iplace : Int32) (ifault : Int32) : Option (Int32) := some (s0)
def L_m_fails (K : Nat)  : Nat → Nat → Int32 → Int32 → Int32 → Option (Int32)
  | 0 => fun _ _ _ _ => none
  | n + 1 => fun c s0 iplace ifault => if c = 0 then B_m_fails_0 K  (L_m_fails K  n) s0 iplace ifault else if c = 1 then B_m_fails_1 K  (L_m_fails K  n) s0 iplace ifault else none
def F_m_fails (K : Nat)  (iplace : Int32) (ifault : Int32) : Option (Int32) := L_m_fails K K 0 0 iplace ifault
set_option maxHeartbeats 2000000 in
set_option maxRecDepth 100000 in
theorem c_m_fails (l : Launch) (dC : Nat → ClassId) (dI : Nat → Nat → Nat) (cI cJ cS : ClassId) (sz K : Nat) (mm : Nat) (ithrown : Int32) (qlev : Nat) (qtxt : Nat) (ityped : Int32) (inext : Int32) (itoken : Int32) (iplace : Int32) (ivalue : Int32) (ifault : Int32) (imany : Int32) (idrafts : Int32) (qstm : Nat) (qsm : Nat) (isumMany : Int32) (qsgn : Nat) (qvls : Nat) (qopn : Nat) (qopp : Nat) (qbke : Nat) (qbko : Nat) (qbkl : Nat) (qcel : Nat) (isteps : Int32) (icame : Int32) (qtap : Nat) (qtpl : Nat) (iranSteps : Int32) (iranCame : Int32) (qrtp : Nat) (qrlv : Nat) (ipassed : Int32) (qsen : Nat) (qhpo : Nat) (qhpm : Nat) (qbgn : Nat) (qchn : Nat) (qsgt : Nat) (isecrets : Int32) (iheaps : Int32) (qrsd : Nat) (w0 : Int32) (hF : F_m_fails K iplace ifault = some (w0)) : Met l yX10_fails wsX10_fails ({ frames := 0, cells := 0, slots := 0, locals := 0 }) (va_Pc [.ref mm] (PE dC dI cI cJ cS [(mm, .inr (10, [.int ithrown, .ref qlev, .ref qtxt, .int ityped, .int inext, .int itoken, .int iplace, .int ivalue, .int ifault, .int imany, .int idrafts, .ref qstm, .ref qsm, .int isumMany, .ref qsgn, .ref qvls, .ref qopn, .ref qopp, .ref qbke, .ref qbko, .ref qbkl, .ref qcel, .int isteps, .int icame, .ref qtap, .ref qtpl, .int iranSteps, .int iranCame, .ref qrtp, .ref qrlv, .int ipassed, .ref qsen, .ref qhpo, .ref qhpm, .ref qbgn, .ref qchn, .ref qsgt, .int isecrets, .int iheaps, .ref qrsd]))] sz)) (va_Qv (fun (_ : Unit) => True) (BE dC dI (va_A [(mm, .inr (10, [.int ithrown, .ref qlev, .ref qtxt, .int ityped, .int inext, .int itoken, .int iplace, .int ivalue, .int ifault, .int imany, .int idrafts, .ref qstm, .ref qsm, .int isumMany, .ref qsgn, .ref qvls, .ref qopn, .ref qopp, .ref qbke, .ref qbko, .ref qbkl, .ref qcel, .int isteps, .int icame, .ref qtap, .ref qtpl, .int iranSteps, .int iranCame, .ref qrtp, .ref qrlv, .int ipassed, .ref qsen, .ref qhpo, .ref qhpm, .ref qbgn, .ref qchn, .ref qsgt, .int isecrets, .int iheaps, .ref qrsd]))] sz) (fun _ => [(mm, .inr (10, [.int ithrown, .ref qlev, .ref qtxt, .int ityped, .int inext, .int itoken, .int iplace, .int ivalue, .int w0, .int imany, .int idrafts, .ref qstm, .ref qsm, .int isumMany, .ref qsgn, .ref qvls, .ref qopn, .ref qopp, .ref qbke, .ref qbko, .ref qbkl, .ref qcel, .int isteps, .int icame, .ref qtap, .ref qtpl, .int iranSteps, .int iranCame, .ref qrtp, .ref qrlv, .int ipassed, .ref qsen, .ref qhpo, .ref qhpm, .ref qbgn, .ref qchn, .ref qsgt, .int isecrets, .int iheaps, .ref qrsd]))])) (va_A [(mm, .inr (10, [.int ithrown, .ref qlev, .ref qtxt, .int ityped, .int inext, .int itoken, .int iplace, .int ivalue, .int ifault, .int imany, .int idrafts, .ref qstm, .ref qsm, .int isumMany, .ref qsgn, .ref qvls, .ref qopn, .ref qopp, .ref qbke, .ref qbko, .ref qbkl, .ref qcel, .int isteps, .int icame, .ref qtap, .ref qtpl, .int iranSteps, .int iranCame, .ref qrtp, .ref qrlv, .int ipassed, .ref qsen, .ref qhpo, .ref qhpm, .ref qbgn, .ref qchn, .ref qsgt, .int isecrets, .int iheaps, .ref qrsd]))] sz)) 0 0 (va_A [(mm, .inr (10, [.int ithrown, .ref qlev, .ref qtxt, .int ityped, .int inext, .int itoken, .int iplace, .int ivalue, .int ifault, .int imany, .int idrafts, .ref qstm, .ref qsm, .int isumMany, .ref qsgn, .ref qvls, .ref qopn, .ref qopp, .ref qbke, .ref qbko, .ref qbkl, .ref qcel, .int isteps, .int icame, .ref qtap, .ref qtpl, .int iranSteps, .int iranCame, .ref qrtp, .ref qrlv, .int ipassed, .ref qsen, .ref qhpo, .ref qhpm, .ref qbgn, .ref qchn, .ref qsgt, .int isecrets, .int iheaps, .ref qrsd]))] sz) := by
  refine Met.ofW (cc := cX10_fails) (maxL := 1) (ret := none) (by decide) rfl ?_
  intro pp_ ee_ ss_ mm_ args below meth cc_ s₁ B hml hv
  obtain ⟨rfl, hsz, hP, hE, hD0⟩ := hv
  have hx := B.exec
  have hb := B.bytes
  have hr := B.returns
  have hts := atoms_spec (ws := wsX10_fails) B.pre
  have hown : ss_.vm.findClass RX10 = some mm_.cls := findClass_of_methodNamed B.named
  have hlocks := B.notSynchronized
  have hK := hE.1
  have hiX10 : ∀ w ∈ wsX100, w ∈ wsX10_fails := by decide +kernel
  subst hsz
  have hD := hD0.self (sz := ss_.heap.size)
  generalize hAe : va_A [(mm, .inr (10, [.int ithrown, .ref qlev, .ref qtxt, .int ityped, .int inext, .int itoken, .int iplace, .int ivalue, .int ifault, .int imany, .int idrafts, .ref qstm, .ref qsm, .int isumMany, .ref qsgn, .ref qvls, .ref qopn, .ref qopp, .ref qbke, .ref qbko, .ref qbkl, .ref qcel, .int isteps, .int icame, .ref qtap, .ref qtpl, .int iranSteps, .int iranCame, .ref qrtp, .ref qrlv, .int ipassed, .ref qsen, .ref qhpo, .ref qhpm, .ref qbgn, .ref qchn, .ref qsgt, .int isecrets, .int iheaps, .ref qrsd]))] ss_.heap.size = A at hD ⊢
  have hA : ∀ q : Nat, ss_.heap.size ≤ q → A q := fun q h => by rw [← hAe]; exact Or.inr h
  have hS : va_S A ss_.heap ss_.heap [] := va_S.rf
  have hl := lv_entry ([.ref mm]) (n := 1) (Nat.le_of_ble_eq_true rfl)
  rw [lg_entry_eq]
  generalize (lg_sl ([.ref mm]) ++ List.replicate (1 - (lg_sl ([.ref mm])).length) Slot.unset).toArray = ls at hl ⊢
  have hl : lv_has ls 1 [(0, .ref mm)] := hl
  have key : ∀ n : Nat, (∀ (s0 : Int32) (iplace : Int32) (ifault : Int32) (w0 : Int32), L_m_fails K  n 0 s0 iplace ifault = some (w0) → ∀ (H : Heap) (locs : List Loc), va_P (dC, dI) vwCl [(mm, .inr (10, [.int ithrown, .ref qlev, .ref qtxt, .int ityped, .int inext, .int itoken, .int iplace, .int ivalue, .int ifault, .int imany, .int idrafts, .ref qstm, .ref qsm, .int isumMany, .ref qsgn, .ref qvls, .ref qopn, .ref qopp, .ref qbke, .ref qbko, .ref qbkl, .ref qcel, .int isteps, .int icame, .ref qtap, .ref qtpl, .int iranSteps, .int iranCame, .ref qrtp, .ref qrlv, .int ipassed, .ref qsen, .ref qhpo, .ref qhpm, .ref qbgn, .ref qchn, .ref qsgt, .int isecrets, .int iheaps, .ref qrsd]))] H → va_D A [(mm, .inr (10, [.int ithrown, .ref qlev, .ref qtxt, .int ityped, .int inext, .int itoken, .int iplace, .int ivalue, .int ifault, .int imany, .int idrafts, .ref qstm, .ref qsm, .int isumMany, .ref qsgn, .ref qvls, .ref qopn, .ref qopp, .ref qbke, .ref qbko, .ref qbkl, .ref qcel, .int isteps, .int icame, .ref qtap, .ref qtpl, .int iranSteps, .int iranCame, .ref qrtp, .ref qrlv, .int ipassed, .ref qsen, .ref qhpo, .ref qhpm, .ref qbgn, .ref qchn, .ref qsgt, .int isecrets, .int iheaps, .ref qrsd]))] → va_S A ss_.heap H locs → ∀ ls : Array Slot, lv_has ls 1 [(0, .ref mm)] → W pp_ l ee_ (headSpec wsX10_fails ({ frames := 0, cells := 0, slots := 0, locals := 0 })).room ss_ mm_ #[.ref mm] below meth cc_ H locs 0 0 (MQ below (va_Qv (fun (_ : Unit) => True) (BE dC dI A (fun _ => [(mm, .inr (10, [.int ithrown, .ref qlev, .ref qtxt, .int ityped, .int inext, .int itoken, .int iplace, .int ivalue, .int w0, .int imany, .int idrafts, .ref qstm, .ref qsm, .int isumMany, .ref qsgn, .ref qvls, .ref qopn, .ref qopp, .ref qbke, .ref qbko, .ref qbkl, .ref qcel, .int isteps, .int icame, .ref qtap, .ref qtpl, .int iranSteps, .int iranCame, .ref qrtp, .ref qrlv, .int ipassed, .ref qsen, .ref qhpo, .ref qhpm, .ref qbgn, .ref qchn, .ref qsgt, .int isecrets, .int iheaps, .ref qrsd]))])) A) #[.ref mm] ss_ 0 0 A) (F0 mm_ 0 ls [])) ∧ (∀ (s0 : Int32) (iplace : Int32) (ifault : Int32) (w0 : Int32), L_m_fails K  n 1 s0 iplace ifault = some (w0) → ∀ (H : Heap) (locs : List Loc), va_P (dC, dI) vwCl [(mm, .inr (10, [.int ithrown, .ref qlev, .ref qtxt, .int ityped, .int inext, .int itoken, .int iplace, .int ivalue, .int ifault, .int imany, .int idrafts, .ref qstm, .ref qsm, .int isumMany, .ref qsgn, .ref qvls, .ref qopn, .ref qopp, .ref qbke, .ref qbko, .ref qbkl, .ref qcel, .int isteps, .int icame, .ref qtap, .ref qtpl, .int iranSteps, .int iranCame, .ref qrtp, .ref qrlv, .int ipassed, .ref qsen, .ref qhpo, .ref qhpm, .ref qbgn, .ref qchn, .ref qsgt, .int isecrets, .int iheaps, .ref qrsd]))] H → va_D A [(mm, .inr (10, [.int ithrown, .ref qlev, .ref qtxt, .int ityped, .int inext, .int itoken, .int iplace, .int ivalue, .int ifault, .int imany, .int idrafts, .ref qstm, .ref qsm, .int isumMany, .ref qsgn, .ref qvls, .ref qopn, .ref qopp, .ref qbke, .ref qbko, .ref qbkl, .ref qcel, .int isteps, .int icame, .ref qtap, .ref qtpl, .int iranSteps, .int iranCame, .ref qrtp, .ref qrlv, .int ipassed, .ref qsen, .ref qhpo, .ref qhpm, .ref qbgn, .ref qchn, .ref qsgt, .int isecrets, .int iheaps, .ref qrsd]))] → va_S A ss_.heap H locs → ∀ ls : Array Slot, lv_has ls 1 [(0, .ref mm)] → W pp_ l ee_ (headSpec wsX10_fails ({ frames := 0, cells := 0, slots := 0, locals := 0 })).room ss_ mm_ #[.ref mm] below meth cc_ H locs 0 0 (MQ below (va_Qv (fun (_ : Unit) => True) (BE dC dI A (fun _ => [(mm, .inr (10, [.int ithrown, .ref qlev, .ref qtxt, .int ityped, .int inext, .int itoken, .int iplace, .int ivalue, .int w0, .int imany, .int idrafts, .ref qstm, .ref qsm, .int isumMany, .ref qsgn, .ref qvls, .ref qopn, .ref qopp, .ref qbke, .ref qbko, .ref qbkl, .ref qcel, .int isteps, .int icame, .ref qtap, .ref qtpl, .int iranSteps, .int iranCame, .ref qrtp, .ref qrlv, .int ipassed, .ref qsen, .ref qhpo, .ref qhpm, .ref qbgn, .ref qchn, .ref qsgt, .int isecrets, .int iheaps, .ref qrsd]))])) A) #[.ref mm] ss_ 0 0 A) (F0 mm_ 19 ls [.int s0, .ref mm])) := by
    intro n
    induction n with
    | zero => exact ⟨(fun _ _ _ _ hF => absurd hF (fun e => by cases e)), (fun _ _ _ _ hF => absurd hF (fun e => by cases e))⟩
    | succ n ih =>
      refine ⟨?_, ?_⟩
      · intro s0 iplace ifault w0 hB H locs hP hD hS ls hl
        change B_m_fails_0 K  (L_m_fails K  n) s0 iplace ifault = some (w0) at hB
        unfold B_m_fails_0 at hB
        refine lv_aload_n hx hb dX10_fails_0 rfl (lv_at hl 0 rfl) ?_
        refine lv_aload_n hx hb dX10_fails_1 rfl (lv_at hl 0 rfl) ?_
        refine va_get (D := (dC, dI)) (ci := 10) (v := .int ifault) (C := RX10) (T := TX10) (N := 40) hx hb hts hiX10 hown hK hP 0 rfl rfl 8 (by decide) (hts (.fieldLink RX10 119 "WatchedProgramsModel" "fault" "I") (by decide +kernel)) (fun _ h9 => h9) rfl dX10_fails_2 ?_
        refine lv_if_ge (tgt := 15) hx hb dX10_fails_5 (by decide) (fun c_1 => ?_) (fun c_1 => ?_)
        · rw [if_pos c_1] at hB
          refine lv_aload_n hx hb dX10_fails_15 rfl (lv_at hl 0 rfl) ?_
          refine va_get (D := (dC, dI)) (ci := 10) (v := .int ifault) (C := RX10) (T := TX10) (N := 40) hx hb hts hiX10 hown hK hP 0 rfl rfl 8 (by decide) (hts (.fieldLink RX10 119 "WatchedProgramsModel" "fault" "I") (by decide +kernel)) (fun _ h9 => h9) rfl dX10_fails_16 ?_
          exact ih.2 ifault iplace ifault _ hB _ _ (hP.sub (ws' := [(mm, .inr (10, [.int ithrown, .ref qlev, .ref qtxt, .int ityped, .int inext, .int itoken, .int iplace, .int ivalue, .int ifault, .int imany, .int idrafts, .ref qstm, .ref qsm, .int isumMany, .ref qsgn, .ref qvls, .ref qopn, .ref qopp, .ref qbke, .ref qbko, .ref qbkl, .ref qcel, .int isteps, .int icame, .ref qtap, .ref qtpl, .int iranSteps, .int iranCame, .ref qrtp, .ref qrlv, .int ipassed, .ref qsen, .ref qhpo, .ref qhpm, .ref qbgn, .ref qchn, .ref qsgt, .int isecrets, .int iheaps, .ref qrsd]))]) [0] rfl) (hD.sub (ws' := [(mm, .inr (10, [.int ithrown, .ref qlev, .ref qtxt, .int ityped, .int inext, .int itoken, .int iplace, .int ivalue, .int ifault, .int imany, .int idrafts, .ref qstm, .ref qsm, .int isumMany, .ref qsgn, .ref qvls, .ref qopn, .ref qopp, .ref qbke, .ref qbko, .ref qbkl, .ref qcel, .int isteps, .int icame, .ref qtap, .ref qtpl, .int iranSteps, .int iranCame, .ref qrtp, .ref qrlv, .int ipassed, .ref qsen, .ref qhpo, .ref qhpm, .ref qbgn, .ref qchn, .ref qsgt, .int isecrets, .int iheaps, .ref qrsd]))]) [0] (by decide) rfl) hS ls (lv_sub hl [0] rfl)
        · rw [if_neg c_1] at hB
          refine lv_aload_n hx hb dX10_fails_8 rfl (lv_at hl 0 rfl) ?_
          refine va_get (D := (dC, dI)) (ci := 10) (v := .int iplace) (C := RX10) (T := TX10) (N := 40) hx hb hts hiX10 hown hK hP 0 rfl rfl 6 (by decide) (hts (.fieldLink RX10 106 "WatchedProgramsModel" "place" "I") (by decide +kernel)) (fun _ h9 => h9) rfl dX10_fails_9 ?_
          refine lv_goto (tgt := 19) hx hb dX10_fails_12 (by decide) ?_
          exact ih.2 iplace iplace ifault _ hB _ _ (hP.sub (ws' := [(mm, .inr (10, [.int ithrown, .ref qlev, .ref qtxt, .int ityped, .int inext, .int itoken, .int iplace, .int ivalue, .int ifault, .int imany, .int idrafts, .ref qstm, .ref qsm, .int isumMany, .ref qsgn, .ref qvls, .ref qopn, .ref qopp, .ref qbke, .ref qbko, .ref qbkl, .ref qcel, .int isteps, .int icame, .ref qtap, .ref qtpl, .int iranSteps, .int iranCame, .ref qrtp, .ref qrlv, .int ipassed, .ref qsen, .ref qhpo, .ref qhpm, .ref qbgn, .ref qchn, .ref qsgt, .int isecrets, .int iheaps, .ref qrsd]))]) [0] rfl) (hD.sub (ws' := [(mm, .inr (10, [.int ithrown, .ref qlev, .ref qtxt, .int ityped, .int inext, .int itoken, .int iplace, .int ivalue, .int ifault, .int imany, .int idrafts, .ref qstm, .ref qsm, .int isumMany, .ref qsgn, .ref qvls, .ref qopn, .ref qopp, .ref qbke, .ref qbko, .ref qbkl, .ref qcel, .int isteps, .int icame, .ref qtap, .ref qtpl, .int iranSteps, .int iranCame, .ref qrtp, .ref qrlv, .int ipassed, .ref qsen, .ref qhpo, .ref qhpm, .ref qbgn, .ref qchn, .ref qsgt, .int isecrets, .int iheaps, .ref qrsd]))]) [0] (by decide) rfl) hS ls (lv_sub hl [0] rfl)
      · intro s0 iplace ifault w0 hB H locs hP hD hS ls hl
        change B_m_fails_1 K  (L_m_fails K  n) s0 iplace ifault = some (w0) at hB
        unfold B_m_fails_1 at hB
        refine va_put (D := (dC, dI)) (ci := 10) (v := .int s0) (ty := .int) (C := RX10) (T := TX10) (N := 40) hx hb hts hiX10 tyX10 tyX10_ok nmX10 hown hK hP hD hS 0 rfl rfl 8 (by decide) (hts (.fieldLink RX10 119 "WatchedProgramsModel" "fault" "I") (by decide +kernel)) (fun _ h9 => h9) rfl (by decide +kernel) rfl rfl (Nat.le_of_ble_eq_true rfl) dX10_fails_19 (fun H locs hP hD hS => ?_)
        have hP : va_P (dC, dI) vwCl [(mm, .inr (10, [.int ithrown, .ref qlev, .ref qtxt, .int ityped, .int inext, .int itoken, .int iplace, .int ivalue, .int s0, .int imany, .int idrafts, .ref qstm, .ref qsm, .int isumMany, .ref qsgn, .ref qvls, .ref qopn, .ref qopp, .ref qbke, .ref qbko, .ref qbkl, .ref qcel, .int isteps, .int icame, .ref qtap, .ref qtpl, .int iranSteps, .int iranCame, .ref qrtp, .ref qrlv, .int ipassed, .ref qsen, .ref qhpo, .ref qhpm, .ref qbgn, .ref qchn, .ref qsgt, .int isecrets, .int iheaps, .ref qrsd]))] H := hP
        have hD : va_D A [(mm, .inr (10, [.int ithrown, .ref qlev, .ref qtxt, .int ityped, .int inext, .int itoken, .int iplace, .int ivalue, .int s0, .int imany, .int idrafts, .ref qstm, .ref qsm, .int isumMany, .ref qsgn, .ref qvls, .ref qopn, .ref qopp, .ref qbke, .ref qbko, .ref qbkl, .ref qcel, .int isteps, .int icame, .ref qtap, .ref qtpl, .int iranSteps, .int iranCame, .ref qrtp, .ref qrlv, .int ipassed, .ref qsen, .ref qhpo, .ref qhpm, .ref qbgn, .ref qchn, .ref qsgt, .int isecrets, .int iheaps, .ref qrsd]))] := hD
        cases hB
        have hP9 := (hP.sub (ws' := [(mm, .inr (10, [.int ithrown, .ref qlev, .ref qtxt, .int ityped, .int inext, .int itoken, .int iplace, .int ivalue, .int s0, .int imany, .int idrafts, .ref qstm, .ref qsm, .int isumMany, .ref qsgn, .ref qvls, .ref qopn, .ref qopp, .ref qbke, .ref qbko, .ref qbkl, .ref qcel, .int isteps, .int icame, .ref qtap, .ref qtpl, .int iranSteps, .int iranCame, .ref qrtp, .ref qrlv, .int ipassed, .ref qsen, .ref qhpo, .ref qhpm, .ref qbgn, .ref qchn, .ref qsgt, .int isecrets, .int iheaps, .ref qrsd]))]) [0] rfl)
        have hD9 := (hD.sub (ws' := [(mm, .inr (10, [.int ithrown, .ref qlev, .ref qtxt, .int ityped, .int inext, .int itoken, .int iplace, .int ivalue, .int s0, .int imany, .int idrafts, .ref qstm, .ref qsm, .int isumMany, .ref qsgn, .ref qvls, .ref qopn, .ref qopp, .ref qbke, .ref qbko, .ref qbkl, .ref qcel, .int isteps, .int icame, .ref qtap, .ref qtpl, .int iranSteps, .int iranCame, .ref qrtp, .ref qrlv, .int ipassed, .ref qsen, .ref qhpo, .ref qhpm, .ref qbgn, .ref qchn, .ref qsgt, .int isecrets, .int iheaps, .ref qrsd]))]) [0] (by decide) rfl)
        exact W.vret hx hb hr (fun tt_ ht hW => ⟨⟨(), rfl, trivial, by rw [ht]; exact hP9, hD9⟩, hS.F ht⟩) hS.2.2 dX10_fails_22
  exact (key K).1 0 iplace ifault w0 hF _ _ hP hD hS ls hl
def B_m_isSign_0 (K : Nat)  (rec : Nat → Int32 → Int32 → Int32 → Int32 → Option (Int32)) (l1 : Int32) (itoken : Int32) (ivalue : Int32) (ifault : Int32) : Option (Int32) := (F_m_isWell K ifault).bind (fun o_1 => if o_1 = 0 then (rec 1 l1 itoken ivalue ifault) else (if itoken = 7 then (if ivalue = l1 then (some (1)) else (rec 1 l1 itoken ivalue ifault)) else (rec 1 l1 itoken ivalue ifault)))
def B_m_isSign_1 (K : Nat)  (rec : Nat → Int32 → Int32 → Int32 → Int32 → Option (Int32)) (l1 : Int32) (itoken : Int32) (ivalue : Int32) (ifault : Int32) : Option (Int32) := some (0)
def L_m_isSign (K : Nat)  : Nat → Nat → Int32 → Int32 → Int32 → Int32 → Option (Int32)
  | 0 => fun _ _ _ _ _ => none
  | n + 1 => fun c l1 itoken ivalue ifault => if c = 0 then B_m_isSign_0 K  (L_m_isSign K  n) l1 itoken ivalue ifault else if c = 1 then B_m_isSign_1 K  (L_m_isSign K  n) l1 itoken ivalue ifault else none
def F_m_isSign (K : Nat) (l1 : Int32) (itoken : Int32) (ivalue : Int32) (ifault : Int32) : Option (Int32) := L_m_isSign K K 0 l1 itoken ivalue ifault
set_option maxHeartbeats 2000000 in
set_option maxRecDepth 100000 in
theorem c_m_isSign (l : Launch) (dC : Nat → ClassId) (dI : Nat → Nat → Nat) (cI cJ cS : ClassId) (sz K : Nat) (mm : Nat) (p1 : Int32) (ithrown : Int32) (qlev : Nat) (qtxt : Nat) (ityped : Int32) (inext : Int32) (itoken : Int32) (iplace : Int32) (ivalue : Int32) (ifault : Int32) (imany : Int32) (idrafts : Int32) (qstm : Nat) (qsm : Nat) (isumMany : Int32) (qsgn : Nat) (qvls : Nat) (qopn : Nat) (qopp : Nat) (qbke : Nat) (qbko : Nat) (qbkl : Nat) (qcel : Nat) (isteps : Int32) (icame : Int32) (qtap : Nat) (qtpl : Nat) (iranSteps : Int32) (iranCame : Int32) (qrtp : Nat) (qrlv : Nat) (ipassed : Int32) (qsen : Nat) (qhpo : Nat) (qhpm : Nat) (qbgn : Nat) (qchn : Nat) (qsgt : Nat) (isecrets : Int32) (iheaps : Int32) (qrsd : Nat) (r : Int32) (hF : F_m_isSign K p1 itoken ivalue ifault = some (r)) : Met l yX10_isSign wsX10_isSign ({ frames := 1, cells := 0, slots := 0, locals := 20 }) (va_Pc [.ref mm, .int p1] (PE dC dI cI cJ cS [(mm, .inr (10, [.int ithrown, .ref qlev, .ref qtxt, .int ityped, .int inext, .int itoken, .int iplace, .int ivalue, .int ifault, .int imany, .int idrafts, .ref qstm, .ref qsm, .int isumMany, .ref qsgn, .ref qvls, .ref qopn, .ref qopp, .ref qbke, .ref qbko, .ref qbkl, .ref qcel, .int isteps, .int icame, .ref qtap, .ref qtpl, .int iranSteps, .int iranCame, .ref qrtp, .ref qrlv, .int ipassed, .ref qsen, .ref qhpo, .ref qhpm, .ref qbgn, .ref qchn, .ref qsgt, .int isecrets, .int iheaps, .ref qrsd]))] sz)) (va_Qi (fun (r_ : Int32) (_ : Unit) => r_ = r) (BE dC dI (va_A [(mm, .inr (10, [.int ithrown, .ref qlev, .ref qtxt, .int ityped, .int inext, .int itoken, .int iplace, .int ivalue, .int ifault, .int imany, .int idrafts, .ref qstm, .ref qsm, .int isumMany, .ref qsgn, .ref qvls, .ref qopn, .ref qopp, .ref qbke, .ref qbko, .ref qbkl, .ref qcel, .int isteps, .int icame, .ref qtap, .ref qtpl, .int iranSteps, .int iranCame, .ref qrtp, .ref qrlv, .int ipassed, .ref qsen, .ref qhpo, .ref qhpm, .ref qbgn, .ref qchn, .ref qsgt, .int isecrets, .int iheaps, .ref qrsd]))] sz) (fun _ => [(mm, .inr (10, [.int ithrown, .ref qlev, .ref qtxt, .int ityped, .int inext, .int itoken, .int iplace, .int ivalue, .int ifault, .int imany, .int idrafts, .ref qstm, .ref qsm, .int isumMany, .ref qsgn, .ref qvls, .ref qopn, .ref qopp, .ref qbke, .ref qbko, .ref qbkl, .ref qcel, .int isteps, .int icame, .ref qtap, .ref qtpl, .int iranSteps, .int iranCame, .ref qrtp, .ref qrlv, .int ipassed, .ref qsen, .ref qhpo, .ref qhpm, .ref qbgn, .ref qchn, .ref qsgt, .int isecrets, .int iheaps, .ref qrsd]))])) (va_A [(mm, .inr (10, [.int ithrown, .ref qlev, .ref qtxt, .int ityped, .int inext, .int itoken, .int iplace, .int ivalue, .int ifault, .int imany, .int idrafts, .ref qstm, .ref qsm, .int isumMany, .ref qsgn, .ref qvls, .ref qopn, .ref qopp, .ref qbke, .ref qbko, .ref qbkl, .ref qcel, .int isteps, .int icame, .ref qtap, .ref qtpl, .int iranSteps, .int iranCame, .ref qrtp, .ref qrlv, .int ipassed, .ref qsen, .ref qhpo, .ref qhpm, .ref qbgn, .ref qchn, .ref qsgt, .int isecrets, .int iheaps, .ref qrsd]))] sz)) 0 0 (va_A [(mm, .inr (10, [.int ithrown, .ref qlev, .ref qtxt, .int ityped, .int inext, .int itoken, .int iplace, .int ivalue, .int ifault, .int imany, .int idrafts, .ref qstm, .ref qsm, .int isumMany, .ref qsgn, .ref qvls, .ref qopn, .ref qopp, .ref qbke, .ref qbko, .ref qbkl, .ref qcel, .int isteps, .int icame, .ref qtap, .ref qtpl, .int iranSteps, .int iranCame, .ref qrtp, .ref qrlv, .int ipassed, .ref qsen, .ref qhpo, .ref qhpm, .ref qbgn, .ref qchn, .ref qsgt, .int isecrets, .int iheaps, .ref qrsd]))] sz) := by
  refine Met.ofW (cc := cX10_isSign) (maxL := 2) (ret := (some .boolean)) (by decide) rfl ?_
  intro pp_ ee_ ss_ mm_ args below meth cc_ s₁ B hml hv
  obtain ⟨rfl, hsz, hP, hE, hD0⟩ := hv
  have hx := B.exec
  have hb := B.bytes
  have hr := B.returns
  have hts := atoms_spec (ws := wsX10_isSign) B.pre
  have hown : ss_.vm.findClass RX10 = some mm_.cls := findClass_of_methodNamed B.named
  have hlocks := B.notSynchronized
  have hK := hE.1
  have hiX10 : ∀ w ∈ wsX100, w ∈ wsX10_isSign := by decide +kernel
  subst hsz
  have hD := hD0.self (sz := ss_.heap.size)
  generalize hAe : va_A [(mm, .inr (10, [.int ithrown, .ref qlev, .ref qtxt, .int ityped, .int inext, .int itoken, .int iplace, .int ivalue, .int ifault, .int imany, .int idrafts, .ref qstm, .ref qsm, .int isumMany, .ref qsgn, .ref qvls, .ref qopn, .ref qopp, .ref qbke, .ref qbko, .ref qbkl, .ref qcel, .int isteps, .int icame, .ref qtap, .ref qtpl, .int iranSteps, .int iranCame, .ref qrtp, .ref qrlv, .int ipassed, .ref qsen, .ref qhpo, .ref qhpm, .ref qbgn, .ref qchn, .ref qsgt, .int isecrets, .int iheaps, .ref qrsd]))] ss_.heap.size = A at hD ⊢
  have hA : ∀ q : Nat, ss_.heap.size ≤ q → A q := fun q h => by rw [← hAe]; exact Or.inr h
  have hS : va_S A ss_.heap ss_.heap [] := va_S.rf
  have hl := lv_entry ([.ref mm, .int p1]) (n := 2) (Nat.le_of_ble_eq_true rfl)
  rw [lg_entry_eq]
  generalize (lg_sl ([.ref mm, .int p1]) ++ List.replicate (2 - (lg_sl ([.ref mm, .int p1])).length) Slot.unset).toArray = ls at hl ⊢
  have hl : lv_has ls 2 [(0, .ref mm), (1, .int p1)] := hl
  have key : ∀ n : Nat, (∀ (l1 : Int32) (itoken : Int32) (ivalue : Int32) (ifault : Int32) (r : Int32), L_m_isSign K  n 0 l1 itoken ivalue ifault = some (r) → ∀ (H : Heap) (locs : List Loc), va_P (dC, dI) vwCl [(mm, .inr (10, [.int ithrown, .ref qlev, .ref qtxt, .int ityped, .int inext, .int itoken, .int iplace, .int ivalue, .int ifault, .int imany, .int idrafts, .ref qstm, .ref qsm, .int isumMany, .ref qsgn, .ref qvls, .ref qopn, .ref qopp, .ref qbke, .ref qbko, .ref qbkl, .ref qcel, .int isteps, .int icame, .ref qtap, .ref qtpl, .int iranSteps, .int iranCame, .ref qrtp, .ref qrlv, .int ipassed, .ref qsen, .ref qhpo, .ref qhpm, .ref qbgn, .ref qchn, .ref qsgt, .int isecrets, .int iheaps, .ref qrsd]))] H → va_D A [(mm, .inr (10, [.int ithrown, .ref qlev, .ref qtxt, .int ityped, .int inext, .int itoken, .int iplace, .int ivalue, .int ifault, .int imany, .int idrafts, .ref qstm, .ref qsm, .int isumMany, .ref qsgn, .ref qvls, .ref qopn, .ref qopp, .ref qbke, .ref qbko, .ref qbkl, .ref qcel, .int isteps, .int icame, .ref qtap, .ref qtpl, .int iranSteps, .int iranCame, .ref qrtp, .ref qrlv, .int ipassed, .ref qsen, .ref qhpo, .ref qhpm, .ref qbgn, .ref qchn, .ref qsgt, .int isecrets, .int iheaps, .ref qrsd]))] → va_S A ss_.heap H locs → ∀ ls : Array Slot, lv_has ls 2 [(0, .ref mm), (1, .int l1)] → W pp_ l ee_ (headSpec wsX10_isSign ({ frames := 1, cells := 0, slots := 0, locals := 20 })).room ss_ mm_ #[.ref mm, .int p1] below meth cc_ H locs 0 0 (MQ below (va_Qi (fun (r_ : Int32) (_ : Unit) => r_ = r) (BE dC dI A (fun _ => [(mm, .inr (10, [.int ithrown, .ref qlev, .ref qtxt, .int ityped, .int inext, .int itoken, .int iplace, .int ivalue, .int ifault, .int imany, .int idrafts, .ref qstm, .ref qsm, .int isumMany, .ref qsgn, .ref qvls, .ref qopn, .ref qopp, .ref qbke, .ref qbko, .ref qbkl, .ref qcel, .int isteps, .int icame, .ref qtap, .ref qtpl, .int iranSteps, .int iranCame, .ref qrtp, .ref qrlv, .int ipassed, .ref qsen, .ref qhpo, .ref qhpm, .ref qbgn, .ref qchn, .ref qsgt, .int isecrets, .int iheaps, .ref qrsd]))])) A) #[.ref mm, .int p1] ss_ 0 0 A) (F0 mm_ 0 ls [])) ∧ (∀ (l1 : Int32) (itoken : Int32) (ivalue : Int32) (ifault : Int32) (r : Int32), L_m_isSign K  n 1 l1 itoken ivalue ifault = some (r) → ∀ (H : Heap) (locs : List Loc), va_P (dC, dI) vwCl [(mm, .inr (10, [.int ithrown, .ref qlev, .ref qtxt, .int ityped, .int inext, .int itoken, .int iplace, .int ivalue, .int ifault, .int imany, .int idrafts, .ref qstm, .ref qsm, .int isumMany, .ref qsgn, .ref qvls, .ref qopn, .ref qopp, .ref qbke, .ref qbko, .ref qbkl, .ref qcel, .int isteps, .int icame, .ref qtap, .ref qtpl, .int iranSteps, .int iranCame, .ref qrtp, .ref qrlv, .int ipassed, .ref qsen, .ref qhpo, .ref qhpm, .ref qbgn, .ref qchn, .ref qsgt, .int isecrets, .int iheaps, .ref qrsd]))] H → va_D A [(mm, .inr (10, [.int ithrown, .ref qlev, .ref qtxt, .int ityped, .int inext, .int itoken, .int iplace, .int ivalue, .int ifault, .int imany, .int idrafts, .ref qstm, .ref qsm, .int isumMany, .ref qsgn, .ref qvls, .ref qopn, .ref qopp, .ref qbke, .ref qbko, .ref qbkl, .ref qcel, .int isteps, .int icame, .ref qtap, .ref qtpl, .int iranSteps, .int iranCame, .ref qrtp, .ref qrlv, .int ipassed, .ref qsen, .ref qhpo, .ref qhpm, .ref qbgn, .ref qchn, .ref qsgt, .int isecrets, .int iheaps, .ref qrsd]))] → va_S A ss_.heap H locs → ∀ ls : Array Slot, lv_has ls 2 [(0, .ref mm), (1, .int l1)] → W pp_ l ee_ (headSpec wsX10_isSign ({ frames := 1, cells := 0, slots := 0, locals := 20 })).room ss_ mm_ #[.ref mm, .int p1] below meth cc_ H locs 0 0 (MQ below (va_Qi (fun (r_ : Int32) (_ : Unit) => r_ = r) (BE dC dI A (fun _ => [(mm, .inr (10, [.int ithrown, .ref qlev, .ref qtxt, .int ityped, .int inext, .int itoken, .int iplace, .int ivalue, .int ifault, .int imany, .int idrafts, .ref qstm, .ref qsm, .int isumMany, .ref qsgn, .ref qvls, .ref qopn, .ref qopp, .ref qbke, .ref qbko, .ref qbkl, .ref qcel, .int isteps, .int icame, .ref qtap, .ref qtpl, .int iranSteps, .int iranCame, .ref qrtp, .ref qrlv, .int ipassed, .ref qsen, .ref qhpo, .ref qhpm, .ref qbgn, .ref qchn, .ref qsgt, .int isecrets, .int iheaps, .ref qrsd]))])) A) #[.ref mm, .int p1] ss_ 0 0 A) (F0 mm_ 28 ls [])) := by
    intro n
    induction n with
    | zero => exact ⟨(fun _ _ _ _ _ hF => absurd hF (fun e => by cases e)), (fun _ _ _ _ _ hF => absurd hF (fun e => by cases e))⟩
    | succ n ih =>
      refine ⟨?_, ?_⟩
      · intro l1 itoken ivalue ifault r hB H locs hP hD hS ls hl
        change B_m_isSign_0 K  (L_m_isSign K  n) l1 itoken ivalue ifault = some (r) at hB
        unfold B_m_isSign_0 at hB
        refine lv_aload_n hx hb dX10_isSign_0 rfl (lv_at hl 0 rfl) ?_
        rcases hc_2 : F_m_isWell K ifault with _ | o_1
        · rw [hc_2] at hB; cases hB
        rw [hc_2] at hB
        obtain ⟨r_3, er_3⟩ : ∃ q, q = o_1 := ⟨_, rfl⟩
        subst er_3
        simp only [Option.bind_some] at hB
        have hFc := va_free (wc := [(mm, .inr (10, [.int ithrown, .ref qlev, .ref qtxt, .int ityped, .int inext, .int itoken, .int iplace, .int ivalue, .int ifault, .int imany, .int idrafts, .ref qstm, .ref qsm, .int isumMany, .ref qsgn, .ref qvls, .ref qopn, .ref qopp, .ref qbke, .ref qbko, .ref qbkl, .ref qcel, .int isteps, .int icame, .ref qtap, .ref qtpl, .int iranSteps, .int iranCame, .ref qrtp, .ref qrlv, .int ipassed, .ref qsen, .ref qhpo, .ref qhpm, .ref qbgn, .ref qchn, .ref qsgt, .int isecrets, .int iheaps, .ref qrsd]))]) hD hS hA [0] rfl
        refine zCi (wr := []) hP hD hS hFc [0] [] rfl rfl (by decide) (by decide) (va_runV (As := []) (rest := []) ⟨hx, hb, hml, hown, hts⟩ (c_m_isWell l dC dI cI cJ cS H.size K mm ithrown qlev qtxt ityped inext itoken iplace ivalue ifault imany idrafts qstm qsm isumMany qsgn qvls qopn qopp qbke qbko qbkl qcel isteps icame qtap qtpl iranSteps iranCame qrtp qrlv ipassed qsen qhpo qhpm qbgn qchn qsgt isecrets iheaps qrsd r_3 hc_2) (cwV 0 hts gX10_isSign_X10_isWell rfl rfl rfl (by decide +kernel) ⟨Nat.le_of_ble_eq_true rfl, Nat.le_of_ble_eq_true rfl⟩) (preEV (hP.sub (ws' := [(mm, .inr (10, [.int ithrown, .ref qlev, .ref qtxt, .int ityped, .int inext, .int itoken, .int iplace, .int ivalue, .int ifault, .int imany, .int idrafts, .ref qstm, .ref qsm, .int isumMany, .ref qsgn, .ref qvls, .ref qopn, .ref qopp, .ref qbke, .ref qbko, .ref qbkl, .ref qcel, .int isteps, .int icame, .ref qtap, .ref qtpl, .int iranSteps, .int iranCame, .ref qrtp, .ref qrlv, .int ipassed, .ref qsen, .ref qhpo, .ref qhpm, .ref qbgn, .ref qchn, .ref qsgt, .int isecrets, .int iheaps, .ref qrsd]))]) [0] rfl) hE (hD.sub (ws' := [(mm, .inr (10, [.int ithrown, .ref qlev, .ref qtxt, .int ityped, .int inext, .int itoken, .int iplace, .int ivalue, .int ifault, .int imany, .int idrafts, .ref qstm, .ref qsm, .int isumMany, .ref qsgn, .ref qvls, .ref qopn, .ref qopp, .ref qbke, .ref qbko, .ref qbkl, .ref qcel, .int isteps, .int icame, .ref qtap, .ref qtpl, .int iranSteps, .int iranCame, .ref qrtp, .ref qrlv, .int ipassed, .ref qsen, .ref qhpo, .ref qhpm, .ref qbgn, .ref qchn, .ref qsgt, .int isecrets, .int iheaps, .ref qrsd]))]) [0] (by decide) rfl) 0 (ci := 10) rfl rfl) rfl rfl hl.1 rfl (lv_room (Nat.le_of_ble_eq_true rfl)) dX10_isSign_1 ⟨Nat.le_refl _, Nat.le_refl _⟩) (fun rr_4 _ H locs hr_5 hP hD hS => ?_)
        obtain rfl := hr_5
        have hP : va_P (dC, dI) vwCl [(mm, .inr (10, [.int ithrown, .ref qlev, .ref qtxt, .int ityped, .int inext, .int itoken, .int iplace, .int ivalue, .int ifault, .int imany, .int idrafts, .ref qstm, .ref qsm, .int isumMany, .ref qsgn, .ref qvls, .ref qopn, .ref qopp, .ref qbke, .ref qbko, .ref qbkl, .ref qcel, .int isteps, .int icame, .ref qtap, .ref qtpl, .int iranSteps, .int iranCame, .ref qrtp, .ref qrlv, .int ipassed, .ref qsen, .ref qhpo, .ref qhpm, .ref qbgn, .ref qchn, .ref qsgt, .int isecrets, .int iheaps, .ref qrsd]))] H := hP
        have hD : va_D A [(mm, .inr (10, [.int ithrown, .ref qlev, .ref qtxt, .int ityped, .int inext, .int itoken, .int iplace, .int ivalue, .int ifault, .int imany, .int idrafts, .ref qstm, .ref qsm, .int isumMany, .ref qsgn, .ref qvls, .ref qopn, .ref qopp, .ref qbke, .ref qbko, .ref qbkl, .ref qcel, .int isteps, .int icame, .ref qtap, .ref qtpl, .int iranSteps, .int iranCame, .ref qrtp, .ref qrlv, .int ipassed, .ref qsen, .ref qhpo, .ref qhpm, .ref qbgn, .ref qchn, .ref qsgt, .int isecrets, .int iheaps, .ref qrsd]))] := hD
        refine lv_if_eq (tgt := 28) hx hb dX10_isSign_4 (by decide) (fun c_6 => ?_) (fun c_6 => ?_)
        · rw [if_pos c_6] at hB
          exact ih.2 l1 itoken ivalue ifault _ hB _ _ (hP.sub (ws' := [(mm, .inr (10, [.int ithrown, .ref qlev, .ref qtxt, .int ityped, .int inext, .int itoken, .int iplace, .int ivalue, .int ifault, .int imany, .int idrafts, .ref qstm, .ref qsm, .int isumMany, .ref qsgn, .ref qvls, .ref qopn, .ref qopp, .ref qbke, .ref qbko, .ref qbkl, .ref qcel, .int isteps, .int icame, .ref qtap, .ref qtpl, .int iranSteps, .int iranCame, .ref qrtp, .ref qrlv, .int ipassed, .ref qsen, .ref qhpo, .ref qhpm, .ref qbgn, .ref qchn, .ref qsgt, .int isecrets, .int iheaps, .ref qrsd]))]) [0] rfl) (hD.sub (ws' := [(mm, .inr (10, [.int ithrown, .ref qlev, .ref qtxt, .int ityped, .int inext, .int itoken, .int iplace, .int ivalue, .int ifault, .int imany, .int idrafts, .ref qstm, .ref qsm, .int isumMany, .ref qsgn, .ref qvls, .ref qopn, .ref qopp, .ref qbke, .ref qbko, .ref qbkl, .ref qcel, .int isteps, .int icame, .ref qtap, .ref qtpl, .int iranSteps, .int iranCame, .ref qrtp, .ref qrlv, .int ipassed, .ref qsen, .ref qhpo, .ref qhpm, .ref qbgn, .ref qchn, .ref qsgt, .int isecrets, .int iheaps, .ref qrsd]))]) [0] (by decide) rfl) hS ls (lv_sub hl [0, 1] rfl)
        · rw [if_neg c_6] at hB
          refine lv_aload_n hx hb dX10_isSign_7 rfl (lv_at hl 0 rfl) ?_
          refine va_get (D := (dC, dI)) (ci := 10) (v := .int itoken) (C := RX10) (T := TX10) (N := 40) hx hb hts hiX10 hown hK hP 0 rfl rfl 5 (by decide) (hts (.fieldLink RX10 109 "WatchedProgramsModel" "token" "I") (by decide +kernel)) (fun _ h9 => h9) rfl dX10_isSign_8 ?_
          refine lv_bipush (v := 7) hx hb dX10_isSign_11 (by decide) ?_
          refine lv_icmp_ne (tgt := 28) hx hb dX10_isSign_13 (by decide) (fun c_7 => ?_) (fun c_7 => ?_)
          · rw [if_neg c_7] at hB
            exact ih.2 l1 itoken ivalue ifault _ hB _ _ (hP.sub (ws' := [(mm, .inr (10, [.int ithrown, .ref qlev, .ref qtxt, .int ityped, .int inext, .int itoken, .int iplace, .int ivalue, .int ifault, .int imany, .int idrafts, .ref qstm, .ref qsm, .int isumMany, .ref qsgn, .ref qvls, .ref qopn, .ref qopp, .ref qbke, .ref qbko, .ref qbkl, .ref qcel, .int isteps, .int icame, .ref qtap, .ref qtpl, .int iranSteps, .int iranCame, .ref qrtp, .ref qrlv, .int ipassed, .ref qsen, .ref qhpo, .ref qhpm, .ref qbgn, .ref qchn, .ref qsgt, .int isecrets, .int iheaps, .ref qrsd]))]) [0] rfl) (hD.sub (ws' := [(mm, .inr (10, [.int ithrown, .ref qlev, .ref qtxt, .int ityped, .int inext, .int itoken, .int iplace, .int ivalue, .int ifault, .int imany, .int idrafts, .ref qstm, .ref qsm, .int isumMany, .ref qsgn, .ref qvls, .ref qopn, .ref qopp, .ref qbke, .ref qbko, .ref qbkl, .ref qcel, .int isteps, .int icame, .ref qtap, .ref qtpl, .int iranSteps, .int iranCame, .ref qrtp, .ref qrlv, .int ipassed, .ref qsen, .ref qhpo, .ref qhpm, .ref qbgn, .ref qchn, .ref qsgt, .int isecrets, .int iheaps, .ref qrsd]))]) [0] (by decide) rfl) hS ls (lv_sub hl [0, 1] rfl)
          · rw [if_pos c_7] at hB
            refine lv_aload_n hx hb dX10_isSign_16 rfl (lv_at hl 0 rfl) ?_
            refine va_get (D := (dC, dI)) (ci := 10) (v := .int ivalue) (C := RX10) (T := TX10) (N := 40) hx hb hts hiX10 hown hK hP 0 rfl rfl 7 (by decide) (hts (.fieldLink RX10 112 "WatchedProgramsModel" "value" "I") (by decide +kernel)) (fun _ h9 => h9) rfl dX10_isSign_17 ?_
            refine lv_iload_n hx hb dX10_isSign_20 rfl (lv_at hl 1 rfl) ?_
            refine lv_icmp_ne (tgt := 28) hx hb dX10_isSign_21 (by decide) (fun c_8 => ?_) (fun c_8 => ?_)
            · rw [if_neg c_8] at hB
              exact ih.2 l1 itoken ivalue ifault _ hB _ _ (hP.sub (ws' := [(mm, .inr (10, [.int ithrown, .ref qlev, .ref qtxt, .int ityped, .int inext, .int itoken, .int iplace, .int ivalue, .int ifault, .int imany, .int idrafts, .ref qstm, .ref qsm, .int isumMany, .ref qsgn, .ref qvls, .ref qopn, .ref qopp, .ref qbke, .ref qbko, .ref qbkl, .ref qcel, .int isteps, .int icame, .ref qtap, .ref qtpl, .int iranSteps, .int iranCame, .ref qrtp, .ref qrlv, .int ipassed, .ref qsen, .ref qhpo, .ref qhpm, .ref qbgn, .ref qchn, .ref qsgt, .int isecrets, .int iheaps, .ref qrsd]))]) [0] rfl) (hD.sub (ws' := [(mm, .inr (10, [.int ithrown, .ref qlev, .ref qtxt, .int ityped, .int inext, .int itoken, .int iplace, .int ivalue, .int ifault, .int imany, .int idrafts, .ref qstm, .ref qsm, .int isumMany, .ref qsgn, .ref qvls, .ref qopn, .ref qopp, .ref qbke, .ref qbko, .ref qbkl, .ref qcel, .int isteps, .int icame, .ref qtap, .ref qtpl, .int iranSteps, .int iranCame, .ref qrtp, .ref qrlv, .int ipassed, .ref qsen, .ref qhpo, .ref qhpm, .ref qbgn, .ref qchn, .ref qsgt, .int isecrets, .int iheaps, .ref qrsd]))]) [0] (by decide) rfl) hS ls (lv_sub hl [0, 1] rfl)
            · rw [if_pos c_8] at hB
              refine lv_iconst (v := 1) hx hb dX10_isSign_24 (by decide) ?_
              refine lv_goto (tgt := 29) hx hb dX10_isSign_25 (by decide) ?_
              cases hB
              have hP9 := (hP.sub (ws' := [(mm, .inr (10, [.int ithrown, .ref qlev, .ref qtxt, .int ityped, .int inext, .int itoken, .int iplace, .int ivalue, .int ifault, .int imany, .int idrafts, .ref qstm, .ref qsm, .int isumMany, .ref qsgn, .ref qvls, .ref qopn, .ref qopp, .ref qbke, .ref qbko, .ref qbkl, .ref qcel, .int isteps, .int icame, .ref qtap, .ref qtpl, .int iranSteps, .int iranCame, .ref qrtp, .ref qrlv, .int ipassed, .ref qsen, .ref qhpo, .ref qhpm, .ref qbgn, .ref qchn, .ref qsgt, .int isecrets, .int iheaps, .ref qrsd]))]) [0] rfl)
              have hD9 := (hD.sub (ws' := [(mm, .inr (10, [.int ithrown, .ref qlev, .ref qtxt, .int ityped, .int inext, .int itoken, .int iplace, .int ivalue, .int ifault, .int imany, .int idrafts, .ref qstm, .ref qsm, .int isumMany, .ref qsgn, .ref qvls, .ref qopn, .ref qopp, .ref qbke, .ref qbko, .ref qbkl, .ref qcel, .int isteps, .int icame, .ref qtap, .ref qtpl, .int iranSteps, .int iranCame, .ref qrtp, .ref qrlv, .int ipassed, .ref qsen, .ref qhpo, .ref qhpm, .ref qbgn, .ref qchn, .ref qsgt, .int isecrets, .int iheaps, .ref qrsd]))]) [0] (by decide) rfl)
              exact W.zret (v := 1) hx hb hr (by decide) (fun tt_ ht hW => ⟨⟨_, (), rfl, rfl, by rw [ht]; exact hP9, hD9⟩, hS.F ht⟩) hS.2.2 dX10_isSign_29
      · intro l1 itoken ivalue ifault r hB H locs hP hD hS ls hl
        change B_m_isSign_1 K  (L_m_isSign K  n) l1 itoken ivalue ifault = some (r) at hB
        unfold B_m_isSign_1 at hB
        refine lv_iconst (v := 0) hx hb dX10_isSign_28 (by decide) ?_
        cases hB
        have hP9 := (hP.sub (ws' := [(mm, .inr (10, [.int ithrown, .ref qlev, .ref qtxt, .int ityped, .int inext, .int itoken, .int iplace, .int ivalue, .int ifault, .int imany, .int idrafts, .ref qstm, .ref qsm, .int isumMany, .ref qsgn, .ref qvls, .ref qopn, .ref qopp, .ref qbke, .ref qbko, .ref qbkl, .ref qcel, .int isteps, .int icame, .ref qtap, .ref qtpl, .int iranSteps, .int iranCame, .ref qrtp, .ref qrlv, .int ipassed, .ref qsen, .ref qhpo, .ref qhpm, .ref qbgn, .ref qchn, .ref qsgt, .int isecrets, .int iheaps, .ref qrsd]))]) [0] rfl)
        have hD9 := (hD.sub (ws' := [(mm, .inr (10, [.int ithrown, .ref qlev, .ref qtxt, .int ityped, .int inext, .int itoken, .int iplace, .int ivalue, .int ifault, .int imany, .int idrafts, .ref qstm, .ref qsm, .int isumMany, .ref qsgn, .ref qvls, .ref qopn, .ref qopp, .ref qbke, .ref qbko, .ref qbkl, .ref qcel, .int isteps, .int icame, .ref qtap, .ref qtpl, .int iranSteps, .int iranCame, .ref qrtp, .ref qrlv, .int ipassed, .ref qsen, .ref qhpo, .ref qhpm, .ref qbgn, .ref qchn, .ref qsgt, .int isecrets, .int iheaps, .ref qrsd]))]) [0] (by decide) rfl)
        exact W.zret (v := 0) hx hb hr (by decide) (fun tt_ ht hW => ⟨⟨_, (), rfl, rfl, by rw [ht]; exact hP9, hD9⟩, hS.F ht⟩) hS.2.2 dX10_isSign_29
  exact (key K).1 p1 itoken ivalue ifault r hF _ _ hP hD hS ls hl
