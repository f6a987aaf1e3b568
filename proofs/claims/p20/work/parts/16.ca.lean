def B_X9_isCell_0 (K : Nat)  (rec : Nat → Int32 → Option (Int32)) (l0 : Int32) : Option (Int32) := if l0 < 0 then (rec 1 l0) else (if (6 : Int32) ≤ l0 then (rec 1 l0) else (some (1)))
def B_X9_isCell_1 (K : Nat)  (rec : Nat → Int32 → Option (Int32)) (l0 : Int32) : Option (Int32) := some (0)
def L_X9_isCell (K : Nat)  : Nat → Nat → Int32 → Option (Int32)
  | 0 => fun _ _ => none
  | n + 1 => fun c l0 => match c with | 0 => B_X9_isCell_0 K  (L_X9_isCell K  n) l0 | 1 => B_X9_isCell_1 K  (L_X9_isCell K  n) l0 | _ => none
theorem L_X9_isCell_e0 (K : Nat)  (n : Nat) (l0 : Int32) : L_X9_isCell K  (n + 1) 0 l0 = B_X9_isCell_0 K  (L_X9_isCell K  n) l0 := rfl
theorem L_X9_isCell_e1 (K : Nat)  (n : Nat) (l0 : Int32) : L_X9_isCell K  (n + 1) 1 l0 = B_X9_isCell_1 K  (L_X9_isCell K  n) l0 := rfl
def F_X9_isCell (K : Nat) (l0 : Int32)  : Option (Int32) := L_X9_isCell K K 0 l0
set_option maxHeartbeats 2000000 in
set_option maxRecDepth 100000 in
theorem c_X9_isCell (l : Launch) (dC : Nat → ClassId) (dI : Nat → Nat → Nat) (cI cJ cS : ClassId) (sz K : Nat) (y1 : Int32) (r : Int32) (hF : F_X9_isCell K y1 = some (r)) : Met l yX9_isCell wsX9_isCell ({ frames := 0, cells := 0, slots := 0, locals := 0 }) (va_Pc [.int y1] (PE dC dI cI cJ cS [] sz)) (va_Qi (fun (r_ : Int32) (_ : Unit) => r_ = r) (BE dC dI (va_A [] sz) (fun _ => [])) (va_A [] sz)) 0 0 (va_A [] sz) := by
  refine Met.ofW (cc := cX9_isCell) (maxL := 1) (ret := (some .boolean)) (by decide) rfl ?_
  intro pp_ ee_ ss_ mm_ args below meth cc_ s₁ B hml hv
  obtain ⟨rfl, hsz, hP, hE, hD0⟩ := hv
  have hx := B.exec
  have hb := B.bytes
  have hr := B.returns
  have hts := atoms_spec (ws := wsX9_isCell) B.pre
  have hown : ss_.vm.findClass RX9 = some mm_.cls := findClass_of_methodNamed B.named
  have hlocks := B.notSynchronized
  have hK := hE.1
  subst hsz
  have hD := hD0.self (sz := ss_.heap.size)
  generalize hAe : va_A [] ss_.heap.size = A at hD ⊢
  have hA : ∀ q : Nat, ss_.heap.size ≤ q → A q := fun q h => by rw [← hAe]; exact Or.inr h
  have hS : va_S A ss_.heap ss_.heap [] := va_S.rf
  have hl := lv_entry ([.int y1]) (n := 1) (Nat.le_of_ble_eq_true rfl)
  rw [lg_entry_eq]
  generalize (lg_sl ([.int y1]) ++ List.replicate (1 - (lg_sl ([.int y1])).length) Slot.unset).toArray = ls at hl ⊢
  have hl : lv_has ls 1 [(0, .int y1)] := hl
  have key : ∀ n : Nat, (∀ (l0 : Int32) (r : Int32), L_X9_isCell K  n 0 l0 = some (r) → ∀ (H : Heap) (locs : List Loc), va_P (dC, dI) vwCl [] H → va_D A [] → va_S A ss_.heap H locs → ∀ ls : Array Slot, lv_has ls 1 [(0, .int l0)] → W pp_ l ee_ (headSpec wsX9_isCell ({ frames := 0, cells := 0, slots := 0, locals := 0 })).room ss_ mm_ #[.int y1] below meth cc_ H locs 0 0 (MQ below (va_Qi (fun (r_ : Int32) (_ : Unit) => r_ = r) (BE dC dI A (fun _ => [])) A) #[.int y1] ss_ 0 0 A) (F0 mm_ 0 ls [])) ∧ (∀ (l0 : Int32) (r : Int32), L_X9_isCell K  n 1 l0 = some (r) → ∀ (H : Heap) (locs : List Loc), va_P (dC, dI) vwCl [] H → va_D A [] → va_S A ss_.heap H locs → ∀ ls : Array Slot, lv_has ls 1 [(0, .int l0)] → W pp_ l ee_ (headSpec wsX9_isCell ({ frames := 0, cells := 0, slots := 0, locals := 0 })).room ss_ mm_ #[.int y1] below meth cc_ H locs 0 0 (MQ below (va_Qi (fun (r_ : Int32) (_ : Unit) => r_ = r) (BE dC dI A (fun _ => [])) A) #[.int y1] ss_ 0 0 A) (F0 mm_ 14 ls [])) := by
    intro n
    induction n with
    | zero => exact ⟨(fun _ _ hF => absurd hF (fun e => by cases e)), (fun _ _ hF => absurd hF (fun e => by cases e))⟩
    | succ n ih =>
      obtain ⟨ih0, ih1⟩ := ih
      refine ⟨?_, ?_⟩
      · intro l0 r hB H locs hP hD hS ls hl
        replace hB := Eq.trans (L_X9_isCell_e0 K  n l0).symm hB
        unfold B_X9_isCell_0 at hB
        refine lv_iload_n hx hb dX9_isCell_0 rfl (lv_at hl 0 rfl) ?_
        refine lv_if_lt (tgt := 14) hx hb dX9_isCell_1 (by decide) (fun c_1 => ?_) (fun c_1 => ?_)
        · rw [if_pos c_1] at hB
          exact ih1 l0 _ hB _ _ (hP.sub (ws' := []) [] rfl) (hD.sub (ws' := []) [] (by decide) rfl) hS ls (lv_sub hl [0] rfl)
        · rw [if_neg c_1] at hB
          refine lv_iload_n hx hb dX9_isCell_4 rfl (lv_at hl 0 rfl) ?_
          refine lv_bipush (v := 6) hx hb dX9_isCell_5 (by decide) ?_
          refine lv_icmp_ge (tgt := 14) hx hb dX9_isCell_7 (by decide) (fun c_2 => ?_) (fun c_2 => ?_)
          · rw [if_pos c_2] at hB
            exact ih1 l0 _ hB _ _ (hP.sub (ws' := []) [] rfl) (hD.sub (ws' := []) [] (by decide) rfl) hS ls (lv_sub hl [0] rfl)
          · rw [if_neg c_2] at hB
            refine lv_iconst (v := 1) hx hb dX9_isCell_10 (by decide) ?_
            refine lv_goto (tgt := 15) hx hb dX9_isCell_11 (by decide) ?_
            obtain rfl := Option.some.inj hB
            have hP9 := (hP.sub (ws' := []) [] rfl)
            have hD9 := (hD.sub (ws' := []) [] (by decide) rfl)
            exact W.zret (v := 1) hx hb hr (by decide) (fun tt_ ht hW => ⟨⟨_, (), rfl, rfl, by rw [ht]; exact hP9, hD9⟩, hS.F ht⟩) hS.2.2 dX9_isCell_15
      · intro l0 r hB H locs hP hD hS ls hl
        replace hB := Eq.trans (L_X9_isCell_e1 K  n l0).symm hB
        unfold B_X9_isCell_1 at hB
        refine lv_iconst (v := 0) hx hb dX9_isCell_14 (by decide) ?_
        obtain rfl := Option.some.inj hB
        have hP9 := (hP.sub (ws' := []) [] rfl)
        have hD9 := (hD.sub (ws' := []) [] (by decide) rfl)
        exact W.zret (v := 0) hx hb hr (by decide) (fun tt_ ht hW => ⟨⟨_, (), rfl, rfl, by rw [ht]; exact hP9, hD9⟩, hS.F ht⟩) hS.2.2 dX9_isCell_15
  exact (key K).1 y1 r hF _ _ hP hD hS ls hl
def B_X9_isLevel_0 (K : Nat)  (rec : Nat → Int32 → Option (Int32)) (l0 : Int32) : Option (Int32) := if l0 < 0 then (rec 1 l0) else (if (3 : Int32) < l0 then (rec 1 l0) else (some (1)))
def B_X9_isLevel_1 (K : Nat)  (rec : Nat → Int32 → Option (Int32)) (l0 : Int32) : Option (Int32) := some (0)
def L_X9_isLevel (K : Nat)  : Nat → Nat → Int32 → Option (Int32)
  | 0 => fun _ _ => none
  | n + 1 => fun c l0 => match c with | 0 => B_X9_isLevel_0 K  (L_X9_isLevel K  n) l0 | 1 => B_X9_isLevel_1 K  (L_X9_isLevel K  n) l0 | _ => none
theorem L_X9_isLevel_e0 (K : Nat)  (n : Nat) (l0 : Int32) : L_X9_isLevel K  (n + 1) 0 l0 = B_X9_isLevel_0 K  (L_X9_isLevel K  n) l0 := rfl
theorem L_X9_isLevel_e1 (K : Nat)  (n : Nat) (l0 : Int32) : L_X9_isLevel K  (n + 1) 1 l0 = B_X9_isLevel_1 K  (L_X9_isLevel K  n) l0 := rfl
def F_X9_isLevel (K : Nat) (l0 : Int32)  : Option (Int32) := L_X9_isLevel K K 0 l0
set_option maxHeartbeats 2000000 in
set_option maxRecDepth 100000 in
theorem c_X9_isLevel (l : Launch) (dC : Nat → ClassId) (dI : Nat → Nat → Nat) (cI cJ cS : ClassId) (sz K : Nat) (y1 : Int32) (r : Int32) (hF : F_X9_isLevel K y1 = some (r)) : Met l yX9_isLevel wsX9_isLevel ({ frames := 0, cells := 0, slots := 0, locals := 0 }) (va_Pc [.int y1] (PE dC dI cI cJ cS [] sz)) (va_Qi (fun (r_ : Int32) (_ : Unit) => r_ = r) (BE dC dI (va_A [] sz) (fun _ => [])) (va_A [] sz)) 0 0 (va_A [] sz) := by
  refine Met.ofW (cc := cX9_isLevel) (maxL := 1) (ret := (some .boolean)) (by decide) rfl ?_
  intro pp_ ee_ ss_ mm_ args below meth cc_ s₁ B hml hv
  obtain ⟨rfl, hsz, hP, hE, hD0⟩ := hv
  have hx := B.exec
  have hb := B.bytes
  have hr := B.returns
  have hts := atoms_spec (ws := wsX9_isLevel) B.pre
  have hown : ss_.vm.findClass RX9 = some mm_.cls := findClass_of_methodNamed B.named
  have hlocks := B.notSynchronized
  have hK := hE.1
  subst hsz
  have hD := hD0.self (sz := ss_.heap.size)
  generalize hAe : va_A [] ss_.heap.size = A at hD ⊢
  have hA : ∀ q : Nat, ss_.heap.size ≤ q → A q := fun q h => by rw [← hAe]; exact Or.inr h
  have hS : va_S A ss_.heap ss_.heap [] := va_S.rf
  have hl := lv_entry ([.int y1]) (n := 1) (Nat.le_of_ble_eq_true rfl)
  rw [lg_entry_eq]
  generalize (lg_sl ([.int y1]) ++ List.replicate (1 - (lg_sl ([.int y1])).length) Slot.unset).toArray = ls at hl ⊢
  have hl : lv_has ls 1 [(0, .int y1)] := hl
  have key : ∀ n : Nat, (∀ (l0 : Int32) (r : Int32), L_X9_isLevel K  n 0 l0 = some (r) → ∀ (H : Heap) (locs : List Loc), va_P (dC, dI) vwCl [] H → va_D A [] → va_S A ss_.heap H locs → ∀ ls : Array Slot, lv_has ls 1 [(0, .int l0)] → W pp_ l ee_ (headSpec wsX9_isLevel ({ frames := 0, cells := 0, slots := 0, locals := 0 })).room ss_ mm_ #[.int y1] below meth cc_ H locs 0 0 (MQ below (va_Qi (fun (r_ : Int32) (_ : Unit) => r_ = r) (BE dC dI A (fun _ => [])) A) #[.int y1] ss_ 0 0 A) (F0 mm_ 0 ls [])) ∧ (∀ (l0 : Int32) (r : Int32), L_X9_isLevel K  n 1 l0 = some (r) → ∀ (H : Heap) (locs : List Loc), va_P (dC, dI) vwCl [] H → va_D A [] → va_S A ss_.heap H locs → ∀ ls : Array Slot, lv_has ls 1 [(0, .int l0)] → W pp_ l ee_ (headSpec wsX9_isLevel ({ frames := 0, cells := 0, slots := 0, locals := 0 })).room ss_ mm_ #[.int y1] below meth cc_ H locs 0 0 (MQ below (va_Qi (fun (r_ : Int32) (_ : Unit) => r_ = r) (BE dC dI A (fun _ => [])) A) #[.int y1] ss_ 0 0 A) (F0 mm_ 13 ls [])) := by
    intro n
    induction n with
    | zero => exact ⟨(fun _ _ hF => absurd hF (fun e => by cases e)), (fun _ _ hF => absurd hF (fun e => by cases e))⟩
    | succ n ih =>
      obtain ⟨ih0, ih1⟩ := ih
      refine ⟨?_, ?_⟩
      · intro l0 r hB H locs hP hD hS ls hl
        replace hB := Eq.trans (L_X9_isLevel_e0 K  n l0).symm hB
        unfold B_X9_isLevel_0 at hB
        refine lv_iload_n hx hb dX9_isLevel_0 rfl (lv_at hl 0 rfl) ?_
        refine lv_if_lt (tgt := 13) hx hb dX9_isLevel_1 (by decide) (fun c_1 => ?_) (fun c_1 => ?_)
        · rw [if_pos c_1] at hB
          exact ih1 l0 _ hB _ _ (hP.sub (ws' := []) [] rfl) (hD.sub (ws' := []) [] (by decide) rfl) hS ls (lv_sub hl [0] rfl)
        · rw [if_neg c_1] at hB
          refine lv_iload_n hx hb dX9_isLevel_4 rfl (lv_at hl 0 rfl) ?_
          refine lv_iconst (v := 3) hx hb dX9_isLevel_5 (by decide) ?_
          refine lv_icmp_gt (tgt := 13) hx hb dX9_isLevel_6 (by decide) (fun c_2 => ?_) (fun c_2 => ?_)
          · rw [if_pos c_2] at hB
            exact ih1 l0 _ hB _ _ (hP.sub (ws' := []) [] rfl) (hD.sub (ws' := []) [] (by decide) rfl) hS ls (lv_sub hl [0] rfl)
          · rw [if_neg c_2] at hB
            refine lv_iconst (v := 1) hx hb dX9_isLevel_9 (by decide) ?_
            refine lv_goto (tgt := 14) hx hb dX9_isLevel_10 (by decide) ?_
            obtain rfl := Option.some.inj hB
            have hP9 := (hP.sub (ws' := []) [] rfl)
            have hD9 := (hD.sub (ws' := []) [] (by decide) rfl)
            exact W.zret (v := 1) hx hb hr (by decide) (fun tt_ ht hW => ⟨⟨_, (), rfl, rfl, by rw [ht]; exact hP9, hD9⟩, hS.F ht⟩) hS.2.2 dX9_isLevel_14
      · intro l0 r hB H locs hP hD hS ls hl
        replace hB := Eq.trans (L_X9_isLevel_e1 K  n l0).symm hB
        unfold B_X9_isLevel_1 at hB
        refine lv_iconst (v := 0) hx hb dX9_isLevel_13 (by decide) ?_
        obtain rfl := Option.some.inj hB
        have hP9 := (hP.sub (ws' := []) [] rfl)
        have hD9 := (hD.sub (ws' := []) [] (by decide) rfl)
        exact W.zret (v := 0) hx hb hr (by decide) (fun tt_ ht hW => ⟨⟨_, (), rfl, rfl, by rw [ht]; exact hP9, hD9⟩, hS.F ht⟩) hS.2.2 dX9_isLevel_14
  exact (key K).1 y1 r hF _ _ hP hD hS ls hl
def B_X9_isFlag_0 (K : Nat)  (rec : Nat → Int32 → Option (Int32)) (l0 : Int32) : Option (Int32) := if l0 = 0 then (rec 1 l0) else (if l0 = 1 then (rec 1 l0) else (some (0)))
def B_X9_isFlag_1 (K : Nat)  (rec : Nat → Int32 → Option (Int32)) (l0 : Int32) : Option (Int32) := some (1)
def L_X9_isFlag (K : Nat)  : Nat → Nat → Int32 → Option (Int32)
  | 0 => fun _ _ => none
  | n + 1 => fun c l0 => match c with | 0 => B_X9_isFlag_0 K  (L_X9_isFlag K  n) l0 | 1 => B_X9_isFlag_1 K  (L_X9_isFlag K  n) l0 | _ => none
theorem L_X9_isFlag_e0 (K : Nat)  (n : Nat) (l0 : Int32) : L_X9_isFlag K  (n + 1) 0 l0 = B_X9_isFlag_0 K  (L_X9_isFlag K  n) l0 := rfl
theorem L_X9_isFlag_e1 (K : Nat)  (n : Nat) (l0 : Int32) : L_X9_isFlag K  (n + 1) 1 l0 = B_X9_isFlag_1 K  (L_X9_isFlag K  n) l0 := rfl
def F_X9_isFlag (K : Nat) (l0 : Int32)  : Option (Int32) := L_X9_isFlag K K 0 l0
set_option maxHeartbeats 2000000 in
set_option maxRecDepth 100000 in
theorem c_X9_isFlag (l : Launch) (dC : Nat → ClassId) (dI : Nat → Nat → Nat) (cI cJ cS : ClassId) (sz K : Nat) (y1 : Int32) (r : Int32) (hF : F_X9_isFlag K y1 = some (r)) : Met l yX9_isFlag wsX9_isFlag ({ frames := 0, cells := 0, slots := 0, locals := 0 }) (va_Pc [.int y1] (PE dC dI cI cJ cS [] sz)) (va_Qi (fun (r_ : Int32) (_ : Unit) => r_ = r) (BE dC dI (va_A [] sz) (fun _ => [])) (va_A [] sz)) 0 0 (va_A [] sz) := by
  refine Met.ofW (cc := cX9_isFlag) (maxL := 1) (ret := (some .boolean)) (by decide) rfl ?_
  intro pp_ ee_ ss_ mm_ args below meth cc_ s₁ B hml hv
  obtain ⟨rfl, hsz, hP, hE, hD0⟩ := hv
  have hx := B.exec
  have hb := B.bytes
  have hr := B.returns
  have hts := atoms_spec (ws := wsX9_isFlag) B.pre
  have hown : ss_.vm.findClass RX9 = some mm_.cls := findClass_of_methodNamed B.named
  have hlocks := B.notSynchronized
  have hK := hE.1
  subst hsz
  have hD := hD0.self (sz := ss_.heap.size)
  generalize hAe : va_A [] ss_.heap.size = A at hD ⊢
  have hA : ∀ q : Nat, ss_.heap.size ≤ q → A q := fun q h => by rw [← hAe]; exact Or.inr h
  have hS : va_S A ss_.heap ss_.heap [] := va_S.rf
  have hl := lv_entry ([.int y1]) (n := 1) (Nat.le_of_ble_eq_true rfl)
  rw [lg_entry_eq]
  generalize (lg_sl ([.int y1]) ++ List.replicate (1 - (lg_sl ([.int y1])).length) Slot.unset).toArray = ls at hl ⊢
  have hl : lv_has ls 1 [(0, .int y1)] := hl
  have key : ∀ n : Nat, (∀ (l0 : Int32) (r : Int32), L_X9_isFlag K  n 0 l0 = some (r) → ∀ (H : Heap) (locs : List Loc), va_P (dC, dI) vwCl [] H → va_D A [] → va_S A ss_.heap H locs → ∀ ls : Array Slot, lv_has ls 1 [(0, .int l0)] → W pp_ l ee_ (headSpec wsX9_isFlag ({ frames := 0, cells := 0, slots := 0, locals := 0 })).room ss_ mm_ #[.int y1] below meth cc_ H locs 0 0 (MQ below (va_Qi (fun (r_ : Int32) (_ : Unit) => r_ = r) (BE dC dI A (fun _ => [])) A) #[.int y1] ss_ 0 0 A) (F0 mm_ 0 ls [])) ∧ (∀ (l0 : Int32) (r : Int32), L_X9_isFlag K  n 1 l0 = some (r) → ∀ (H : Heap) (locs : List Loc), va_P (dC, dI) vwCl [] H → va_D A [] → va_S A ss_.heap H locs → ∀ ls : Array Slot, lv_has ls 1 [(0, .int l0)] → W pp_ l ee_ (headSpec wsX9_isFlag ({ frames := 0, cells := 0, slots := 0, locals := 0 })).room ss_ mm_ #[.int y1] below meth cc_ H locs 0 0 (MQ below (va_Qi (fun (r_ : Int32) (_ : Unit) => r_ = r) (BE dC dI A (fun _ => [])) A) #[.int y1] ss_ 0 0 A) (F0 mm_ 9 ls [])) := by
    intro n
    induction n with
    | zero => exact ⟨(fun _ _ hF => absurd hF (fun e => by cases e)), (fun _ _ hF => absurd hF (fun e => by cases e))⟩
    | succ n ih =>
      obtain ⟨ih0, ih1⟩ := ih
      refine ⟨?_, ?_⟩
      · intro l0 r hB H locs hP hD hS ls hl
        replace hB := Eq.trans (L_X9_isFlag_e0 K  n l0).symm hB
        unfold B_X9_isFlag_0 at hB
        refine lv_iload_n hx hb dX9_isFlag_0 rfl (lv_at hl 0 rfl) ?_
        refine lv_if_eq (tgt := 9) hx hb dX9_isFlag_1 (by decide) (fun c_1 => ?_) (fun c_1 => ?_)
        · rw [if_pos c_1] at hB
          exact ih1 l0 _ hB _ _ (hP.sub (ws' := []) [] rfl) (hD.sub (ws' := []) [] (by decide) rfl) hS ls (lv_sub hl [0] rfl)
        · rw [if_neg c_1] at hB
          refine lv_iload_n hx hb dX9_isFlag_4 rfl (lv_at hl 0 rfl) ?_
          refine lv_iconst (v := 1) hx hb dX9_isFlag_5 (by decide) ?_
          refine lv_icmp_ne (tgt := 13) hx hb dX9_isFlag_6 (by decide) (fun c_2 => ?_) (fun c_2 => ?_)
          · rw [if_neg c_2] at hB
            refine lv_iconst (v := 0) hx hb dX9_isFlag_13 (by decide) ?_
            obtain rfl := Option.some.inj hB
            have hP9 := (hP.sub (ws' := []) [] rfl)
            have hD9 := (hD.sub (ws' := []) [] (by decide) rfl)
            exact W.zret (v := 0) hx hb hr (by decide) (fun tt_ ht hW => ⟨⟨_, (), rfl, rfl, by rw [ht]; exact hP9, hD9⟩, hS.F ht⟩) hS.2.2 dX9_isFlag_14
          · rw [if_pos c_2] at hB
            exact ih1 l0 _ hB _ _ (hP.sub (ws' := []) [] rfl) (hD.sub (ws' := []) [] (by decide) rfl) hS ls (lv_sub hl [0] rfl)
      · intro l0 r hB H locs hP hD hS ls hl
        replace hB := Eq.trans (L_X9_isFlag_e1 K  n l0).symm hB
        unfold B_X9_isFlag_1 at hB
        refine lv_iconst (v := 1) hx hb dX9_isFlag_9 (by decide) ?_
        refine lv_goto (tgt := 14) hx hb dX9_isFlag_10 (by decide) ?_
        obtain rfl := Option.some.inj hB
        have hP9 := (hP.sub (ws' := []) [] rfl)
        have hD9 := (hD.sub (ws' := []) [] (by decide) rfl)
        exact W.zret (v := 1) hx hb hr (by decide) (fun tt_ ht hW => ⟨⟨_, (), rfl, rfl, by rw [ht]; exact hP9, hD9⟩, hS.F ht⟩) hS.2.2 dX9_isFlag_14
  exact (key K).1 y1 r hF _ _ hP hD hS ls hl
def B_X9_isWatched_0 (K : Nat)  (rec : Nat → Int32 → Int32 → Int32 → Option (Int32)) (l0 : Int32) (l1 : Int32) (l2 : Int32) : Option (Int32) := (F_X9_isLevel K l0).bind (fun o_1 => if o_1 = 0 then (rec 1 l0 l1 l2) else ((F_X9_isFlag K l1).bind (fun o_7 => if o_7 = 0 then (rec 1 l0 l1 l2) else ((F_X9_isFlag K l2).bind (fun o_13 => if o_13 = 0 then (rec 1 l0 l1 l2) else (some (1)))))))
def B_X9_isWatched_1 (K : Nat)  (rec : Nat → Int32 → Int32 → Int32 → Option (Int32)) (l0 : Int32) (l1 : Int32) (l2 : Int32) : Option (Int32) := some (0)
def L_X9_isWatched (K : Nat)  : Nat → Nat → Int32 → Int32 → Int32 → Option (Int32)
  | 0 => fun _ _ _ _ => none
  | n + 1 => fun c l0 l1 l2 => match c with | 0 => B_X9_isWatched_0 K  (L_X9_isWatched K  n) l0 l1 l2 | 1 => B_X9_isWatched_1 K  (L_X9_isWatched K  n) l0 l1 l2 | _ => none
theorem L_X9_isWatched_e0 (K : Nat)  (n : Nat) (l0 : Int32) (l1 : Int32) (l2 : Int32) : L_X9_isWatched K  (n + 1) 0 l0 l1 l2 = B_X9_isWatched_0 K  (L_X9_isWatched K  n) l0 l1 l2 := rfl
theorem L_X9_isWatched_e1 (K : Nat)  (n : Nat) (l0 : Int32) (l1 : Int32) (l2 : Int32) : L_X9_isWatched K  (n + 1) 1 l0 l1 l2 = B_X9_isWatched_1 K  (L_X9_isWatched K  n) l0 l1 l2 := rfl
def F_X9_isWatched (K : Nat) (l0 : Int32) (l1 : Int32) (l2 : Int32)  : Option (Int32) := L_X9_isWatched K K 0 l0 l1 l2
set_option maxHeartbeats 2000000 in
set_option maxRecDepth 100000 in
theorem c_X9_isWatched (l : Launch) (dC : Nat → ClassId) (dI : Nat → Nat → Nat) (cI cJ cS : ClassId) (sz K : Nat) (y1 : Int32) (y2 : Int32) (y3 : Int32) (r : Int32) (hF : F_X9_isWatched K y1 y2 y3 = some (r)) : Met l yX9_isWatched wsX9_isWatched ({ frames := 1, cells := 0, slots := 0, locals := 20 }) (va_Pc [.int y1, .int y2, .int y3] (PE dC dI cI cJ cS [] sz)) (va_Qi (fun (r_ : Int32) (_ : Unit) => r_ = r) (BE dC dI (va_A [] sz) (fun _ => [])) (va_A [] sz)) 0 0 (va_A [] sz) := by
  refine Met.ofW (cc := cX9_isWatched) (maxL := 3) (ret := (some .boolean)) (by decide) rfl ?_
  intro pp_ ee_ ss_ mm_ args below meth cc_ s₁ B hml hv
  obtain ⟨rfl, hsz, hP, hE, hD0⟩ := hv
  have hx := B.exec
  have hb := B.bytes
  have hr := B.returns
  have hts := atoms_spec (ws := wsX9_isWatched) B.pre
  have hown : ss_.vm.findClass RX9 = some mm_.cls := findClass_of_methodNamed B.named
  have hlocks := B.notSynchronized
  have hK := hE.1
  subst hsz
  have hD := hD0.self (sz := ss_.heap.size)
  generalize hAe : va_A [] ss_.heap.size = A at hD ⊢
  have hA : ∀ q : Nat, ss_.heap.size ≤ q → A q := fun q h => by rw [← hAe]; exact Or.inr h
  have hS : va_S A ss_.heap ss_.heap [] := va_S.rf
  have hl := lv_entry ([.int y1, .int y2, .int y3]) (n := 3) (Nat.le_of_ble_eq_true rfl)
  rw [lg_entry_eq]
  generalize (lg_sl ([.int y1, .int y2, .int y3]) ++ List.replicate (3 - (lg_sl ([.int y1, .int y2, .int y3])).length) Slot.unset).toArray = ls at hl ⊢
  have hl : lv_has ls 3 [(0, .int y1), (1, .int y2), (2, .int y3)] := hl
  have key : ∀ n : Nat, (∀ (l0 : Int32) (l1 : Int32) (l2 : Int32) (r : Int32), L_X9_isWatched K  n 0 l0 l1 l2 = some (r) → ∀ (H : Heap) (locs : List Loc), va_P (dC, dI) vwCl [] H → va_D A [] → va_S A ss_.heap H locs → ∀ ls : Array Slot, lv_has ls 3 [(0, .int l0), (1, .int l1), (2, .int l2)] → W pp_ l ee_ (headSpec wsX9_isWatched ({ frames := 1, cells := 0, slots := 0, locals := 20 })).room ss_ mm_ #[.int y1, .int y2, .int y3] below meth cc_ H locs 0 0 (MQ below (va_Qi (fun (r_ : Int32) (_ : Unit) => r_ = r) (BE dC dI A (fun _ => [])) A) #[.int y1, .int y2, .int y3] ss_ 0 0 A) (F0 mm_ 0 ls [])) ∧ (∀ (l0 : Int32) (l1 : Int32) (l2 : Int32) (r : Int32), L_X9_isWatched K  n 1 l0 l1 l2 = some (r) → ∀ (H : Heap) (locs : List Loc), va_P (dC, dI) vwCl [] H → va_D A [] → va_S A ss_.heap H locs → ∀ ls : Array Slot, lv_has ls 3 [(0, .int l0), (1, .int l1), (2, .int l2)] → W pp_ l ee_ (headSpec wsX9_isWatched ({ frames := 1, cells := 0, slots := 0, locals := 20 })).room ss_ mm_ #[.int y1, .int y2, .int y3] below meth cc_ H locs 0 0 (MQ below (va_Qi (fun (r_ : Int32) (_ : Unit) => r_ = r) (BE dC dI A (fun _ => [])) A) #[.int y1, .int y2, .int y3] ss_ 0 0 A) (F0 mm_ 25 ls [])) := by
    intro n
    induction n with
    | zero => exact ⟨(fun _ _ _ _ hF => absurd hF (fun e => by cases e)), (fun _ _ _ _ hF => absurd hF (fun e => by cases e))⟩
    | succ n ih =>
      obtain ⟨ih0, ih1⟩ := ih
      refine ⟨?_, ?_⟩
      · intro l0 l1 l2 r hB H locs hP hD hS ls hl
        replace hB := Eq.trans (L_X9_isWatched_e0 K  n l0 l1 l2).symm hB
        unfold B_X9_isWatched_0 at hB
        refine lv_iload_n hx hb dX9_isWatched_0 rfl (lv_at hl 0 rfl) ?_
        rcases hc_2 : F_X9_isLevel K l0 with _ | r_3
        · rw [hc_2] at hB; cases hB
        rw [hc_2] at hB
        simp only [Option.bind_some] at hB
        have hFc := va_free (wc := []) hD hS hA [] rfl
        refine zCi (wr := []) hP hD hS hFc [] [] rfl rfl (by decide) (by decide) (va_runS (As := [.int l0]) (rest := []) ⟨hx, hb, hml, hown, hts⟩ (c_X9_isLevel l dC dI cI cJ cS H.size K l0 r_3 hc_2) (va_cwS 1 hts gX9_isWatched_X9_isLevel rfl rfl rfl (by decide +kernel) ⟨Nat.le_of_ble_eq_true rfl, Nat.le_of_ble_eq_true rfl⟩) (preE (hP.sub (ws' := []) [] rfl) hE (hD.sub (ws' := []) [] (by decide) rfl)) rfl rfl hl.1 rfl (lv_room (Nat.le_of_ble_eq_true rfl)) dX9_isWatched_1 ⟨Nat.le_refl _, Nat.le_refl _⟩) (fun rr_4 _ H locs hr_5 hP hD hS => ?_)
        obtain rfl := (hr_5).symm
        have hP : va_P (dC, dI) vwCl [] H := hP
        have hD : va_D A [] := hD
        refine lv_if_eq (tgt := 25) hx hb dX9_isWatched_4 (by decide) (fun c_6 => ?_) (fun c_6 => ?_)
        · rw [if_pos c_6] at hB
          exact ih1 l0 l1 l2 _ hB _ _ (hP.sub (ws' := []) [] rfl) (hD.sub (ws' := []) [] (by decide) rfl) hS ls (lv_sub hl [0, 1, 2] rfl)
        · rw [if_neg c_6] at hB
          refine lv_iload_n hx hb dX9_isWatched_7 rfl (lv_at hl 1 rfl) ?_
          rcases hc_8 : F_X9_isFlag K l1 with _ | r_9
          · rw [hc_8] at hB; cases hB
          rw [hc_8] at hB
          simp only [Option.bind_some] at hB
          have hFc := va_free (wc := []) hD hS hA [] rfl
          refine zCi (wr := []) hP hD hS hFc [] [] rfl rfl (by decide) (by decide) (va_runS (As := [.int l1]) (rest := []) ⟨hx, hb, hml, hown, hts⟩ (c_X9_isFlag l dC dI cI cJ cS H.size K l1 r_9 hc_8) (va_cwS 1 hts gX9_isWatched_X9_isFlag rfl rfl rfl (by decide +kernel) ⟨Nat.le_of_ble_eq_true rfl, Nat.le_of_ble_eq_true rfl⟩) (preE (hP.sub (ws' := []) [] rfl) hE (hD.sub (ws' := []) [] (by decide) rfl)) rfl rfl hl.1 rfl (lv_room (Nat.le_of_ble_eq_true rfl)) dX9_isWatched_8 ⟨Nat.le_refl _, Nat.le_refl _⟩) (fun rr_10 _ H locs hr_11 hP hD hS => ?_)
          obtain rfl := (hr_11).symm
          have hP : va_P (dC, dI) vwCl [] H := hP
          have hD : va_D A [] := hD
          refine lv_if_eq (tgt := 25) hx hb dX9_isWatched_11 (by decide) (fun c_12 => ?_) (fun c_12 => ?_)
          · rw [if_pos c_12] at hB
            exact ih1 l0 l1 l2 _ hB _ _ (hP.sub (ws' := []) [] rfl) (hD.sub (ws' := []) [] (by decide) rfl) hS ls (lv_sub hl [0, 1, 2] rfl)
          · rw [if_neg c_12] at hB
            refine lv_iload_n hx hb dX9_isWatched_14 rfl (lv_at hl 2 rfl) ?_
            rcases hc_14 : F_X9_isFlag K l2 with _ | r_15
            · rw [hc_14] at hB; cases hB
            rw [hc_14] at hB
            simp only [Option.bind_some] at hB
            have hFc := va_free (wc := []) hD hS hA [] rfl
            refine zCi (wr := []) hP hD hS hFc [] [] rfl rfl (by decide) (by decide) (va_runS (As := [.int l2]) (rest := []) ⟨hx, hb, hml, hown, hts⟩ (c_X9_isFlag l dC dI cI cJ cS H.size K l2 r_15 hc_14) (va_cwS 1 hts gX9_isWatched_X9_isFlag rfl rfl rfl (by decide +kernel) ⟨Nat.le_of_ble_eq_true rfl, Nat.le_of_ble_eq_true rfl⟩) (preE (hP.sub (ws' := []) [] rfl) hE (hD.sub (ws' := []) [] (by decide) rfl)) rfl rfl hl.1 rfl (lv_room (Nat.le_of_ble_eq_true rfl)) dX9_isWatched_15 ⟨Nat.le_refl _, Nat.le_refl _⟩) (fun rr_16 _ H locs hr_17 hP hD hS => ?_)
            obtain rfl := (hr_17).symm
            have hP : va_P (dC, dI) vwCl [] H := hP
            have hD : va_D A [] := hD
            refine lv_if_eq (tgt := 25) hx hb dX9_isWatched_18 (by decide) (fun c_18 => ?_) (fun c_18 => ?_)
            · rw [if_pos c_18] at hB
              exact ih1 l0 l1 l2 _ hB _ _ (hP.sub (ws' := []) [] rfl) (hD.sub (ws' := []) [] (by decide) rfl) hS ls (lv_sub hl [0, 1, 2] rfl)
            · rw [if_neg c_18] at hB
              refine lv_iconst (v := 1) hx hb dX9_isWatched_21 (by decide) ?_
              refine lv_goto (tgt := 26) hx hb dX9_isWatched_22 (by decide) ?_
              obtain rfl := Option.some.inj hB
              have hP9 := (hP.sub (ws' := []) [] rfl)
              have hD9 := (hD.sub (ws' := []) [] (by decide) rfl)
              exact W.zret (v := 1) hx hb hr (by decide) (fun tt_ ht hW => ⟨⟨_, (), rfl, rfl, by rw [ht]; exact hP9, hD9⟩, hS.F ht⟩) hS.2.2 dX9_isWatched_26
      · intro l0 l1 l2 r hB H locs hP hD hS ls hl
        replace hB := Eq.trans (L_X9_isWatched_e1 K  n l0 l1 l2).symm hB
        unfold B_X9_isWatched_1 at hB
        refine lv_iconst (v := 0) hx hb dX9_isWatched_25 (by decide) ?_
        obtain rfl := Option.some.inj hB
        have hP9 := (hP.sub (ws' := []) [] rfl)
        have hD9 := (hD.sub (ws' := []) [] (by decide) rfl)
        exact W.zret (v := 0) hx hb hr (by decide) (fun tt_ ht hW => ⟨⟨_, (), rfl, rfl, by rw [ht]; exact hP9, hD9⟩, hS.F ht⟩) hS.2.2 dX9_isWatched_26
  exact (key K).1 y1 y2 y3 r hF _ _ hP hD hS ls hl
def B_X9_isWithin_0 (K : Nat)  (rec : Nat → Int32 → Int32 → Option (Int32)) (l0 : Int32) (l1 : Int32) : Option (Int32) := if (l0 &&& (l1 ^^^ (-1))) = 0 then (some (1)) else (some (0))
def L_X9_isWithin (K : Nat)  : Nat → Nat → Int32 → Int32 → Option (Int32)
  | 0 => fun _ _ _ => none
  | n + 1 => fun c l0 l1 => match c with | 0 => B_X9_isWithin_0 K  (L_X9_isWithin K  n) l0 l1 | _ => none
theorem L_X9_isWithin_e0 (K : Nat)  (n : Nat) (l0 : Int32) (l1 : Int32) : L_X9_isWithin K  (n + 1) 0 l0 l1 = B_X9_isWithin_0 K  (L_X9_isWithin K  n) l0 l1 := rfl
def F_X9_isWithin (K : Nat) (l0 : Int32) (l1 : Int32)  : Option (Int32) := L_X9_isWithin K K 0 l0 l1
set_option maxHeartbeats 2000000 in
set_option maxRecDepth 100000 in
theorem c_X9_isWithin (l : Launch) (dC : Nat → ClassId) (dI : Nat → Nat → Nat) (cI cJ cS : ClassId) (sz K : Nat) (y1 : Int32) (y2 : Int32) (r : Int32) (hF : F_X9_isWithin K y1 y2 = some (r)) : Met l yX9_isWithin wsX9_isWithin ({ frames := 0, cells := 0, slots := 0, locals := 0 }) (va_Pc [.int y1, .int y2] (PE dC dI cI cJ cS [] sz)) (va_Qi (fun (r_ : Int32) (_ : Unit) => r_ = r) (BE dC dI (va_A [] sz) (fun _ => [])) (va_A [] sz)) 0 0 (va_A [] sz) := by
  refine Met.ofW (cc := cX9_isWithin) (maxL := 2) (ret := (some .boolean)) (by decide) rfl ?_
  intro pp_ ee_ ss_ mm_ args below meth cc_ s₁ B hml hv
  obtain ⟨rfl, hsz, hP, hE, hD0⟩ := hv
  have hx := B.exec
  have hb := B.bytes
  have hr := B.returns
  have hts := atoms_spec (ws := wsX9_isWithin) B.pre
  have hown : ss_.vm.findClass RX9 = some mm_.cls := findClass_of_methodNamed B.named
  have hlocks := B.notSynchronized
  have hK := hE.1
  subst hsz
  have hD := hD0.self (sz := ss_.heap.size)
  generalize hAe : va_A [] ss_.heap.size = A at hD ⊢
  have hA : ∀ q : Nat, ss_.heap.size ≤ q → A q := fun q h => by rw [← hAe]; exact Or.inr h
  have hS : va_S A ss_.heap ss_.heap [] := va_S.rf
  have hl := lv_entry ([.int y1, .int y2]) (n := 2) (Nat.le_of_ble_eq_true rfl)
  rw [lg_entry_eq]
  generalize (lg_sl ([.int y1, .int y2]) ++ List.replicate (2 - (lg_sl ([.int y1, .int y2])).length) Slot.unset).toArray = ls at hl ⊢
  have hl : lv_has ls 2 [(0, .int y1), (1, .int y2)] := hl
  have key : ∀ n : Nat, (∀ (l0 : Int32) (l1 : Int32) (r : Int32), L_X9_isWithin K  n 0 l0 l1 = some (r) → ∀ (H : Heap) (locs : List Loc), va_P (dC, dI) vwCl [] H → va_D A [] → va_S A ss_.heap H locs → ∀ ls : Array Slot, lv_has ls 2 [(0, .int l0), (1, .int l1)] → W pp_ l ee_ (headSpec wsX9_isWithin ({ frames := 0, cells := 0, slots := 0, locals := 0 })).room ss_ mm_ #[.int y1, .int y2] below meth cc_ H locs 0 0 (MQ below (va_Qi (fun (r_ : Int32) (_ : Unit) => r_ = r) (BE dC dI A (fun _ => [])) A) #[.int y1, .int y2] ss_ 0 0 A) (F0 mm_ 0 ls [])) := by
    intro n
    induction n with
    | zero => exact fun _ _ _ hF => absurd hF (fun e => by cases e)
    | succ n ih =>
      intro l0 l1 r hB H locs hP hD hS ls hl
      replace hB := Eq.trans (L_X9_isWithin_e0 K  n l0 l1).symm hB
      unfold B_X9_isWithin_0 at hB
      refine lv_iload_n hx hb dX9_isWithin_0 rfl (lv_at hl 0 rfl) ?_
      refine lv_iload_n hx hb dX9_isWithin_1 rfl (lv_at hl 1 rfl) ?_
      refine lv_iconst (v := (-1)) hx hb dX9_isWithin_2 (by decide) ?_
      refine lv_ixor hx hb dX9_isWithin_3 ?_
      refine lv_iand hx hb dX9_isWithin_4 ?_
      refine lv_if_ne (tgt := 12) hx hb dX9_isWithin_5 (by decide) (fun c_1 => ?_) (fun c_1 => ?_)
      · rw [if_neg c_1] at hB
        refine lv_iconst (v := 0) hx hb dX9_isWithin_12 (by decide) ?_
        obtain rfl := Option.some.inj hB
        have hP9 := (hP.sub (ws' := []) [] rfl)
        have hD9 := (hD.sub (ws' := []) [] (by decide) rfl)
        exact W.zret (v := 0) hx hb hr (by decide) (fun tt_ ht hW => ⟨⟨_, (), rfl, rfl, by rw [ht]; exact hP9, hD9⟩, hS.F ht⟩) hS.2.2 dX9_isWithin_13
      · rw [if_pos c_1] at hB
        refine lv_iconst (v := 1) hx hb dX9_isWithin_8 (by decide) ?_
        refine lv_goto (tgt := 13) hx hb dX9_isWithin_9 (by decide) ?_
        obtain rfl := Option.some.inj hB
        have hP9 := (hP.sub (ws' := []) [] rfl)
        have hD9 := (hD.sub (ws' := []) [] (by decide) rfl)
        exact W.zret (v := 1) hx hb hr (by decide) (fun tt_ ht hW => ⟨⟨_, (), rfl, rfl, by rw [ht]; exact hP9, hD9⟩, hS.F ht⟩) hS.2.2 dX9_isWithin_13
  exact (key K) y1 y2 r hF _ _ hP hD hS ls hl
def B_J6_bitCount_0f7a4_0 (K : Nat)  (rec : Nat → Int32 → Option (Int32)) (l0 : Int32) : Option (Int32) := some (((((((((l0 - (((l0).toUInt32 >>> ((1 : Int32).toUInt32 &&& Int32.toUInt32 31)).toInt32 &&& 1431655765)) &&& 858993459) + ((((l0 - (((l0).toUInt32 >>> ((1 : Int32).toUInt32 &&& Int32.toUInt32 31)).toInt32 &&& 1431655765))).toUInt32 >>> ((2 : Int32).toUInt32 &&& Int32.toUInt32 31)).toInt32 &&& 858993459)) + (((((l0 - (((l0).toUInt32 >>> ((1 : Int32).toUInt32 &&& Int32.toUInt32 31)).toInt32 &&& 1431655765)) &&& 858993459) + ((((l0 - (((l0).toUInt32 >>> ((1 : Int32).toUInt32 &&& Int32.toUInt32 31)).toInt32 &&& 1431655765))).toUInt32 >>> ((2 : Int32).toUInt32 &&& Int32.toUInt32 31)).toInt32 &&& 858993459))).toUInt32 >>> ((4 : Int32).toUInt32 &&& Int32.toUInt32 31)).toInt32) &&& 252645135) + (((((((l0 - (((l0).toUInt32 >>> ((1 : Int32).toUInt32 &&& Int32.toUInt32 31)).toInt32 &&& 1431655765)) &&& 858993459) + ((((l0 - (((l0).toUInt32 >>> ((1 : Int32).toUInt32 &&& Int32.toUInt32 31)).toInt32 &&& 1431655765))).toUInt32 >>> ((2 : Int32).toUInt32 &&& Int32.toUInt32 31)).toInt32 &&& 858993459)) + (((((l0 - (((l0).toUInt32 >>> ((1 : Int32).toUInt32 &&& Int32.toUInt32 31)).toInt32 &&& 1431655765)) &&& 858993459) + ((((l0 - (((l0).toUInt32 >>> ((1 : Int32).toUInt32 &&& Int32.toUInt32 31)).toInt32 &&& 1431655765))).toUInt32 >>> ((2 : Int32).toUInt32 &&& Int32.toUInt32 31)).toInt32 &&& 858993459))).toUInt32 >>> ((4 : Int32).toUInt32 &&& Int32.toUInt32 31)).toInt32) &&& 252645135)).toUInt32 >>> ((8 : Int32).toUInt32 &&& Int32.toUInt32 31)).toInt32) + ((((((((l0 - (((l0).toUInt32 >>> ((1 : Int32).toUInt32 &&& Int32.toUInt32 31)).toInt32 &&& 1431655765)) &&& 858993459) + ((((l0 - (((l0).toUInt32 >>> ((1 : Int32).toUInt32 &&& Int32.toUInt32 31)).toInt32 &&& 1431655765))).toUInt32 >>> ((2 : Int32).toUInt32 &&& Int32.toUInt32 31)).toInt32 &&& 858993459)) + (((((l0 - (((l0).toUInt32 >>> ((1 : Int32).toUInt32 &&& Int32.toUInt32 31)).toInt32 &&& 1431655765)) &&& 858993459) + ((((l0 - (((l0).toUInt32 >>> ((1 : Int32).toUInt32 &&& Int32.toUInt32 31)).toInt32 &&& 1431655765))).toUInt32 >>> ((2 : Int32).toUInt32 &&& Int32.toUInt32 31)).toInt32 &&& 858993459))).toUInt32 >>> ((4 : Int32).toUInt32 &&& Int32.toUInt32 31)).toInt32) &&& 252645135) + (((((((l0 - (((l0).toUInt32 >>> ((1 : Int32).toUInt32 &&& Int32.toUInt32 31)).toInt32 &&& 1431655765)) &&& 858993459) + ((((l0 - (((l0).toUInt32 >>> ((1 : Int32).toUInt32 &&& Int32.toUInt32 31)).toInt32 &&& 1431655765))).toUInt32 >>> ((2 : Int32).toUInt32 &&& Int32.toUInt32 31)).toInt32 &&& 858993459)) + (((((l0 - (((l0).toUInt32 >>> ((1 : Int32).toUInt32 &&& Int32.toUInt32 31)).toInt32 &&& 1431655765)) &&& 858993459) + ((((l0 - (((l0).toUInt32 >>> ((1 : Int32).toUInt32 &&& Int32.toUInt32 31)).toInt32 &&& 1431655765))).toUInt32 >>> ((2 : Int32).toUInt32 &&& Int32.toUInt32 31)).toInt32 &&& 858993459))).toUInt32 >>> ((4 : Int32).toUInt32 &&& Int32.toUInt32 31)).toInt32) &&& 252645135)).toUInt32 >>> ((8 : Int32).toUInt32 &&& Int32.toUInt32 31)).toInt32)).toUInt32 >>> ((16 : Int32).toUInt32 &&& Int32.toUInt32 31)).toInt32) &&& 63))
def L_J6_bitCount_0f7a4 (K : Nat)  : Nat → Nat → Int32 → Option (Int32)
  | 0 => fun _ _ => none
  | n + 1 => fun c l0 => match c with | 0 => B_J6_bitCount_0f7a4_0 K  (L_J6_bitCount_0f7a4 K  n) l0 | _ => none
theorem L_J6_bitCount_0f7a4_e0 (K : Nat)  (n : Nat) (l0 : Int32) : L_J6_bitCount_0f7a4 K  (n + 1) 0 l0 = B_J6_bitCount_0f7a4_0 K  (L_J6_bitCount_0f7a4 K  n) l0 := rfl
def F_J6_bitCount_0f7a4 (K : Nat) (l0 : Int32)  : Option (Int32) := L_J6_bitCount_0f7a4 K K 0 l0
set_option maxHeartbeats 2000000 in
set_option maxRecDepth 100000 in
theorem c_J6_bitCount_0f7a4 (l : Launch) (dC : Nat → ClassId) (dI : Nat → Nat → Nat) (cI cJ cS : ClassId) (sz K : Nat) (y1 : Int32) (r : Int32) (hF : F_J6_bitCount_0f7a4 K y1 = some (r)) : Met l yJ6_bitCount_0f7a4 wsJ6_bitCount_0f7a4 ({ frames := 0, cells := 0, slots := 0, locals := 0 }) (va_Pc [.int y1] (PE dC dI cI cJ cS [] sz)) (va_Qi (fun (r_ : Int32) (_ : Unit) => r_ = r) (BE dC dI (va_A [] sz) (fun _ => [])) (va_A [] sz)) 0 0 (va_A [] sz) := by
  refine Met.ofW (cc := cJ6_bitCount_0f7a4) (maxL := 1) (ret := (some .int)) (by decide) rfl ?_
  intro pp_ ee_ ss_ mm_ args below meth cc_ s₁ B hml hv
  obtain ⟨rfl, hsz, hP, hE, hD0⟩ := hv
  have hx := B.exec
  have hb := B.bytes
  have hr := B.returns
  have hts := atoms_spec (ws := wsJ6_bitCount_0f7a4) B.pre
  have hown : ss_.vm.findClass RJ6 = some mm_.cls := findClass_of_methodNamed B.named
  have hlocks := B.notSynchronized
  have hK := hE.1
  subst hsz
  have hD := hD0.self (sz := ss_.heap.size)
  generalize hAe : va_A [] ss_.heap.size = A at hD ⊢
  have hA : ∀ q : Nat, ss_.heap.size ≤ q → A q := fun q h => by rw [← hAe]; exact Or.inr h
  have hS : va_S A ss_.heap ss_.heap [] := va_S.rf
  have hl := lv_entry ([.int y1]) (n := 1) (Nat.le_of_ble_eq_true rfl)
  rw [lg_entry_eq]
  generalize (lg_sl ([.int y1]) ++ List.replicate (1 - (lg_sl ([.int y1])).length) Slot.unset).toArray = ls at hl ⊢
  have hl : lv_has ls 1 [(0, .int y1)] := hl
  have key : ∀ n : Nat, (∀ (l0 : Int32) (r : Int32), L_J6_bitCount_0f7a4 K  n 0 l0 = some (r) → ∀ (H : Heap) (locs : List Loc), va_P (dC, dI) vwCl [] H → va_D A [] → va_S A ss_.heap H locs → ∀ ls : Array Slot, lv_has ls 1 [(0, .int l0)] → W pp_ l ee_ (headSpec wsJ6_bitCount_0f7a4 ({ frames := 0, cells := 0, slots := 0, locals := 0 })).room ss_ mm_ #[.int y1] below meth cc_ H locs 0 0 (MQ below (va_Qi (fun (r_ : Int32) (_ : Unit) => r_ = r) (BE dC dI A (fun _ => [])) A) #[.int y1] ss_ 0 0 A) (F0 mm_ 0 ls [])) := by
    intro n
    induction n with
    | zero => exact fun _ _ hF => absurd hF (fun e => by cases e)
    | succ n ih =>
      intro l0 r hB H locs hP hD hS ls hl
      replace hB := Eq.trans (L_J6_bitCount_0f7a4_e0 K  n l0).symm hB
      unfold B_J6_bitCount_0f7a4_0 at hB
      refine lv_iload_n hx hb dJ6_bitCount_0f7a4_0 rfl (lv_at hl 0 rfl) ?_
      refine lv_iload_n hx hb dJ6_bitCount_0f7a4_1 rfl (lv_at hl 0 rfl) ?_
      refine lv_iconst (v := 1) hx hb dJ6_bitCount_0f7a4_2 (by decide) ?_
      refine lv_iushr (v := ((l0).toUInt32 >>> ((1 : Int32).toUInt32 &&& Int32.toUInt32 31)).toInt32) hx hb dJ6_bitCount_0f7a4_3 rfl ?_
      refine lv_ldcw (v := 1431655765) hx hb hown (hts (.constant RJ6 265 (1431655765)) (by decide +kernel)) dJ6_bitCount_0f7a4_4 ?_
      refine lv_iand hx hb dJ6_bitCount_0f7a4_7 ?_
      refine lv_isub hx hb dJ6_bitCount_0f7a4_8 ?_
      refine lv_istore_n (lv' := [(0, .int (l0 - (((l0).toUInt32 >>> ((1 : Int32).toUInt32 &&& Int32.toUInt32 31)).toInt32 &&& 1431655765)))]) hx hb dJ6_bitCount_0f7a4_9 rfl hl (by decide) rfl (fun ls hl => ?_)
      refine lv_iload_n hx hb dJ6_bitCount_0f7a4_10 rfl (lv_at hl 0 rfl) ?_
      refine lv_ldcw (v := 858993459) hx hb hown (hts (.constant RJ6 266 (858993459)) (by decide +kernel)) dJ6_bitCount_0f7a4_11 ?_
      refine lv_iand hx hb dJ6_bitCount_0f7a4_14 ?_
      refine lv_iload_n hx hb dJ6_bitCount_0f7a4_15 rfl (lv_at hl 0 rfl) ?_
      refine lv_iconst (v := 2) hx hb dJ6_bitCount_0f7a4_16 (by decide) ?_
      refine lv_iushr (v := (((l0 - (((l0).toUInt32 >>> ((1 : Int32).toUInt32 &&& Int32.toUInt32 31)).toInt32 &&& 1431655765))).toUInt32 >>> ((2 : Int32).toUInt32 &&& Int32.toUInt32 31)).toInt32) hx hb dJ6_bitCount_0f7a4_17 rfl ?_
      refine lv_ldcw (v := 858993459) hx hb hown (hts (.constant RJ6 266 (858993459)) (by decide +kernel)) dJ6_bitCount_0f7a4_18 ?_
      refine lv_iand hx hb dJ6_bitCount_0f7a4_21 ?_
      refine lv_iadd hx hb dJ6_bitCount_0f7a4_22 ?_
      refine lv_istore_n (lv' := [(0, .int (((l0 - (((l0).toUInt32 >>> ((1 : Int32).toUInt32 &&& Int32.toUInt32 31)).toInt32 &&& 1431655765)) &&& 858993459) + ((((l0 - (((l0).toUInt32 >>> ((1 : Int32).toUInt32 &&& Int32.toUInt32 31)).toInt32 &&& 1431655765))).toUInt32 >>> ((2 : Int32).toUInt32 &&& Int32.toUInt32 31)).toInt32 &&& 858993459)))]) hx hb dJ6_bitCount_0f7a4_23 rfl hl (by decide) rfl (fun ls hl => ?_)
      refine lv_iload_n hx hb dJ6_bitCount_0f7a4_24 rfl (lv_at hl 0 rfl) ?_
      refine lv_iload_n hx hb dJ6_bitCount_0f7a4_25 rfl (lv_at hl 0 rfl) ?_
      refine lv_iconst (v := 4) hx hb dJ6_bitCount_0f7a4_26 (by decide) ?_
      refine lv_iushr (v := (((((l0 - (((l0).toUInt32 >>> ((1 : Int32).toUInt32 &&& Int32.toUInt32 31)).toInt32 &&& 1431655765)) &&& 858993459) + ((((l0 - (((l0).toUInt32 >>> ((1 : Int32).toUInt32 &&& Int32.toUInt32 31)).toInt32 &&& 1431655765))).toUInt32 >>> ((2 : Int32).toUInt32 &&& Int32.toUInt32 31)).toInt32 &&& 858993459))).toUInt32 >>> ((4 : Int32).toUInt32 &&& Int32.toUInt32 31)).toInt32) hx hb dJ6_bitCount_0f7a4_27 rfl ?_
      refine lv_iadd hx hb dJ6_bitCount_0f7a4_28 ?_
      refine lv_ldcw (v := 252645135) hx hb hown (hts (.constant RJ6 267 (252645135)) (by decide +kernel)) dJ6_bitCount_0f7a4_29 ?_
      refine lv_iand hx hb dJ6_bitCount_0f7a4_32 ?_
      refine lv_istore_n (lv' := [(0, .int (((((l0 - (((l0).toUInt32 >>> ((1 : Int32).toUInt32 &&& Int32.toUInt32 31)).toInt32 &&& 1431655765)) &&& 858993459) + ((((l0 - (((l0).toUInt32 >>> ((1 : Int32).toUInt32 &&& Int32.toUInt32 31)).toInt32 &&& 1431655765))).toUInt32 >>> ((2 : Int32).toUInt32 &&& Int32.toUInt32 31)).toInt32 &&& 858993459)) + (((((l0 - (((l0).toUInt32 >>> ((1 : Int32).toUInt32 &&& Int32.toUInt32 31)).toInt32 &&& 1431655765)) &&& 858993459) + ((((l0 - (((l0).toUInt32 >>> ((1 : Int32).toUInt32 &&& Int32.toUInt32 31)).toInt32 &&& 1431655765))).toUInt32 >>> ((2 : Int32).toUInt32 &&& Int32.toUInt32 31)).toInt32 &&& 858993459))).toUInt32 >>> ((4 : Int32).toUInt32 &&& Int32.toUInt32 31)).toInt32) &&& 252645135))]) hx hb dJ6_bitCount_0f7a4_33 rfl hl (by decide) rfl (fun ls hl => ?_)
      refine lv_iload_n hx hb dJ6_bitCount_0f7a4_34 rfl (lv_at hl 0 rfl) ?_
      refine lv_iload_n hx hb dJ6_bitCount_0f7a4_35 rfl (lv_at hl 0 rfl) ?_
      refine lv_bipush (v := 8) hx hb dJ6_bitCount_0f7a4_36 (by decide) ?_
      refine lv_iushr (v := (((((((l0 - (((l0).toUInt32 >>> ((1 : Int32).toUInt32 &&& Int32.toUInt32 31)).toInt32 &&& 1431655765)) &&& 858993459) + ((((l0 - (((l0).toUInt32 >>> ((1 : Int32).toUInt32 &&& Int32.toUInt32 31)).toInt32 &&& 1431655765))).toUInt32 >>> ((2 : Int32).toUInt32 &&& Int32.toUInt32 31)).toInt32 &&& 858993459)) + (((((l0 - (((l0).toUInt32 >>> ((1 : Int32).toUInt32 &&& Int32.toUInt32 31)).toInt32 &&& 1431655765)) &&& 858993459) + ((((l0 - (((l0).toUInt32 >>> ((1 : Int32).toUInt32 &&& Int32.toUInt32 31)).toInt32 &&& 1431655765))).toUInt32 >>> ((2 : Int32).toUInt32 &&& Int32.toUInt32 31)).toInt32 &&& 858993459))).toUInt32 >>> ((4 : Int32).toUInt32 &&& Int32.toUInt32 31)).toInt32) &&& 252645135)).toUInt32 >>> ((8 : Int32).toUInt32 &&& Int32.toUInt32 31)).toInt32) hx hb dJ6_bitCount_0f7a4_38 rfl ?_
      refine lv_iadd hx hb dJ6_bitCount_0f7a4_39 ?_
      refine lv_istore_n (lv' := [(0, .int ((((((l0 - (((l0).toUInt32 >>> ((1 : Int32).toUInt32 &&& Int32.toUInt32 31)).toInt32 &&& 1431655765)) &&& 858993459) + ((((l0 - (((l0).toUInt32 >>> ((1 : Int32).toUInt32 &&& Int32.toUInt32 31)).toInt32 &&& 1431655765))).toUInt32 >>> ((2 : Int32).toUInt32 &&& Int32.toUInt32 31)).toInt32 &&& 858993459)) + (((((l0 - (((l0).toUInt32 >>> ((1 : Int32).toUInt32 &&& Int32.toUInt32 31)).toInt32 &&& 1431655765)) &&& 858993459) + ((((l0 - (((l0).toUInt32 >>> ((1 : Int32).toUInt32 &&& Int32.toUInt32 31)).toInt32 &&& 1431655765))).toUInt32 >>> ((2 : Int32).toUInt32 &&& Int32.toUInt32 31)).toInt32 &&& 858993459))).toUInt32 >>> ((4 : Int32).toUInt32 &&& Int32.toUInt32 31)).toInt32) &&& 252645135) + (((((((l0 - (((l0).toUInt32 >>> ((1 : Int32).toUInt32 &&& Int32.toUInt32 31)).toInt32 &&& 1431655765)) &&& 858993459) + ((((l0 - (((l0).toUInt32 >>> ((1 : Int32).toUInt32 &&& Int32.toUInt32 31)).toInt32 &&& 1431655765))).toUInt32 >>> ((2 : Int32).toUInt32 &&& Int32.toUInt32 31)).toInt32 &&& 858993459)) + (((((l0 - (((l0).toUInt32 >>> ((1 : Int32).toUInt32 &&& Int32.toUInt32 31)).toInt32 &&& 1431655765)) &&& 858993459) + ((((l0 - (((l0).toUInt32 >>> ((1 : Int32).toUInt32 &&& Int32.toUInt32 31)).toInt32 &&& 1431655765))).toUInt32 >>> ((2 : Int32).toUInt32 &&& Int32.toUInt32 31)).toInt32 &&& 858993459))).toUInt32 >>> ((4 : Int32).toUInt32 &&& Int32.toUInt32 31)).toInt32) &&& 252645135)).toUInt32 >>> ((8 : Int32).toUInt32 &&& Int32.toUInt32 31)).toInt32))]) hx hb dJ6_bitCount_0f7a4_40 rfl hl (by decide) rfl (fun ls hl => ?_)
      refine lv_iload_n hx hb dJ6_bitCount_0f7a4_41 rfl (lv_at hl 0 rfl) ?_
      refine lv_iload_n hx hb dJ6_bitCount_0f7a4_42 rfl (lv_at hl 0 rfl) ?_
      refine lv_bipush (v := 16) hx hb dJ6_bitCount_0f7a4_43 (by decide) ?_
      refine lv_iushr (v := ((((((((l0 - (((l0).toUInt32 >>> ((1 : Int32).toUInt32 &&& Int32.toUInt32 31)).toInt32 &&& 1431655765)) &&& 858993459) + ((((l0 - (((l0).toUInt32 >>> ((1 : Int32).toUInt32 &&& Int32.toUInt32 31)).toInt32 &&& 1431655765))).toUInt32 >>> ((2 : Int32).toUInt32 &&& Int32.toUInt32 31)).toInt32 &&& 858993459)) + (((((l0 - (((l0).toUInt32 >>> ((1 : Int32).toUInt32 &&& Int32.toUInt32 31)).toInt32 &&& 1431655765)) &&& 858993459) + ((((l0 - (((l0).toUInt32 >>> ((1 : Int32).toUInt32 &&& Int32.toUInt32 31)).toInt32 &&& 1431655765))).toUInt32 >>> ((2 : Int32).toUInt32 &&& Int32.toUInt32 31)).toInt32 &&& 858993459))).toUInt32 >>> ((4 : Int32).toUInt32 &&& Int32.toUInt32 31)).toInt32) &&& 252645135) + (((((((l0 - (((l0).toUInt32 >>> ((1 : Int32).toUInt32 &&& Int32.toUInt32 31)).toInt32 &&& 1431655765)) &&& 858993459) + ((((l0 - (((l0).toUInt32 >>> ((1 : Int32).toUInt32 &&& Int32.toUInt32 31)).toInt32 &&& 1431655765))).toUInt32 >>> ((2 : Int32).toUInt32 &&& Int32.toUInt32 31)).toInt32 &&& 858993459)) + (((((l0 - (((l0).toUInt32 >>> ((1 : Int32).toUInt32 &&& Int32.toUInt32 31)).toInt32 &&& 1431655765)) &&& 858993459) + ((((l0 - (((l0).toUInt32 >>> ((1 : Int32).toUInt32 &&& Int32.toUInt32 31)).toInt32 &&& 1431655765))).toUInt32 >>> ((2 : Int32).toUInt32 &&& Int32.toUInt32 31)).toInt32 &&& 858993459))).toUInt32 >>> ((4 : Int32).toUInt32 &&& Int32.toUInt32 31)).toInt32) &&& 252645135)).toUInt32 >>> ((8 : Int32).toUInt32 &&& Int32.toUInt32 31)).toInt32)).toUInt32 >>> ((16 : Int32).toUInt32 &&& Int32.toUInt32 31)).toInt32) hx hb dJ6_bitCount_0f7a4_45 rfl ?_
      refine lv_iadd hx hb dJ6_bitCount_0f7a4_46 ?_
      refine lv_istore_n (lv' := [(0, .int (((((((l0 - (((l0).toUInt32 >>> ((1 : Int32).toUInt32 &&& Int32.toUInt32 31)).toInt32 &&& 1431655765)) &&& 858993459) + ((((l0 - (((l0).toUInt32 >>> ((1 : Int32).toUInt32 &&& Int32.toUInt32 31)).toInt32 &&& 1431655765))).toUInt32 >>> ((2 : Int32).toUInt32 &&& Int32.toUInt32 31)).toInt32 &&& 858993459)) + (((((l0 - (((l0).toUInt32 >>> ((1 : Int32).toUInt32 &&& Int32.toUInt32 31)).toInt32 &&& 1431655765)) &&& 858993459) + ((((l0 - (((l0).toUInt32 >>> ((1 : Int32).toUInt32 &&& Int32.toUInt32 31)).toInt32 &&& 1431655765))).toUInt32 >>> ((2 : Int32).toUInt32 &&& Int32.toUInt32 31)).toInt32 &&& 858993459))).toUInt32 >>> ((4 : Int32).toUInt32 &&& Int32.toUInt32 31)).toInt32) &&& 252645135) + (((((((l0 - (((l0).toUInt32 >>> ((1 : Int32).toUInt32 &&& Int32.toUInt32 31)).toInt32 &&& 1431655765)) &&& 858993459) + ((((l0 - (((l0).toUInt32 >>> ((1 : Int32).toUInt32 &&& Int32.toUInt32 31)).toInt32 &&& 1431655765))).toUInt32 >>> ((2 : Int32).toUInt32 &&& Int32.toUInt32 31)).toInt32 &&& 858993459)) + (((((l0 - (((l0).toUInt32 >>> ((1 : Int32).toUInt32 &&& Int32.toUInt32 31)).toInt32 &&& 1431655765)) &&& 858993459) + ((((l0 - (((l0).toUInt32 >>> ((1 : Int32).toUInt32 &&& Int32.toUInt32 31)).toInt32 &&& 1431655765))).toUInt32 >>> ((2 : Int32).toUInt32 &&& Int32.toUInt32 31)).toInt32 &&& 858993459))).toUInt32 >>> ((4 : Int32).toUInt32 &&& Int32.toUInt32 31)).toInt32) &&& 252645135)).toUInt32 >>> ((8 : Int32).toUInt32 &&& Int32.toUInt32 31)).toInt32) + ((((((((l0 - (((l0).toUInt32 >>> ((1 : Int32).toUInt32 &&& Int32.toUInt32 31)).toInt32 &&& 1431655765)) &&& 858993459) + ((((l0 - (((l0).toUInt32 >>> ((1 : Int32).toUInt32 &&& Int32.toUInt32 31)).toInt32 &&& 1431655765))).toUInt32 >>> ((2 : Int32).toUInt32 &&& Int32.toUInt32 31)).toInt32 &&& 858993459)) + (((((l0 - (((l0).toUInt32 >>> ((1 : Int32).toUInt32 &&& Int32.toUInt32 31)).toInt32 &&& 1431655765)) &&& 858993459) + ((((l0 - (((l0).toUInt32 >>> ((1 : Int32).toUInt32 &&& Int32.toUInt32 31)).toInt32 &&& 1431655765))).toUInt32 >>> ((2 : Int32).toUInt32 &&& Int32.toUInt32 31)).toInt32 &&& 858993459))).toUInt32 >>> ((4 : Int32).toUInt32 &&& Int32.toUInt32 31)).toInt32) &&& 252645135) + (((((((l0 - (((l0).toUInt32 >>> ((1 : Int32).toUInt32 &&& Int32.toUInt32 31)).toInt32 &&& 1431655765)) &&& 858993459) + ((((l0 - (((l0).toUInt32 >>> ((1 : Int32).toUInt32 &&& Int32.toUInt32 31)).toInt32 &&& 1431655765))).toUInt32 >>> ((2 : Int32).toUInt32 &&& Int32.toUInt32 31)).toInt32 &&& 858993459)) + (((((l0 - (((l0).toUInt32 >>> ((1 : Int32).toUInt32 &&& Int32.toUInt32 31)).toInt32 &&& 1431655765)) &&& 858993459) + ((((l0 - (((l0).toUInt32 >>> ((1 : Int32).toUInt32 &&& Int32.toUInt32 31)).toInt32 &&& 1431655765))).toUInt32 >>> ((2 : Int32).toUInt32 &&& Int32.toUInt32 31)).toInt32 &&& 858993459))).toUInt32 >>> ((4 : Int32).toUInt32 &&& Int32.toUInt32 31)).toInt32) &&& 252645135)).toUInt32 >>> ((8 : Int32).toUInt32 &&& Int32.toUInt32 31)).toInt32)).toUInt32 >>> ((16 : Int32).toUInt32 &&& Int32.toUInt32 31)).toInt32))]) hx hb dJ6_bitCount_0f7a4_47 rfl hl (by decide) rfl (fun ls hl => ?_)
      refine lv_iload_n hx hb dJ6_bitCount_0f7a4_48 rfl (lv_at hl 0 rfl) ?_
      refine lv_bipush (v := 63) hx hb dJ6_bitCount_0f7a4_49 (by decide) ?_
      refine lv_iand hx hb dJ6_bitCount_0f7a4_51 ?_
      obtain rfl := Option.some.inj hB
      have hP9 := (hP.sub (ws' := []) [] rfl)
      have hD9 := (hD.sub (ws' := []) [] (by decide) rfl)
      exact W.iret (v := ((((((((l0 - (((l0).toUInt32 >>> ((1 : Int32).toUInt32 &&& Int32.toUInt32 31)).toInt32 &&& 1431655765)) &&& 858993459) + ((((l0 - (((l0).toUInt32 >>> ((1 : Int32).toUInt32 &&& Int32.toUInt32 31)).toInt32 &&& 1431655765))).toUInt32 >>> ((2 : Int32).toUInt32 &&& Int32.toUInt32 31)).toInt32 &&& 858993459)) + (((((l0 - (((l0).toUInt32 >>> ((1 : Int32).toUInt32 &&& Int32.toUInt32 31)).toInt32 &&& 1431655765)) &&& 858993459) + ((((l0 - (((l0).toUInt32 >>> ((1 : Int32).toUInt32 &&& Int32.toUInt32 31)).toInt32 &&& 1431655765))).toUInt32 >>> ((2 : Int32).toUInt32 &&& Int32.toUInt32 31)).toInt32 &&& 858993459))).toUInt32 >>> ((4 : Int32).toUInt32 &&& Int32.toUInt32 31)).toInt32) &&& 252645135) + (((((((l0 - (((l0).toUInt32 >>> ((1 : Int32).toUInt32 &&& Int32.toUInt32 31)).toInt32 &&& 1431655765)) &&& 858993459) + ((((l0 - (((l0).toUInt32 >>> ((1 : Int32).toUInt32 &&& Int32.toUInt32 31)).toInt32 &&& 1431655765))).toUInt32 >>> ((2 : Int32).toUInt32 &&& Int32.toUInt32 31)).toInt32 &&& 858993459)) + (((((l0 - (((l0).toUInt32 >>> ((1 : Int32).toUInt32 &&& Int32.toUInt32 31)).toInt32 &&& 1431655765)) &&& 858993459) + ((((l0 - (((l0).toUInt32 >>> ((1 : Int32).toUInt32 &&& Int32.toUInt32 31)).toInt32 &&& 1431655765))).toUInt32 >>> ((2 : Int32).toUInt32 &&& Int32.toUInt32 31)).toInt32 &&& 858993459))).toUInt32 >>> ((4 : Int32).toUInt32 &&& Int32.toUInt32 31)).toInt32) &&& 252645135)).toUInt32 >>> ((8 : Int32).toUInt32 &&& Int32.toUInt32 31)).toInt32) + ((((((((l0 - (((l0).toUInt32 >>> ((1 : Int32).toUInt32 &&& Int32.toUInt32 31)).toInt32 &&& 1431655765)) &&& 858993459) + ((((l0 - (((l0).toUInt32 >>> ((1 : Int32).toUInt32 &&& Int32.toUInt32 31)).toInt32 &&& 1431655765))).toUInt32 >>> ((2 : Int32).toUInt32 &&& Int32.toUInt32 31)).toInt32 &&& 858993459)) + (((((l0 - (((l0).toUInt32 >>> ((1 : Int32).toUInt32 &&& Int32.toUInt32 31)).toInt32 &&& 1431655765)) &&& 858993459) + ((((l0 - (((l0).toUInt32 >>> ((1 : Int32).toUInt32 &&& Int32.toUInt32 31)).toInt32 &&& 1431655765))).toUInt32 >>> ((2 : Int32).toUInt32 &&& Int32.toUInt32 31)).toInt32 &&& 858993459))).toUInt32 >>> ((4 : Int32).toUInt32 &&& Int32.toUInt32 31)).toInt32) &&& 252645135) + (((((((l0 - (((l0).toUInt32 >>> ((1 : Int32).toUInt32 &&& Int32.toUInt32 31)).toInt32 &&& 1431655765)) &&& 858993459) + ((((l0 - (((l0).toUInt32 >>> ((1 : Int32).toUInt32 &&& Int32.toUInt32 31)).toInt32 &&& 1431655765))).toUInt32 >>> ((2 : Int32).toUInt32 &&& Int32.toUInt32 31)).toInt32 &&& 858993459)) + (((((l0 - (((l0).toUInt32 >>> ((1 : Int32).toUInt32 &&& Int32.toUInt32 31)).toInt32 &&& 1431655765)) &&& 858993459) + ((((l0 - (((l0).toUInt32 >>> ((1 : Int32).toUInt32 &&& Int32.toUInt32 31)).toInt32 &&& 1431655765))).toUInt32 >>> ((2 : Int32).toUInt32 &&& Int32.toUInt32 31)).toInt32 &&& 858993459))).toUInt32 >>> ((4 : Int32).toUInt32 &&& Int32.toUInt32 31)).toInt32) &&& 252645135)).toUInt32 >>> ((8 : Int32).toUInt32 &&& Int32.toUInt32 31)).toInt32)).toUInt32 >>> ((16 : Int32).toUInt32 &&& Int32.toUInt32 31)).toInt32) &&& 63)) hx hb hr (fun tt_ ht hW => ⟨⟨_, (), rfl, rfl, by rw [ht]; exact hP9, hD9⟩, hS.F ht⟩) hS.2.2 dJ6_bitCount_0f7a4_52
  exact (key K) y1 r hF _ _ hP hD hS ls hl
def B_X9_numbersOf_0 (K : Nat)  (rec : Nat → Int32 → Option (Int32)) (l0 : Int32) : Option (Int32) := (F_J6_bitCount_0f7a4 K l0).bind (fun o_1 => some ((1 <<< (o_1 &&& 31))))
def L_X9_numbersOf (K : Nat)  : Nat → Nat → Int32 → Option (Int32)
  | 0 => fun _ _ => none
  | n + 1 => fun c l0 => match c with | 0 => B_X9_numbersOf_0 K  (L_X9_numbersOf K  n) l0 | _ => none
theorem L_X9_numbersOf_e0 (K : Nat)  (n : Nat) (l0 : Int32) : L_X9_numbersOf K  (n + 1) 0 l0 = B_X9_numbersOf_0 K  (L_X9_numbersOf K  n) l0 := rfl
def F_X9_numbersOf (K : Nat) (l0 : Int32)  : Option (Int32) := L_X9_numbersOf K K 0 l0
set_option maxHeartbeats 2000000 in
set_option maxRecDepth 100000 in
theorem c_X9_numbersOf (l : Launch) (dC : Nat → ClassId) (dI : Nat → Nat → Nat) (cI cJ cS : ClassId) (sz K : Nat) (y1 : Int32) (r : Int32) (hF : F_X9_numbersOf K y1 = some (r)) : Met l yX9_numbersOf wsX9_numbersOf ({ frames := 1, cells := 0, slots := 0, locals := 20 }) (va_Pc [.int y1] (PE dC dI cI cJ cS [] sz)) (va_Qi (fun (r_ : Int32) (_ : Unit) => r_ = r) (BE dC dI (va_A [] sz) (fun _ => [])) (va_A [] sz)) 0 0 (va_A [] sz) := by
  refine Met.ofW (cc := cX9_numbersOf) (maxL := 1) (ret := (some .int)) (by decide) rfl ?_
  intro pp_ ee_ ss_ mm_ args below meth cc_ s₁ B hml hv
  obtain ⟨rfl, hsz, hP, hE, hD0⟩ := hv
  have hx := B.exec
  have hb := B.bytes
  have hr := B.returns
  have hts := atoms_spec (ws := wsX9_numbersOf) B.pre
  have hown : ss_.vm.findClass RX9 = some mm_.cls := findClass_of_methodNamed B.named
  have hlocks := B.notSynchronized
  have hK := hE.1
  subst hsz
  have hD := hD0.self (sz := ss_.heap.size)
  generalize hAe : va_A [] ss_.heap.size = A at hD ⊢
  have hA : ∀ q : Nat, ss_.heap.size ≤ q → A q := fun q h => by rw [← hAe]; exact Or.inr h
  have hS : va_S A ss_.heap ss_.heap [] := va_S.rf
  have hl := lv_entry ([.int y1]) (n := 1) (Nat.le_of_ble_eq_true rfl)
  rw [lg_entry_eq]
  generalize (lg_sl ([.int y1]) ++ List.replicate (1 - (lg_sl ([.int y1])).length) Slot.unset).toArray = ls at hl ⊢
  have hl : lv_has ls 1 [(0, .int y1)] := hl
  have key : ∀ n : Nat, (∀ (l0 : Int32) (r : Int32), L_X9_numbersOf K  n 0 l0 = some (r) → ∀ (H : Heap) (locs : List Loc), va_P (dC, dI) vwCl [] H → va_D A [] → va_S A ss_.heap H locs → ∀ ls : Array Slot, lv_has ls 1 [(0, .int l0)] → W pp_ l ee_ (headSpec wsX9_numbersOf ({ frames := 1, cells := 0, slots := 0, locals := 20 })).room ss_ mm_ #[.int y1] below meth cc_ H locs 0 0 (MQ below (va_Qi (fun (r_ : Int32) (_ : Unit) => r_ = r) (BE dC dI A (fun _ => [])) A) #[.int y1] ss_ 0 0 A) (F0 mm_ 0 ls [])) := by
    intro n
    induction n with
    | zero => exact fun _ _ hF => absurd hF (fun e => by cases e)
    | succ n ih =>
      intro l0 r hB H locs hP hD hS ls hl
      replace hB := Eq.trans (L_X9_numbersOf_e0 K  n l0).symm hB
      unfold B_X9_numbersOf_0 at hB
      refine lv_iconst (v := 1) hx hb dX9_numbersOf_0 (by decide) ?_
      refine lv_iload_n hx hb dX9_numbersOf_1 rfl (lv_at hl 0 rfl) ?_
      rcases hc_2 : F_J6_bitCount_0f7a4 K l0 with _ | r_3
      · rw [hc_2] at hB; cases hB
      rw [hc_2] at hB
      simp only [Option.bind_some] at hB
      have hFc := va_free (wc := []) hD hS hA [] rfl
      refine zCi (wr := []) hP hD hS hFc [] [] rfl rfl (by decide) (by decide) (va_runS (As := [.int l0]) (rest := [.int 1]) ⟨hx, hb, hml, hown, hts⟩ (c_J6_bitCount_0f7a4 l dC dI cI cJ cS H.size K l0 r_3 hc_2) (va_cwS 1 hts gX9_numbersOf_J6_bitCount_0f7a4 rfl rfl rfl (by decide +kernel) ⟨Nat.le_of_ble_eq_true rfl, Nat.le_of_ble_eq_true rfl⟩) (preE (hP.sub (ws' := []) [] rfl) hE (hD.sub (ws' := []) [] (by decide) rfl)) rfl rfl hl.1 rfl (lv_room (Nat.le_of_ble_eq_true rfl)) dX9_numbersOf_2 ⟨Nat.le_refl _, Nat.le_refl _⟩) (fun rr_4 _ H locs hr_5 hP hD hS => ?_)
      obtain rfl := (hr_5).symm
      have hP : va_P (dC, dI) vwCl [] H := hP
      have hD : va_D A [] := hD
      refine lv_ishl hx hb dX9_numbersOf_5 ?_
      obtain rfl := Option.some.inj hB
      have hP9 := (hP.sub (ws' := []) [] rfl)
      have hD9 := (hD.sub (ws' := []) [] (by decide) rfl)
      exact W.iret (v := (1 <<< (r_3 &&& 31))) hx hb hr (fun tt_ ht hW => ⟨⟨_, (), rfl, rfl, by rw [ht]; exact hP9, hD9⟩, hS.F ht⟩) hS.2.2 dX9_numbersOf_6
  exact (key K) y1 r hF _ _ hP hD hS ls hl
def B_X9_isPacked_0 (K : Nat)  (rec : Nat → Int32 → Int32 → Option (Int32)) (l0 : Int32) (l1 : Int32) : Option (Int32) := if l0 < 0 then (rec 1 l0 l1) else ((F_X9_numbersOf K l1).bind (fun o_2 => if o_2 ≤ l0 then (rec 1 l0 l1) else (some (1))))
def B_X9_isPacked_1 (K : Nat)  (rec : Nat → Int32 → Int32 → Option (Int32)) (l0 : Int32) (l1 : Int32) : Option (Int32) := some (0)
def L_X9_isPacked (K : Nat)  : Nat → Nat → Int32 → Int32 → Option (Int32)
  | 0 => fun _ _ _ => none
  | n + 1 => fun c l0 l1 => match c with | 0 => B_X9_isPacked_0 K  (L_X9_isPacked K  n) l0 l1 | 1 => B_X9_isPacked_1 K  (L_X9_isPacked K  n) l0 l1 | _ => none
theorem L_X9_isPacked_e0 (K : Nat)  (n : Nat) (l0 : Int32) (l1 : Int32) : L_X9_isPacked K  (n + 1) 0 l0 l1 = B_X9_isPacked_0 K  (L_X9_isPacked K  n) l0 l1 := rfl
theorem L_X9_isPacked_e1 (K : Nat)  (n : Nat) (l0 : Int32) (l1 : Int32) : L_X9_isPacked K  (n + 1) 1 l0 l1 = B_X9_isPacked_1 K  (L_X9_isPacked K  n) l0 l1 := rfl
def F_X9_isPacked (K : Nat) (l0 : Int32) (l1 : Int32)  : Option (Int32) := L_X9_isPacked K K 0 l0 l1
set_option maxHeartbeats 2000000 in
set_option maxRecDepth 100000 in
theorem c_X9_isPacked (l : Launch) (dC : Nat → ClassId) (dI : Nat → Nat → Nat) (cI cJ cS : ClassId) (sz K : Nat) (y1 : Int32) (y2 : Int32) (r : Int32) (hF : F_X9_isPacked K y1 y2 = some (r)) : Met l yX9_isPacked wsX9_isPacked ({ frames := 2, cells := 0, slots := 0, locals := 40 }) (va_Pc [.int y1, .int y2] (PE dC dI cI cJ cS [] sz)) (va_Qi (fun (r_ : Int32) (_ : Unit) => r_ = r) (BE dC dI (va_A [] sz) (fun _ => [])) (va_A [] sz)) 0 0 (va_A [] sz) := by
  refine Met.ofW (cc := cX9_isPacked) (maxL := 2) (ret := (some .boolean)) (by decide) rfl ?_
  intro pp_ ee_ ss_ mm_ args below meth cc_ s₁ B hml hv
  obtain ⟨rfl, hsz, hP, hE, hD0⟩ := hv
  have hx := B.exec
  have hb := B.bytes
  have hr := B.returns
  have hts := atoms_spec (ws := wsX9_isPacked) B.pre
  have hown : ss_.vm.findClass RX9 = some mm_.cls := findClass_of_methodNamed B.named
  have hlocks := B.notSynchronized
  have hK := hE.1
  subst hsz
  have hD := hD0.self (sz := ss_.heap.size)
  generalize hAe : va_A [] ss_.heap.size = A at hD ⊢
  have hA : ∀ q : Nat, ss_.heap.size ≤ q → A q := fun q h => by rw [← hAe]; exact Or.inr h
  have hS : va_S A ss_.heap ss_.heap [] := va_S.rf
  have hl := lv_entry ([.int y1, .int y2]) (n := 2) (Nat.le_of_ble_eq_true rfl)
  rw [lg_entry_eq]
  generalize (lg_sl ([.int y1, .int y2]) ++ List.replicate (2 - (lg_sl ([.int y1, .int y2])).length) Slot.unset).toArray = ls at hl ⊢
  have hl : lv_has ls 2 [(0, .int y1), (1, .int y2)] := hl
  have key : ∀ n : Nat, (∀ (l0 : Int32) (l1 : Int32) (r : Int32), L_X9_isPacked K  n 0 l0 l1 = some (r) → ∀ (H : Heap) (locs : List Loc), va_P (dC, dI) vwCl [] H → va_D A [] → va_S A ss_.heap H locs → ∀ ls : Array Slot, lv_has ls 2 [(0, .int l0), (1, .int l1)] → W pp_ l ee_ (headSpec wsX9_isPacked ({ frames := 2, cells := 0, slots := 0, locals := 40 })).room ss_ mm_ #[.int y1, .int y2] below meth cc_ H locs 0 0 (MQ below (va_Qi (fun (r_ : Int32) (_ : Unit) => r_ = r) (BE dC dI A (fun _ => [])) A) #[.int y1, .int y2] ss_ 0 0 A) (F0 mm_ 0 ls [])) ∧ (∀ (l0 : Int32) (l1 : Int32) (r : Int32), L_X9_isPacked K  n 1 l0 l1 = some (r) → ∀ (H : Heap) (locs : List Loc), va_P (dC, dI) vwCl [] H → va_D A [] → va_S A ss_.heap H locs → ∀ ls : Array Slot, lv_has ls 2 [(0, .int l0), (1, .int l1)] → W pp_ l ee_ (headSpec wsX9_isPacked ({ frames := 2, cells := 0, slots := 0, locals := 40 })).room ss_ mm_ #[.int y1, .int y2] below meth cc_ H locs 0 0 (MQ below (va_Qi (fun (r_ : Int32) (_ : Unit) => r_ = r) (BE dC dI A (fun _ => [])) A) #[.int y1, .int y2] ss_ 0 0 A) (F0 mm_ 16 ls [])) := by
    intro n
    induction n with
    | zero => exact ⟨(fun _ _ _ hF => absurd hF (fun e => by cases e)), (fun _ _ _ hF => absurd hF (fun e => by cases e))⟩
    | succ n ih =>
      obtain ⟨ih0, ih1⟩ := ih
      refine ⟨?_, ?_⟩
      · intro l0 l1 r hB H locs hP hD hS ls hl
        replace hB := Eq.trans (L_X9_isPacked_e0 K  n l0 l1).symm hB
        unfold B_X9_isPacked_0 at hB
        refine lv_iload_n hx hb dX9_isPacked_0 rfl (lv_at hl 0 rfl) ?_
        refine lv_if_lt (tgt := 16) hx hb dX9_isPacked_1 (by decide) (fun c_1 => ?_) (fun c_1 => ?_)
        · rw [if_pos c_1] at hB
          exact ih1 l0 l1 _ hB _ _ (hP.sub (ws' := []) [] rfl) (hD.sub (ws' := []) [] (by decide) rfl) hS ls (lv_sub hl [0, 1] rfl)
        · rw [if_neg c_1] at hB
          refine lv_iload_n hx hb dX9_isPacked_4 rfl (lv_at hl 0 rfl) ?_
          refine lv_iload_n hx hb dX9_isPacked_5 rfl (lv_at hl 1 rfl) ?_
          rcases hc_3 : F_X9_numbersOf K l1 with _ | r_4
          · rw [hc_3] at hB; cases hB
          rw [hc_3] at hB
          simp only [Option.bind_some] at hB
          have hFc := va_free (wc := []) hD hS hA [] rfl
          refine zCi (wr := []) hP hD hS hFc [] [] rfl rfl (by decide) (by decide) (va_runS (As := [.int l1]) (rest := [.int l0]) ⟨hx, hb, hml, hown, hts⟩ (c_X9_numbersOf l dC dI cI cJ cS H.size K l1 r_4 hc_3) (va_cwS 1 hts gX9_isPacked_X9_numbersOf rfl rfl rfl (by decide +kernel) ⟨Nat.le_of_ble_eq_true rfl, Nat.le_of_ble_eq_true rfl⟩) (preE (hP.sub (ws' := []) [] rfl) hE (hD.sub (ws' := []) [] (by decide) rfl)) rfl rfl hl.1 rfl (lv_room (Nat.le_of_ble_eq_true rfl)) dX9_isPacked_6 ⟨Nat.le_refl _, Nat.le_refl _⟩) (fun rr_5 _ H locs hr_6 hP hD hS => ?_)
          obtain rfl := (hr_6).symm
          have hP : va_P (dC, dI) vwCl [] H := hP
          have hD : va_D A [] := hD
          refine lv_icmp_ge (tgt := 16) hx hb dX9_isPacked_9 (by decide) (fun c_7 => ?_) (fun c_7 => ?_)
          · rw [if_pos c_7] at hB
            exact ih1 l0 l1 _ hB _ _ (hP.sub (ws' := []) [] rfl) (hD.sub (ws' := []) [] (by decide) rfl) hS ls (lv_sub hl [0, 1] rfl)
          · rw [if_neg c_7] at hB
            refine lv_iconst (v := 1) hx hb dX9_isPacked_12 (by decide) ?_
            refine lv_goto (tgt := 17) hx hb dX9_isPacked_13 (by decide) ?_
            obtain rfl := Option.some.inj hB
            have hP9 := (hP.sub (ws' := []) [] rfl)
            have hD9 := (hD.sub (ws' := []) [] (by decide) rfl)
            exact W.zret (v := 1) hx hb hr (by decide) (fun tt_ ht hW => ⟨⟨_, (), rfl, rfl, by rw [ht]; exact hP9, hD9⟩, hS.F ht⟩) hS.2.2 dX9_isPacked_17
      · intro l0 l1 r hB H locs hP hD hS ls hl
        replace hB := Eq.trans (L_X9_isPacked_e1 K  n l0 l1).symm hB
        unfold B_X9_isPacked_1 at hB
        refine lv_iconst (v := 0) hx hb dX9_isPacked_16 (by decide) ?_
        obtain rfl := Option.some.inj hB
        have hP9 := (hP.sub (ws' := []) [] rfl)
        have hD9 := (hD.sub (ws' := []) [] (by decide) rfl)
        exact W.zret (v := 0) hx hb hr (by decide) (fun tt_ ht hW => ⟨⟨_, (), rfl, rfl, by rw [ht]; exact hP9, hD9⟩, hS.F ht⟩) hS.2.2 dX9_isPacked_17
  exact (key K).1 y1 y2 r hF _ _ hP hD hS ls hl
def B_X9_spread_0 (K : Nat)  (rec : Nat → Int32 → Int32 → Int32 → Int32 → Int32 → Option (Int32)) (l0 : Int32) (l1 : Int32) (l2 : Int32) (l3 : Int32) (l4 : Int32) : Option (Int32) := rec 1 l0 l1 0 l0 0
def B_X9_spread_1 (K : Nat)  (rec : Nat → Int32 → Int32 → Int32 → Int32 → Int32 → Option (Int32)) (l0 : Int32) (l1 : Int32) (l2 : Int32) (l3 : Int32) (l4 : Int32) : Option (Int32) := if (12 : Int32) ≤ l4 then (some (l2)) else (if (((l1).toUInt32 >>> ((l4).toUInt32 &&& Int32.toUInt32 31)).toInt32 &&& 1) = 0 then (rec 2 l0 l1 l2 l3 l4) else (rec 2 l0 l1 (l2 ||| ((l3 &&& 3) <<< (l4 &&& 31))) (((l3).toUInt32 >>> ((2 : Int32).toUInt32 &&& Int32.toUInt32 31)).toInt32) l4))
def B_X9_spread_2 (K : Nat)  (rec : Nat → Int32 → Int32 → Int32 → Int32 → Int32 → Option (Int32)) (l0 : Int32) (l1 : Int32) (l2 : Int32) (l3 : Int32) (l4 : Int32) : Option (Int32) := rec 1 l0 l1 l2 l3 (l4 + 2)
def L_X9_spread (K : Nat)  : Nat → Nat → Int32 → Int32 → Int32 → Int32 → Int32 → Option (Int32)
  | 0 => fun _ _ _ _ _ _ => none
  | n + 1 => fun c l0 l1 l2 l3 l4 => match c with | 0 => B_X9_spread_0 K  (L_X9_spread K  n) l0 l1 l2 l3 l4 | 1 => B_X9_spread_1 K  (L_X9_spread K  n) l0 l1 l2 l3 l4 | 2 => B_X9_spread_2 K  (L_X9_spread K  n) l0 l1 l2 l3 l4 | _ => none
theorem L_X9_spread_e0 (K : Nat)  (n : Nat) (l0 : Int32) (l1 : Int32) (l2 : Int32) (l3 : Int32) (l4 : Int32) : L_X9_spread K  (n + 1) 0 l0 l1 l2 l3 l4 = B_X9_spread_0 K  (L_X9_spread K  n) l0 l1 l2 l3 l4 := rfl
theorem L_X9_spread_e1 (K : Nat)  (n : Nat) (l0 : Int32) (l1 : Int32) (l2 : Int32) (l3 : Int32) (l4 : Int32) : L_X9_spread K  (n + 1) 1 l0 l1 l2 l3 l4 = B_X9_spread_1 K  (L_X9_spread K  n) l0 l1 l2 l3 l4 := rfl
theorem L_X9_spread_e2 (K : Nat)  (n : Nat) (l0 : Int32) (l1 : Int32) (l2 : Int32) (l3 : Int32) (l4 : Int32) : L_X9_spread K  (n + 1) 2 l0 l1 l2 l3 l4 = B_X9_spread_2 K  (L_X9_spread K  n) l0 l1 l2 l3 l4 := rfl
def F_X9_spread (K : Nat) (l0 : Int32) (l1 : Int32)  : Option (Int32) := L_X9_spread K K 0 l0 l1 0 0 0
set_option maxHeartbeats 2000000 in
set_option maxRecDepth 100000 in
theorem c_X9_spread (l : Launch) (dC : Nat → ClassId) (dI : Nat → Nat → Nat) (cI cJ cS : ClassId) (sz K : Nat) (y1 : Int32) (y2 : Int32) (r : Int32) (hF : F_X9_spread K y1 y2 = some (r)) : Met l yX9_spread wsX9_spread ({ frames := 0, cells := 0, slots := 0, locals := 0 }) (va_Pc [.int y1, .int y2] (PE dC dI cI cJ cS [] sz)) (va_Qi (fun (r_ : Int32) (_ : Unit) => r_ = r) (BE dC dI (va_A [] sz) (fun _ => [])) (va_A [] sz)) 0 0 (va_A [] sz) := by
  refine Met.ofW (cc := cX9_spread) (maxL := 5) (ret := (some .int)) (by decide) rfl ?_
  intro pp_ ee_ ss_ mm_ args below meth cc_ s₁ B hml hv
  obtain ⟨rfl, hsz, hP, hE, hD0⟩ := hv
  have hx := B.exec
  have hb := B.bytes
  have hr := B.returns
  have hts := atoms_spec (ws := wsX9_spread) B.pre
  have hown : ss_.vm.findClass RX9 = some mm_.cls := findClass_of_methodNamed B.named
  have hlocks := B.notSynchronized
  have hK := hE.1
  subst hsz
  have hD := hD0.self (sz := ss_.heap.size)
  generalize hAe : va_A [] ss_.heap.size = A at hD ⊢
  have hA : ∀ q : Nat, ss_.heap.size ≤ q → A q := fun q h => by rw [← hAe]; exact Or.inr h
  have hS : va_S A ss_.heap ss_.heap [] := va_S.rf
  have hl := lv_entry ([.int y1, .int y2]) (n := 5) (Nat.le_of_ble_eq_true rfl)
  rw [lg_entry_eq]
  generalize (lg_sl ([.int y1, .int y2]) ++ List.replicate (5 - (lg_sl ([.int y1, .int y2])).length) Slot.unset).toArray = ls at hl ⊢
  have hl : lv_has ls 5 [(0, .int y1), (1, .int y2)] := hl
  have key : ∀ n : Nat, (∀ (l0 : Int32) (l1 : Int32) (l2 : Int32) (l3 : Int32) (l4 : Int32) (r : Int32), L_X9_spread K  n 0 l0 l1 l2 l3 l4 = some (r) → ∀ (H : Heap) (locs : List Loc), va_P (dC, dI) vwCl [] H → va_D A [] → va_S A ss_.heap H locs → ∀ ls : Array Slot, lv_has ls 5 [(0, .int l0), (1, .int l1)] → W pp_ l ee_ (headSpec wsX9_spread ({ frames := 0, cells := 0, slots := 0, locals := 0 })).room ss_ mm_ #[.int y1, .int y2] below meth cc_ H locs 0 0 (MQ below (va_Qi (fun (r_ : Int32) (_ : Unit) => r_ = r) (BE dC dI A (fun _ => [])) A) #[.int y1, .int y2] ss_ 0 0 A) (F0 mm_ 0 ls [])) ∧ (∀ (l0 : Int32) (l1 : Int32) (l2 : Int32) (l3 : Int32) (l4 : Int32) (r : Int32), L_X9_spread K  n 1 l0 l1 l2 l3 l4 = some (r) → ∀ (H : Heap) (locs : List Loc), va_P (dC, dI) vwCl [] H → va_D A [] → va_S A ss_.heap H locs → ∀ ls : Array Slot, lv_has ls 5 [(0, .int l0), (1, .int l1), (2, .int l2), (3, .int l3), (4, .int l4)] → W pp_ l ee_ (headSpec wsX9_spread ({ frames := 0, cells := 0, slots := 0, locals := 0 })).room ss_ mm_ #[.int y1, .int y2] below meth cc_ H locs 0 0 (MQ below (va_Qi (fun (r_ : Int32) (_ : Unit) => r_ = r) (BE dC dI A (fun _ => [])) A) #[.int y1, .int y2] ss_ 0 0 A) (F0 mm_ 7 ls [])) ∧ (∀ (l0 : Int32) (l1 : Int32) (l2 : Int32) (l3 : Int32) (l4 : Int32) (r : Int32), L_X9_spread K  n 2 l0 l1 l2 l3 l4 = some (r) → ∀ (H : Heap) (locs : List Loc), va_P (dC, dI) vwCl [] H → va_D A [] → va_S A ss_.heap H locs → ∀ ls : Array Slot, lv_has ls 5 [(0, .int l0), (1, .int l1), (2, .int l2), (3, .int l3), (4, .int l4)] → W pp_ l ee_ (headSpec wsX9_spread ({ frames := 0, cells := 0, slots := 0, locals := 0 })).room ss_ mm_ #[.int y1, .int y2] below meth cc_ H locs 0 0 (MQ below (va_Qi (fun (r_ : Int32) (_ : Unit) => r_ = r) (BE dC dI A (fun _ => [])) A) #[.int y1, .int y2] ss_ 0 0 A) (F0 mm_ 36 ls [])) := by
    intro n
    induction n with
    | zero => exact ⟨(fun _ _ _ _ _ _ hF => absurd hF (fun e => by cases e)), (fun _ _ _ _ _ _ hF => absurd hF (fun e => by cases e)), (fun _ _ _ _ _ _ hF => absurd hF (fun e => by cases e))⟩
    | succ n ih =>
      obtain ⟨ih0, ih1, ih2⟩ := ih
      refine ⟨?_, ?_, ?_⟩
      · intro l0 l1 l2 l3 l4 r hB H locs hP hD hS ls hl
        replace hB := Eq.trans (L_X9_spread_e0 K  n l0 l1 l2 l3 l4).symm hB
        unfold B_X9_spread_0 at hB
        refine lv_iconst (v := 0) hx hb dX9_spread_0 (by decide) ?_
        refine lv_istore_n (lv' := [(2, .int 0), (0, .int l0), (1, .int l1)]) hx hb dX9_spread_1 rfl hl (by decide) rfl (fun ls hl => ?_)
        refine lv_iload_n hx hb dX9_spread_2 rfl (lv_at hl 1 rfl) ?_
        refine lv_istore_n (lv' := [(3, .int l0), (2, .int 0), (0, .int l0), (1, .int l1)]) hx hb dX9_spread_3 rfl hl (by decide) rfl (fun ls hl => ?_)
        refine lv_iconst (v := 0) hx hb dX9_spread_4 (by decide) ?_
        refine lv_istore (lv' := [(4, .int 0), (3, .int l0), (2, .int 0), (0, .int l0), (1, .int l1)]) hx hb dX9_spread_5 hl (by decide) rfl (fun ls hl => ?_)
        exact ih1 l0 l1 0 l0 0 _ hB _ _ (hP.sub (ws' := []) [] rfl) (hD.sub (ws' := []) [] (by decide) rfl) hS ls (lv_sub hl [3, 4, 2, 1, 0] rfl)
      · intro l0 l1 l2 l3 l4 r hB H locs hP hD hS ls hl
        replace hB := Eq.trans (L_X9_spread_e1 K  n l0 l1 l2 l3 l4).symm hB
        unfold B_X9_spread_1 at hB
        refine lv_iload hx hb dX9_spread_7 (lv_at hl 4 rfl) ?_
        refine lv_bipush (v := 12) hx hb dX9_spread_9 (by decide) ?_
        refine lv_icmp_ge (tgt := 42) hx hb dX9_spread_11 (by decide) (fun c_1 => ?_) (fun c_1 => ?_)
        · rw [if_pos c_1] at hB
          refine lv_iload_n hx hb dX9_spread_42 rfl (lv_at hl 2 rfl) ?_
          obtain rfl := Option.some.inj hB
          have hP9 := (hP.sub (ws' := []) [] rfl)
          have hD9 := (hD.sub (ws' := []) [] (by decide) rfl)
          exact W.iret (v := l2) hx hb hr (fun tt_ ht hW => ⟨⟨_, (), rfl, rfl, by rw [ht]; exact hP9, hD9⟩, hS.F ht⟩) hS.2.2 dX9_spread_43
        · rw [if_neg c_1] at hB
          refine lv_iload_n hx hb dX9_spread_14 rfl (lv_at hl 1 rfl) ?_
          refine lv_iload hx hb dX9_spread_15 (lv_at hl 4 rfl) ?_
          refine lv_iushr (v := ((l1).toUInt32 >>> ((l4).toUInt32 &&& Int32.toUInt32 31)).toInt32) hx hb dX9_spread_17 rfl ?_
          refine lv_iconst (v := 1) hx hb dX9_spread_18 (by decide) ?_
          refine lv_iand hx hb dX9_spread_19 ?_
          refine lv_if_eq (tgt := 36) hx hb dX9_spread_20 (by decide) (fun c_2 => ?_) (fun c_2 => ?_)
          · rw [if_pos c_2] at hB
            exact ih2 l0 l1 l2 l3 l4 _ hB _ _ (hP.sub (ws' := []) [] rfl) (hD.sub (ws' := []) [] (by decide) rfl) hS ls (lv_sub hl [0, 1, 2, 3, 4] rfl)
          · rw [if_neg c_2] at hB
            refine lv_iload_n hx hb dX9_spread_23 rfl (lv_at hl 2 rfl) ?_
            refine lv_iload_n hx hb dX9_spread_24 rfl (lv_at hl 3 rfl) ?_
            refine lv_iconst (v := 3) hx hb dX9_spread_25 (by decide) ?_
            refine lv_iand hx hb dX9_spread_26 ?_
            refine lv_iload hx hb dX9_spread_27 (lv_at hl 4 rfl) ?_
            refine lv_ishl hx hb dX9_spread_29 ?_
            refine lv_ior hx hb dX9_spread_30 ?_
            refine lv_istore_n (lv' := [(2, .int (l2 ||| ((l3 &&& 3) <<< (l4 &&& 31)))), (0, .int l0), (1, .int l1), (3, .int l3), (4, .int l4)]) hx hb dX9_spread_31 rfl hl (by decide) rfl (fun ls hl => ?_)
            refine lv_iload_n hx hb dX9_spread_32 rfl (lv_at hl 3 rfl) ?_
            refine lv_iconst (v := 2) hx hb dX9_spread_33 (by decide) ?_
            refine lv_iushr (v := ((l3).toUInt32 >>> ((2 : Int32).toUInt32 &&& Int32.toUInt32 31)).toInt32) hx hb dX9_spread_34 rfl ?_
            refine lv_istore_n (lv' := [(3, .int (((l3).toUInt32 >>> ((2 : Int32).toUInt32 &&& Int32.toUInt32 31)).toInt32)), (2, .int (l2 ||| ((l3 &&& 3) <<< (l4 &&& 31)))), (0, .int l0), (1, .int l1), (4, .int l4)]) hx hb dX9_spread_35 rfl hl (by decide) rfl (fun ls hl => ?_)
            exact ih2 l0 l1 (l2 ||| ((l3 &&& 3) <<< (l4 &&& 31))) (((l3).toUInt32 >>> ((2 : Int32).toUInt32 &&& Int32.toUInt32 31)).toInt32) l4 _ hB _ _ (hP.sub (ws' := []) [] rfl) (hD.sub (ws' := []) [] (by decide) rfl) hS ls (lv_sub hl [2, 3, 1, 0, 4] rfl)
      · intro l0 l1 l2 l3 l4 r hB H locs hP hD hS ls hl
        replace hB := Eq.trans (L_X9_spread_e2 K  n l0 l1 l2 l3 l4).symm hB
        unfold B_X9_spread_2 at hB
        refine lv_iinc (v := (l4 + 2)) (lv' := [(4, .int (l4 + 2)), (0, .int l0), (1, .int l1), (2, .int l2), (3, .int l3)]) hx hb dX9_spread_36 hl (k := 4) rfl (rfl) (by decide) rfl (fun ls hl => ?_)
        refine lv_goto (tgt := 7) hx hb dX9_spread_39 (by decide) ?_
        exact ih1 l0 l1 l2 l3 (l4 + 2) _ hB _ _ (hP.sub (ws' := []) [] rfl) (hD.sub (ws' := []) [] (by decide) rfl) hS ls (lv_sub hl [1, 2, 3, 4, 0] rfl)
  exact (key K).1 y1 y2 0 0 0 r hF _ _ hP hD hS ls hl
def B_X9_gather_0 (K : Nat)  (rec : Nat → Int32 → Int32 → Int32 → Int32 → Int32 → Option (Int32)) (l0 : Int32) (l1 : Int32) (l2 : Int32) (l3 : Int32) (l4 : Int32) : Option (Int32) := rec 1 l0 l1 0 0 0
def B_X9_gather_1 (K : Nat)  (rec : Nat → Int32 → Int32 → Int32 → Int32 → Int32 → Option (Int32)) (l0 : Int32) (l1 : Int32) (l2 : Int32) (l3 : Int32) (l4 : Int32) : Option (Int32) := if (12 : Int32) ≤ l4 then (some (l2)) else (if (((l1).toUInt32 >>> ((l4).toUInt32 &&& Int32.toUInt32 31)).toInt32 &&& 1) = 0 then (rec 2 l0 l1 l2 l3 l4) else (rec 2 l0 l1 (l2 ||| ((((l0).toUInt32 >>> ((l4).toUInt32 &&& Int32.toUInt32 31)).toInt32 &&& 3) <<< (l3 &&& 31))) (l3 + 2) l4))
def B_X9_gather_2 (K : Nat)  (rec : Nat → Int32 → Int32 → Int32 → Int32 → Int32 → Option (Int32)) (l0 : Int32) (l1 : Int32) (l2 : Int32) (l3 : Int32) (l4 : Int32) : Option (Int32) := rec 1 l0 l1 l2 l3 (l4 + 2)
def L_X9_gather (K : Nat)  : Nat → Nat → Int32 → Int32 → Int32 → Int32 → Int32 → Option (Int32)
  | 0 => fun _ _ _ _ _ _ => none
  | n + 1 => fun c l0 l1 l2 l3 l4 => match c with | 0 => B_X9_gather_0 K  (L_X9_gather K  n) l0 l1 l2 l3 l4 | 1 => B_X9_gather_1 K  (L_X9_gather K  n) l0 l1 l2 l3 l4 | 2 => B_X9_gather_2 K  (L_X9_gather K  n) l0 l1 l2 l3 l4 | _ => none
theorem L_X9_gather_e0 (K : Nat)  (n : Nat) (l0 : Int32) (l1 : Int32) (l2 : Int32) (l3 : Int32) (l4 : Int32) : L_X9_gather K  (n + 1) 0 l0 l1 l2 l3 l4 = B_X9_gather_0 K  (L_X9_gather K  n) l0 l1 l2 l3 l4 := rfl
theorem L_X9_gather_e1 (K : Nat)  (n : Nat) (l0 : Int32) (l1 : Int32) (l2 : Int32) (l3 : Int32) (l4 : Int32) : L_X9_gather K  (n + 1) 1 l0 l1 l2 l3 l4 = B_X9_gather_1 K  (L_X9_gather K  n) l0 l1 l2 l3 l4 := rfl
theorem L_X9_gather_e2 (K : Nat)  (n : Nat) (l0 : Int32) (l1 : Int32) (l2 : Int32) (l3 : Int32) (l4 : Int32) : L_X9_gather K  (n + 1) 2 l0 l1 l2 l3 l4 = B_X9_gather_2 K  (L_X9_gather K  n) l0 l1 l2 l3 l4 := rfl
def F_X9_gather (K : Nat) (l0 : Int32) (l1 : Int32)  : Option (Int32) := L_X9_gather K K 0 l0 l1 0 0 0
set_option maxHeartbeats 2000000 in
set_option maxRecDepth 100000 in
theorem c_X9_gather (l : Launch) (dC : Nat → ClassId) (dI : Nat → Nat → Nat) (cI cJ cS : ClassId) (sz K : Nat) (y1 : Int32) (y2 : Int32) (r : Int32) (hF : F_X9_gather K y1 y2 = some (r)) : Met l yX9_gather wsX9_gather ({ frames := 0, cells := 0, slots := 0, locals := 0 }) (va_Pc [.int y1, .int y2] (PE dC dI cI cJ cS [] sz)) (va_Qi (fun (r_ : Int32) (_ : Unit) => r_ = r) (BE dC dI (va_A [] sz) (fun _ => [])) (va_A [] sz)) 0 0 (va_A [] sz) := by
  refine Met.ofW (cc := cX9_gather) (maxL := 5) (ret := (some .int)) (by decide) rfl ?_
  intro pp_ ee_ ss_ mm_ args below meth cc_ s₁ B hml hv
  obtain ⟨rfl, hsz, hP, hE, hD0⟩ := hv
  have hx := B.exec
  have hb := B.bytes
  have hr := B.returns
  have hts := atoms_spec (ws := wsX9_gather) B.pre
  have hown : ss_.vm.findClass RX9 = some mm_.cls := findClass_of_methodNamed B.named
  have hlocks := B.notSynchronized
  have hK := hE.1
  subst hsz
  have hD := hD0.self (sz := ss_.heap.size)
  generalize hAe : va_A [] ss_.heap.size = A at hD ⊢
  have hA : ∀ q : Nat, ss_.heap.size ≤ q → A q := fun q h => by rw [← hAe]; exact Or.inr h
  have hS : va_S A ss_.heap ss_.heap [] := va_S.rf
  have hl := lv_entry ([.int y1, .int y2]) (n := 5) (Nat.le_of_ble_eq_true rfl)
  rw [lg_entry_eq]
  generalize (lg_sl ([.int y1, .int y2]) ++ List.replicate (5 - (lg_sl ([.int y1, .int y2])).length) Slot.unset).toArray = ls at hl ⊢
  have hl : lv_has ls 5 [(0, .int y1), (1, .int y2)] := hl
  have key : ∀ n : Nat, (∀ (l0 : Int32) (l1 : Int32) (l2 : Int32) (l3 : Int32) (l4 : Int32) (r : Int32), L_X9_gather K  n 0 l0 l1 l2 l3 l4 = some (r) → ∀ (H : Heap) (locs : List Loc), va_P (dC, dI) vwCl [] H → va_D A [] → va_S A ss_.heap H locs → ∀ ls : Array Slot, lv_has ls 5 [(0, .int l0), (1, .int l1)] → W pp_ l ee_ (headSpec wsX9_gather ({ frames := 0, cells := 0, slots := 0, locals := 0 })).room ss_ mm_ #[.int y1, .int y2] below meth cc_ H locs 0 0 (MQ below (va_Qi (fun (r_ : Int32) (_ : Unit) => r_ = r) (BE dC dI A (fun _ => [])) A) #[.int y1, .int y2] ss_ 0 0 A) (F0 mm_ 0 ls [])) ∧ (∀ (l0 : Int32) (l1 : Int32) (l2 : Int32) (l3 : Int32) (l4 : Int32) (r : Int32), L_X9_gather K  n 1 l0 l1 l2 l3 l4 = some (r) → ∀ (H : Heap) (locs : List Loc), va_P (dC, dI) vwCl [] H → va_D A [] → va_S A ss_.heap H locs → ∀ ls : Array Slot, lv_has ls 5 [(0, .int l0), (1, .int l1), (2, .int l2), (3, .int l3), (4, .int l4)] → W pp_ l ee_ (headSpec wsX9_gather ({ frames := 0, cells := 0, slots := 0, locals := 0 })).room ss_ mm_ #[.int y1, .int y2] below meth cc_ H locs 0 0 (MQ below (va_Qi (fun (r_ : Int32) (_ : Unit) => r_ = r) (BE dC dI A (fun _ => [])) A) #[.int y1, .int y2] ss_ 0 0 A) (F0 mm_ 7 ls [])) ∧ (∀ (l0 : Int32) (l1 : Int32) (l2 : Int32) (l3 : Int32) (l4 : Int32) (r : Int32), L_X9_gather K  n 2 l0 l1 l2 l3 l4 = some (r) → ∀ (H : Heap) (locs : List Loc), va_P (dC, dI) vwCl [] H → va_D A [] → va_S A ss_.heap H locs → ∀ ls : Array Slot, lv_has ls 5 [(0, .int l0), (1, .int l1), (2, .int l2), (3, .int l3), (4, .int l4)] → W pp_ l ee_ (headSpec wsX9_gather ({ frames := 0, cells := 0, slots := 0, locals := 0 })).room ss_ mm_ #[.int y1, .int y2] below meth cc_ H locs 0 0 (MQ below (va_Qi (fun (r_ : Int32) (_ : Unit) => r_ = r) (BE dC dI A (fun _ => [])) A) #[.int y1, .int y2] ss_ 0 0 A) (F0 mm_ 37 ls [])) := by
    intro n
    induction n with
    | zero => exact ⟨(fun _ _ _ _ _ _ hF => absurd hF (fun e => by cases e)), (fun _ _ _ _ _ _ hF => absurd hF (fun e => by cases e)), (fun _ _ _ _ _ _ hF => absurd hF (fun e => by cases e))⟩
    | succ n ih =>
      obtain ⟨ih0, ih1, ih2⟩ := ih
      refine ⟨?_, ?_, ?_⟩
      · intro l0 l1 l2 l3 l4 r hB H locs hP hD hS ls hl
        replace hB := Eq.trans (L_X9_gather_e0 K  n l0 l1 l2 l3 l4).symm hB
        unfold B_X9_gather_0 at hB
        refine lv_iconst (v := 0) hx hb dX9_gather_0 (by decide) ?_
        refine lv_istore_n (lv' := [(2, .int 0), (0, .int l0), (1, .int l1)]) hx hb dX9_gather_1 rfl hl (by decide) rfl (fun ls hl => ?_)
        refine lv_iconst (v := 0) hx hb dX9_gather_2 (by decide) ?_
        refine lv_istore_n (lv' := [(3, .int 0), (2, .int 0), (0, .int l0), (1, .int l1)]) hx hb dX9_gather_3 rfl hl (by decide) rfl (fun ls hl => ?_)
        refine lv_iconst (v := 0) hx hb dX9_gather_4 (by decide) ?_
        refine lv_istore (lv' := [(4, .int 0), (3, .int 0), (2, .int 0), (0, .int l0), (1, .int l1)]) hx hb dX9_gather_5 hl (by decide) rfl (fun ls hl => ?_)
        exact ih1 l0 l1 0 0 0 _ hB _ _ (hP.sub (ws' := []) [] rfl) (hD.sub (ws' := []) [] (by decide) rfl) hS ls (lv_sub hl [3, 4, 2, 1, 0] rfl)
      · intro l0 l1 l2 l3 l4 r hB H locs hP hD hS ls hl
        replace hB := Eq.trans (L_X9_gather_e1 K  n l0 l1 l2 l3 l4).symm hB
        unfold B_X9_gather_1 at hB
        refine lv_iload hx hb dX9_gather_7 (lv_at hl 4 rfl) ?_
        refine lv_bipush (v := 12) hx hb dX9_gather_9 (by decide) ?_
        refine lv_icmp_ge (tgt := 43) hx hb dX9_gather_11 (by decide) (fun c_1 => ?_) (fun c_1 => ?_)
        · rw [if_pos c_1] at hB
          refine lv_iload_n hx hb dX9_gather_43 rfl (lv_at hl 2 rfl) ?_
          obtain rfl := Option.some.inj hB
          have hP9 := (hP.sub (ws' := []) [] rfl)
          have hD9 := (hD.sub (ws' := []) [] (by decide) rfl)
          exact W.iret (v := l2) hx hb hr (fun tt_ ht hW => ⟨⟨_, (), rfl, rfl, by rw [ht]; exact hP9, hD9⟩, hS.F ht⟩) hS.2.2 dX9_gather_44
        · rw [if_neg c_1] at hB
          refine lv_iload_n hx hb dX9_gather_14 rfl (lv_at hl 1 rfl) ?_
          refine lv_iload hx hb dX9_gather_15 (lv_at hl 4 rfl) ?_
          refine lv_iushr (v := ((l1).toUInt32 >>> ((l4).toUInt32 &&& Int32.toUInt32 31)).toInt32) hx hb dX9_gather_17 rfl ?_
          refine lv_iconst (v := 1) hx hb dX9_gather_18 (by decide) ?_
          refine lv_iand hx hb dX9_gather_19 ?_
          refine lv_if_eq (tgt := 37) hx hb dX9_gather_20 (by decide) (fun c_2 => ?_) (fun c_2 => ?_)
          · rw [if_pos c_2] at hB
            exact ih2 l0 l1 l2 l3 l4 _ hB _ _ (hP.sub (ws' := []) [] rfl) (hD.sub (ws' := []) [] (by decide) rfl) hS ls (lv_sub hl [0, 1, 2, 3, 4] rfl)
          · rw [if_neg c_2] at hB
            refine lv_iload_n hx hb dX9_gather_23 rfl (lv_at hl 2 rfl) ?_
            refine lv_iload_n hx hb dX9_gather_24 rfl (lv_at hl 0 rfl) ?_
            refine lv_iload hx hb dX9_gather_25 (lv_at hl 4 rfl) ?_
            refine lv_iushr (v := ((l0).toUInt32 >>> ((l4).toUInt32 &&& Int32.toUInt32 31)).toInt32) hx hb dX9_gather_27 rfl ?_
            refine lv_iconst (v := 3) hx hb dX9_gather_28 (by decide) ?_
            refine lv_iand hx hb dX9_gather_29 ?_
            refine lv_iload_n hx hb dX9_gather_30 rfl (lv_at hl 3 rfl) ?_
            refine lv_ishl hx hb dX9_gather_31 ?_
            refine lv_ior hx hb dX9_gather_32 ?_
            refine lv_istore_n (lv' := [(2, .int (l2 ||| ((((l0).toUInt32 >>> ((l4).toUInt32 &&& Int32.toUInt32 31)).toInt32 &&& 3) <<< (l3 &&& 31)))), (0, .int l0), (1, .int l1), (3, .int l3), (4, .int l4)]) hx hb dX9_gather_33 rfl hl (by decide) rfl (fun ls hl => ?_)
            refine lv_iinc (v := (l3 + 2)) (lv' := [(3, .int (l3 + 2)), (2, .int (l2 ||| ((((l0).toUInt32 >>> ((l4).toUInt32 &&& Int32.toUInt32 31)).toInt32 &&& 3) <<< (l3 &&& 31)))), (0, .int l0), (1, .int l1), (4, .int l4)]) hx hb dX9_gather_34 hl (k := 3) rfl (rfl) (by decide) rfl (fun ls hl => ?_)
            exact ih2 l0 l1 (l2 ||| ((((l0).toUInt32 >>> ((l4).toUInt32 &&& Int32.toUInt32 31)).toInt32 &&& 3) <<< (l3 &&& 31))) (l3 + 2) l4 _ hB _ _ (hP.sub (ws' := []) [] rfl) (hD.sub (ws' := []) [] (by decide) rfl) hS ls (lv_sub hl [2, 3, 1, 0, 4] rfl)
      · intro l0 l1 l2 l3 l4 r hB H locs hP hD hS ls hl
        replace hB := Eq.trans (L_X9_gather_e2 K  n l0 l1 l2 l3 l4).symm hB
        unfold B_X9_gather_2 at hB
        refine lv_iinc (v := (l4 + 2)) (lv' := [(4, .int (l4 + 2)), (0, .int l0), (1, .int l1), (2, .int l2), (3, .int l3)]) hx hb dX9_gather_37 hl (k := 4) rfl (rfl) (by decide) rfl (fun ls hl => ?_)
        refine lv_goto (tgt := 7) hx hb dX9_gather_40 (by decide) ?_
        exact ih1 l0 l1 l2 l3 (l4 + 2) _ hB _ _ (hP.sub (ws' := []) [] rfl) (hD.sub (ws' := []) [] (by decide) rfl) hS ls (lv_sub hl [1, 2, 3, 4, 0] rfl)
  exact (key K).1 y1 y2 0 0 0 r hF _ _ hP hD hS ls hl
def B_X9_following_0 (K : Nat)  (rec : Nat → Int32 → Int32 → Option (Int32)) (l0 : Int32) (l1 : Int32) : Option (Int32) := some ((((l0 ||| (l1 ^^^ (-1))) + 1) &&& l1))
def L_X9_following (K : Nat)  : Nat → Nat → Int32 → Int32 → Option (Int32)
  | 0 => fun _ _ _ => none
  | n + 1 => fun c l0 l1 => match c with | 0 => B_X9_following_0 K  (L_X9_following K  n) l0 l1 | _ => none
theorem L_X9_following_e0 (K : Nat)  (n : Nat) (l0 : Int32) (l1 : Int32) : L_X9_following K  (n + 1) 0 l0 l1 = B_X9_following_0 K  (L_X9_following K  n) l0 l1 := rfl
def F_X9_following (K : Nat) (l0 : Int32) (l1 : Int32)  : Option (Int32) := L_X9_following K K 0 l0 l1
set_option maxHeartbeats 2000000 in
set_option maxRecDepth 100000 in
theorem c_X9_following (l : Launch) (dC : Nat → ClassId) (dI : Nat → Nat → Nat) (cI cJ cS : ClassId) (sz K : Nat) (y1 : Int32) (y2 : Int32) (r : Int32) (hF : F_X9_following K y1 y2 = some (r)) : Met l yX9_following wsX9_following ({ frames := 0, cells := 0, slots := 0, locals := 0 }) (va_Pc [.int y1, .int y2] (PE dC dI cI cJ cS [] sz)) (va_Qi (fun (r_ : Int32) (_ : Unit) => r_ = r) (BE dC dI (va_A [] sz) (fun _ => [])) (va_A [] sz)) 0 0 (va_A [] sz) := by
  refine Met.ofW (cc := cX9_following) (maxL := 2) (ret := (some .int)) (by decide) rfl ?_
  intro pp_ ee_ ss_ mm_ args below meth cc_ s₁ B hml hv
  obtain ⟨rfl, hsz, hP, hE, hD0⟩ := hv
  have hx := B.exec
  have hb := B.bytes
  have hr := B.returns
  have hts := atoms_spec (ws := wsX9_following) B.pre
  have hown : ss_.vm.findClass RX9 = some mm_.cls := findClass_of_methodNamed B.named
  have hlocks := B.notSynchronized
  have hK := hE.1
  subst hsz
  have hD := hD0.self (sz := ss_.heap.size)
  generalize hAe : va_A [] ss_.heap.size = A at hD ⊢
  have hA : ∀ q : Nat, ss_.heap.size ≤ q → A q := fun q h => by rw [← hAe]; exact Or.inr h
  have hS : va_S A ss_.heap ss_.heap [] := va_S.rf
  have hl := lv_entry ([.int y1, .int y2]) (n := 2) (Nat.le_of_ble_eq_true rfl)
  rw [lg_entry_eq]
  generalize (lg_sl ([.int y1, .int y2]) ++ List.replicate (2 - (lg_sl ([.int y1, .int y2])).length) Slot.unset).toArray = ls at hl ⊢
  have hl : lv_has ls 2 [(0, .int y1), (1, .int y2)] := hl
  have key : ∀ n : Nat, (∀ (l0 : Int32) (l1 : Int32) (r : Int32), L_X9_following K  n 0 l0 l1 = some (r) → ∀ (H : Heap) (locs : List Loc), va_P (dC, dI) vwCl [] H → va_D A [] → va_S A ss_.heap H locs → ∀ ls : Array Slot, lv_has ls 2 [(0, .int l0), (1, .int l1)] → W pp_ l ee_ (headSpec wsX9_following ({ frames := 0, cells := 0, slots := 0, locals := 0 })).room ss_ mm_ #[.int y1, .int y2] below meth cc_ H locs 0 0 (MQ below (va_Qi (fun (r_ : Int32) (_ : Unit) => r_ = r) (BE dC dI A (fun _ => [])) A) #[.int y1, .int y2] ss_ 0 0 A) (F0 mm_ 0 ls [])) := by
    intro n
    induction n with
    | zero => exact fun _ _ _ hF => absurd hF (fun e => by cases e)
    | succ n ih =>
      intro l0 l1 r hB H locs hP hD hS ls hl
      replace hB := Eq.trans (L_X9_following_e0 K  n l0 l1).symm hB
      unfold B_X9_following_0 at hB
      refine lv_iload_n hx hb dX9_following_0 rfl (lv_at hl 0 rfl) ?_
      refine lv_iload_n hx hb dX9_following_1 rfl (lv_at hl 1 rfl) ?_
      refine lv_iconst (v := (-1)) hx hb dX9_following_2 (by decide) ?_
      refine lv_ixor hx hb dX9_following_3 ?_
      refine lv_ior hx hb dX9_following_4 ?_
      refine lv_iconst (v := 1) hx hb dX9_following_5 (by decide) ?_
      refine lv_iadd hx hb dX9_following_6 ?_
      refine lv_iload_n hx hb dX9_following_7 rfl (lv_at hl 1 rfl) ?_
      refine lv_iand hx hb dX9_following_8 ?_
      obtain rfl := Option.some.inj hB
      have hP9 := (hP.sub (ws' := []) [] rfl)
      have hD9 := (hD.sub (ws' := []) [] (by decide) rfl)
      exact W.iret (v := (((l0 ||| (l1 ^^^ (-1))) + 1) &&& l1)) hx hb hr (fun tt_ ht hW => ⟨⟨_, (), rfl, rfl, by rw [ht]; exact hP9, hD9⟩, hS.F ht⟩) hS.2.2 dX9_following_9
  exact (key K) y1 y2 r hF _ _ hP hD hS ls hl
def B_X7_isLetter_0 (K : Nat)  (rec : Nat → Int32 → Option (Int32)) (l0 : Int32) : Option (Int32) := if l0 < 97 then (rec 1 l0) else (if l0 ≤ 122 then (rec 2 l0) else (rec 1 l0))
def B_X7_isLetter_1 (K : Nat)  (rec : Nat → Int32 → Option (Int32)) (l0 : Int32) : Option (Int32) := if l0 < 65 then (rec 3 l0) else (if (90 : Int32) < l0 then (rec 3 l0) else (rec 2 l0))
def B_X7_isLetter_2 (K : Nat)  (rec : Nat → Int32 → Option (Int32)) (l0 : Int32) : Option (Int32) := some (1)
def B_X7_isLetter_3 (K : Nat)  (rec : Nat → Int32 → Option (Int32)) (l0 : Int32) : Option (Int32) := some (0)
def L_X7_isLetter (K : Nat)  : Nat → Nat → Int32 → Option (Int32)
  | 0 => fun _ _ => none
  | n + 1 => fun c l0 => match c with | 0 => B_X7_isLetter_0 K  (L_X7_isLetter K  n) l0 | 1 => B_X7_isLetter_1 K  (L_X7_isLetter K  n) l0 | 2 => B_X7_isLetter_2 K  (L_X7_isLetter K  n) l0 | 3 => B_X7_isLetter_3 K  (L_X7_isLetter K  n) l0 | _ => none
theorem L_X7_isLetter_e0 (K : Nat)  (n : Nat) (l0 : Int32) : L_X7_isLetter K  (n + 1) 0 l0 = B_X7_isLetter_0 K  (L_X7_isLetter K  n) l0 := rfl
theorem L_X7_isLetter_e1 (K : Nat)  (n : Nat) (l0 : Int32) : L_X7_isLetter K  (n + 1) 1 l0 = B_X7_isLetter_1 K  (L_X7_isLetter K  n) l0 := rfl
theorem L_X7_isLetter_e2 (K : Nat)  (n : Nat) (l0 : Int32) : L_X7_isLetter K  (n + 1) 2 l0 = B_X7_isLetter_2 K  (L_X7_isLetter K  n) l0 := rfl
theorem L_X7_isLetter_e3 (K : Nat)  (n : Nat) (l0 : Int32) : L_X7_isLetter K  (n + 1) 3 l0 = B_X7_isLetter_3 K  (L_X7_isLetter K  n) l0 := rfl
def F_X7_isLetter (K : Nat) (l0 : Int32)  : Option (Int32) := L_X7_isLetter K K 0 l0
set_option maxHeartbeats 2000000 in
set_option maxRecDepth 100000 in
theorem c_X7_isLetter (l : Launch) (dC : Nat → ClassId) (dI : Nat → Nat → Nat) (cI cJ cS : ClassId) (sz K : Nat) (y1 : Int32) (r : Int32) (hF : F_X7_isLetter K y1 = some (r)) : Met l yX7_isLetter wsX7_isLetter ({ frames := 0, cells := 0, slots := 0, locals := 0 }) (va_Pc [.int y1] (PE dC dI cI cJ cS [] sz)) (va_Qi (fun (r_ : Int32) (_ : Unit) => r_ = r) (BE dC dI (va_A [] sz) (fun _ => [])) (va_A [] sz)) 0 0 (va_A [] sz) := by
  refine Met.ofW (cc := cX7_isLetter) (maxL := 1) (ret := (some .boolean)) (by decide) rfl ?_
  intro pp_ ee_ ss_ mm_ args below meth cc_ s₁ B hml hv
  obtain ⟨rfl, hsz, hP, hE, hD0⟩ := hv
  have hx := B.exec
  have hb := B.bytes
  have hr := B.returns
  have hts := atoms_spec (ws := wsX7_isLetter) B.pre
  have hown : ss_.vm.findClass RX7 = some mm_.cls := findClass_of_methodNamed B.named
  have hlocks := B.notSynchronized
  have hK := hE.1
  subst hsz
  have hD := hD0.self (sz := ss_.heap.size)
  generalize hAe : va_A [] ss_.heap.size = A at hD ⊢
  have hA : ∀ q : Nat, ss_.heap.size ≤ q → A q := fun q h => by rw [← hAe]; exact Or.inr h
  have hS : va_S A ss_.heap ss_.heap [] := va_S.rf
  have hl := lv_entry ([.int y1]) (n := 1) (Nat.le_of_ble_eq_true rfl)
  rw [lg_entry_eq]
  generalize (lg_sl ([.int y1]) ++ List.replicate (1 - (lg_sl ([.int y1])).length) Slot.unset).toArray = ls at hl ⊢
  have hl : lv_has ls 1 [(0, .int y1)] := hl
  have key : ∀ n : Nat, (∀ (l0 : Int32) (r : Int32), L_X7_isLetter K  n 0 l0 = some (r) → ∀ (H : Heap) (locs : List Loc), va_P (dC, dI) vwCl [] H → va_D A [] → va_S A ss_.heap H locs → ∀ ls : Array Slot, lv_has ls 1 [(0, .int l0)] → W pp_ l ee_ (headSpec wsX7_isLetter ({ frames := 0, cells := 0, slots := 0, locals := 0 })).room ss_ mm_ #[.int y1] below meth cc_ H locs 0 0 (MQ below (va_Qi (fun (r_ : Int32) (_ : Unit) => r_ = r) (BE dC dI A (fun _ => [])) A) #[.int y1] ss_ 0 0 A) (F0 mm_ 0 ls [])) ∧ (∀ (l0 : Int32) (r : Int32), L_X7_isLetter K  n 1 l0 = some (r) → ∀ (H : Heap) (locs : List Loc), va_P (dC, dI) vwCl [] H → va_D A [] → va_S A ss_.heap H locs → ∀ ls : Array Slot, lv_has ls 1 [(0, .int l0)] → W pp_ l ee_ (headSpec wsX7_isLetter ({ frames := 0, cells := 0, slots := 0, locals := 0 })).room ss_ mm_ #[.int y1] below meth cc_ H locs 0 0 (MQ below (va_Qi (fun (r_ : Int32) (_ : Unit) => r_ = r) (BE dC dI A (fun _ => [])) A) #[.int y1] ss_ 0 0 A) (F0 mm_ 12 ls [])) ∧ (∀ (l0 : Int32) (r : Int32), L_X7_isLetter K  n 2 l0 = some (r) → ∀ (H : Heap) (locs : List Loc), va_P (dC, dI) vwCl [] H → va_D A [] → va_S A ss_.heap H locs → ∀ ls : Array Slot, lv_has ls 1 [(0, .int l0)] → W pp_ l ee_ (headSpec wsX7_isLetter ({ frames := 0, cells := 0, slots := 0, locals := 0 })).room ss_ mm_ #[.int y1] below meth cc_ H locs 0 0 (MQ below (va_Qi (fun (r_ : Int32) (_ : Unit) => r_ = r) (BE dC dI A (fun _ => [])) A) #[.int y1] ss_ 0 0 A) (F0 mm_ 24 ls [])) ∧ (∀ (l0 : Int32) (r : Int32), L_X7_isLetter K  n 3 l0 = some (r) → ∀ (H : Heap) (locs : List Loc), va_P (dC, dI) vwCl [] H → va_D A [] → va_S A ss_.heap H locs → ∀ ls : Array Slot, lv_has ls 1 [(0, .int l0)] → W pp_ l ee_ (headSpec wsX7_isLetter ({ frames := 0, cells := 0, slots := 0, locals := 0 })).room ss_ mm_ #[.int y1] below meth cc_ H locs 0 0 (MQ below (va_Qi (fun (r_ : Int32) (_ : Unit) => r_ = r) (BE dC dI A (fun _ => [])) A) #[.int y1] ss_ 0 0 A) (F0 mm_ 28 ls [])) := by
    intro n
    induction n with
    | zero => exact ⟨(fun _ _ hF => absurd hF (fun e => by cases e)), (fun _ _ hF => absurd hF (fun e => by cases e)), (fun _ _ hF => absurd hF (fun e => by cases e)), (fun _ _ hF => absurd hF (fun e => by cases e))⟩
    | succ n ih =>
      obtain ⟨ih0, ih1, ih2, ih3⟩ := ih
      refine ⟨?_, ?_, ?_, ?_⟩
      · intro l0 r hB H locs hP hD hS ls hl
        replace hB := Eq.trans (L_X7_isLetter_e0 K  n l0).symm hB
        unfold B_X7_isLetter_0 at hB
        refine lv_iload_n hx hb dX7_isLetter_0 rfl (lv_at hl 0 rfl) ?_
        refine lv_bipush (v := 97) hx hb dX7_isLetter_1 (by decide) ?_
        refine lv_icmp_lt (tgt := 12) hx hb dX7_isLetter_3 (by decide) (fun c_1 => ?_) (fun c_1 => ?_)
        · rw [if_pos c_1] at hB
          exact ih1 l0 _ hB _ _ (hP.sub (ws' := []) [] rfl) (hD.sub (ws' := []) [] (by decide) rfl) hS ls (lv_sub hl [0] rfl)
        · rw [if_neg c_1] at hB
          refine lv_iload_n hx hb dX7_isLetter_6 rfl (lv_at hl 0 rfl) ?_
          refine lv_bipush (v := 122) hx hb dX7_isLetter_7 (by decide) ?_
          refine lv_icmp_le (tgt := 24) hx hb dX7_isLetter_9 (by decide) (fun c_2 => ?_) (fun c_2 => ?_)
          · rw [if_pos c_2] at hB
            exact ih2 l0 _ hB _ _ (hP.sub (ws' := []) [] rfl) (hD.sub (ws' := []) [] (by decide) rfl) hS ls (lv_sub hl [0] rfl)
          · rw [if_neg c_2] at hB
            exact ih1 l0 _ hB _ _ (hP.sub (ws' := []) [] rfl) (hD.sub (ws' := []) [] (by decide) rfl) hS ls (lv_sub hl [0] rfl)
      · intro l0 r hB H locs hP hD hS ls hl
        replace hB := Eq.trans (L_X7_isLetter_e1 K  n l0).symm hB
        unfold B_X7_isLetter_1 at hB
        refine lv_iload_n hx hb dX7_isLetter_12 rfl (lv_at hl 0 rfl) ?_
        refine lv_bipush (v := 65) hx hb dX7_isLetter_13 (by decide) ?_
        refine lv_icmp_lt (tgt := 28) hx hb dX7_isLetter_15 (by decide) (fun c_1 => ?_) (fun c_1 => ?_)
        · rw [if_pos c_1] at hB
          exact ih3 l0 _ hB _ _ (hP.sub (ws' := []) [] rfl) (hD.sub (ws' := []) [] (by decide) rfl) hS ls (lv_sub hl [0] rfl)
        · rw [if_neg c_1] at hB
          refine lv_iload_n hx hb dX7_isLetter_18 rfl (lv_at hl 0 rfl) ?_
          refine lv_bipush (v := 90) hx hb dX7_isLetter_19 (by decide) ?_
          refine lv_icmp_gt (tgt := 28) hx hb dX7_isLetter_21 (by decide) (fun c_2 => ?_) (fun c_2 => ?_)
          · rw [if_pos c_2] at hB
            exact ih3 l0 _ hB _ _ (hP.sub (ws' := []) [] rfl) (hD.sub (ws' := []) [] (by decide) rfl) hS ls (lv_sub hl [0] rfl)
          · rw [if_neg c_2] at hB
            exact ih2 l0 _ hB _ _ (hP.sub (ws' := []) [] rfl) (hD.sub (ws' := []) [] (by decide) rfl) hS ls (lv_sub hl [0] rfl)
      · intro l0 r hB H locs hP hD hS ls hl
        replace hB := Eq.trans (L_X7_isLetter_e2 K  n l0).symm hB
        unfold B_X7_isLetter_2 at hB
        refine lv_iconst (v := 1) hx hb dX7_isLetter_24 (by decide) ?_
        refine lv_goto (tgt := 29) hx hb dX7_isLetter_25 (by decide) ?_
        obtain rfl := Option.some.inj hB
        have hP9 := (hP.sub (ws' := []) [] rfl)
        have hD9 := (hD.sub (ws' := []) [] (by decide) rfl)
        exact W.zret (v := 1) hx hb hr (by decide) (fun tt_ ht hW => ⟨⟨_, (), rfl, rfl, by rw [ht]; exact hP9, hD9⟩, hS.F ht⟩) hS.2.2 dX7_isLetter_29
      · intro l0 r hB H locs hP hD hS ls hl
        replace hB := Eq.trans (L_X7_isLetter_e3 K  n l0).symm hB
        unfold B_X7_isLetter_3 at hB
        refine lv_iconst (v := 0) hx hb dX7_isLetter_28 (by decide) ?_
        obtain rfl := Option.some.inj hB
        have hP9 := (hP.sub (ws' := []) [] rfl)
        have hD9 := (hD.sub (ws' := []) [] (by decide) rfl)
        exact W.zret (v := 0) hx hb hr (by decide) (fun tt_ ht hW => ⟨⟨_, (), rfl, rfl, by rw [ht]; exact hP9, hD9⟩, hS.F ht⟩) hS.2.2 dX7_isLetter_29
  exact (key K).1 y1 r hF _ _ hP hD hS ls hl
def B_X7_isFigure_0 (K : Nat)  (rec : Nat → Int32 → Option (Int32)) (l0 : Int32) : Option (Int32) := if l0 < 48 then (rec 1 l0) else (if (57 : Int32) < l0 then (rec 1 l0) else (some (1)))
def B_X7_isFigure_1 (K : Nat)  (rec : Nat → Int32 → Option (Int32)) (l0 : Int32) : Option (Int32) := some (0)
def L_X7_isFigure (K : Nat)  : Nat → Nat → Int32 → Option (Int32)
  | 0 => fun _ _ => none
  | n + 1 => fun c l0 => match c with | 0 => B_X7_isFigure_0 K  (L_X7_isFigure K  n) l0 | 1 => B_X7_isFigure_1 K  (L_X7_isFigure K  n) l0 | _ => none
theorem L_X7_isFigure_e0 (K : Nat)  (n : Nat) (l0 : Int32) : L_X7_isFigure K  (n + 1) 0 l0 = B_X7_isFigure_0 K  (L_X7_isFigure K  n) l0 := rfl
theorem L_X7_isFigure_e1 (K : Nat)  (n : Nat) (l0 : Int32) : L_X7_isFigure K  (n + 1) 1 l0 = B_X7_isFigure_1 K  (L_X7_isFigure K  n) l0 := rfl
def F_X7_isFigure (K : Nat) (l0 : Int32)  : Option (Int32) := L_X7_isFigure K K 0 l0
set_option maxHeartbeats 2000000 in
set_option maxRecDepth 100000 in
theorem c_X7_isFigure (l : Launch) (dC : Nat → ClassId) (dI : Nat → Nat → Nat) (cI cJ cS : ClassId) (sz K : Nat) (y1 : Int32) (r : Int32) (hF : F_X7_isFigure K y1 = some (r)) : Met l yX7_isFigure wsX7_isFigure ({ frames := 0, cells := 0, slots := 0, locals := 0 }) (va_Pc [.int y1] (PE dC dI cI cJ cS [] sz)) (va_Qi (fun (r_ : Int32) (_ : Unit) => r_ = r) (BE dC dI (va_A [] sz) (fun _ => [])) (va_A [] sz)) 0 0 (va_A [] sz) := by
  refine Met.ofW (cc := cX7_isFigure) (maxL := 1) (ret := (some .boolean)) (by decide) rfl ?_
  intro pp_ ee_ ss_ mm_ args below meth cc_ s₁ B hml hv
  obtain ⟨rfl, hsz, hP, hE, hD0⟩ := hv
  have hx := B.exec
  have hb := B.bytes
  have hr := B.returns
  have hts := atoms_spec (ws := wsX7_isFigure) B.pre
  have hown : ss_.vm.findClass RX7 = some mm_.cls := findClass_of_methodNamed B.named
  have hlocks := B.notSynchronized
  have hK := hE.1
  subst hsz
  have hD := hD0.self (sz := ss_.heap.size)
  generalize hAe : va_A [] ss_.heap.size = A at hD ⊢
  have hA : ∀ q : Nat, ss_.heap.size ≤ q → A q := fun q h => by rw [← hAe]; exact Or.inr h
  have hS : va_S A ss_.heap ss_.heap [] := va_S.rf
  have hl := lv_entry ([.int y1]) (n := 1) (Nat.le_of_ble_eq_true rfl)
  rw [lg_entry_eq]
  generalize (lg_sl ([.int y1]) ++ List.replicate (1 - (lg_sl ([.int y1])).length) Slot.unset).toArray = ls at hl ⊢
  have hl : lv_has ls 1 [(0, .int y1)] := hl
  have key : ∀ n : Nat, (∀ (l0 : Int32) (r : Int32), L_X7_isFigure K  n 0 l0 = some (r) → ∀ (H : Heap) (locs : List Loc), va_P (dC, dI) vwCl [] H → va_D A [] → va_S A ss_.heap H locs → ∀ ls : Array Slot, lv_has ls 1 [(0, .int l0)] → W pp_ l ee_ (headSpec wsX7_isFigure ({ frames := 0, cells := 0, slots := 0, locals := 0 })).room ss_ mm_ #[.int y1] below meth cc_ H locs 0 0 (MQ below (va_Qi (fun (r_ : Int32) (_ : Unit) => r_ = r) (BE dC dI A (fun _ => [])) A) #[.int y1] ss_ 0 0 A) (F0 mm_ 0 ls [])) ∧ (∀ (l0 : Int32) (r : Int32), L_X7_isFigure K  n 1 l0 = some (r) → ∀ (H : Heap) (locs : List Loc), va_P (dC, dI) vwCl [] H → va_D A [] → va_S A ss_.heap H locs → ∀ ls : Array Slot, lv_has ls 1 [(0, .int l0)] → W pp_ l ee_ (headSpec wsX7_isFigure ({ frames := 0, cells := 0, slots := 0, locals := 0 })).room ss_ mm_ #[.int y1] below meth cc_ H locs 0 0 (MQ below (va_Qi (fun (r_ : Int32) (_ : Unit) => r_ = r) (BE dC dI A (fun _ => [])) A) #[.int y1] ss_ 0 0 A) (F0 mm_ 16 ls [])) := by
    intro n
    induction n with
    | zero => exact ⟨(fun _ _ hF => absurd hF (fun e => by cases e)), (fun _ _ hF => absurd hF (fun e => by cases e))⟩
    | succ n ih =>
      obtain ⟨ih0, ih1⟩ := ih
      refine ⟨?_, ?_⟩
      · intro l0 r hB H locs hP hD hS ls hl
        replace hB := Eq.trans (L_X7_isFigure_e0 K  n l0).symm hB
        unfold B_X7_isFigure_0 at hB
        refine lv_iload_n hx hb dX7_isFigure_0 rfl (lv_at hl 0 rfl) ?_
        refine lv_bipush (v := 48) hx hb dX7_isFigure_1 (by decide) ?_
        refine lv_icmp_lt (tgt := 16) hx hb dX7_isFigure_3 (by decide) (fun c_1 => ?_) (fun c_1 => ?_)
        · rw [if_pos c_1] at hB
          exact ih1 l0 _ hB _ _ (hP.sub (ws' := []) [] rfl) (hD.sub (ws' := []) [] (by decide) rfl) hS ls (lv_sub hl [0] rfl)
        · rw [if_neg c_1] at hB
          refine lv_iload_n hx hb dX7_isFigure_6 rfl (lv_at hl 0 rfl) ?_
          refine lv_bipush (v := 57) hx hb dX7_isFigure_7 (by decide) ?_
          refine lv_icmp_gt (tgt := 16) hx hb dX7_isFigure_9 (by decide) (fun c_2 => ?_) (fun c_2 => ?_)
          · rw [if_pos c_2] at hB
            exact ih1 l0 _ hB _ _ (hP.sub (ws' := []) [] rfl) (hD.sub (ws' := []) [] (by decide) rfl) hS ls (lv_sub hl [0] rfl)
          · rw [if_neg c_2] at hB
            refine lv_iconst (v := 1) hx hb dX7_isFigure_12 (by decide) ?_
            refine lv_goto (tgt := 17) hx hb dX7_isFigure_13 (by decide) ?_
            obtain rfl := Option.some.inj hB
            have hP9 := (hP.sub (ws' := []) [] rfl)
            have hD9 := (hD.sub (ws' := []) [] (by decide) rfl)
            exact W.zret (v := 1) hx hb hr (by decide) (fun tt_ ht hW => ⟨⟨_, (), rfl, rfl, by rw [ht]; exact hP9, hD9⟩, hS.F ht⟩) hS.2.2 dX7_isFigure_17
      · intro l0 r hB H locs hP hD hS ls hl
        replace hB := Eq.trans (L_X7_isFigure_e1 K  n l0).symm hB
        unfold B_X7_isFigure_1 at hB
        refine lv_iconst (v := 0) hx hb dX7_isFigure_16 (by decide) ?_
        obtain rfl := Option.some.inj hB
        have hP9 := (hP.sub (ws' := []) [] rfl)
        have hD9 := (hD.sub (ws' := []) [] (by decide) rfl)
        exact W.zret (v := 0) hx hb hr (by decide) (fun tt_ ht hW => ⟨⟨_, (), rfl, rfl, by rw [ht]; exact hP9, hD9⟩, hS.F ht⟩) hS.2.2 dX7_isFigure_17
  exact (key K).1 y1 r hF _ _ hP hD hS ls hl
def B_X8_lensOf_0 (K : Nat)  (rec : Nat → Int32 → Int64 → Option (Int64)) (l0 : Int32) (j1 : Int64) : Option (Int64) := some (((2199023255551 ||| ((l0).toInt64 <<< ((41 : Int32).toInt64 &&& 63))) ||| j1))
def L_X8_lensOf (K : Nat)  : Nat → Nat → Int32 → Int64 → Option (Int64)
  | 0 => fun _ _ _ => none
  | n + 1 => fun c l0 j1 => match c with | 0 => B_X8_lensOf_0 K  (L_X8_lensOf K  n) l0 j1 | _ => none
theorem L_X8_lensOf_e0 (K : Nat)  (n : Nat) (l0 : Int32) (j1 : Int64) : L_X8_lensOf K  (n + 1) 0 l0 j1 = B_X8_lensOf_0 K  (L_X8_lensOf K  n) l0 j1 := rfl
def F_X8_lensOf (K : Nat) (l0 : Int32) (j1 : Int64)  : Option (Int64) := L_X8_lensOf K K 0 l0 j1
set_option maxHeartbeats 2000000 in
set_option maxRecDepth 100000 in
theorem c_X8_lensOf (l : Launch) (dC : Nat → ClassId) (dI : Nat → Nat → Nat) (cI cJ cS : ClassId) (sz K : Nat) (y1 : Int32) (y2 : Int64) (r : Int64) (hF : F_X8_lensOf K y1 y2 = some (r)) : Met l yX8_lensOf wsX8_lensOf ({ frames := 0, cells := 0, slots := 0, locals := 0 }) (va_Pc [.int y1, .long y2] (PE dC dI cI cJ cS [] sz)) (va_Ql (fun (r_ : Int64) (_ : Unit) => r_ = r) (BE dC dI (va_A [] sz) (fun _ => [])) (va_A [] sz)) 0 0 (va_A [] sz) := by
  refine Met.ofW (cc := cX8_lensOf) (maxL := 3) (ret := (some .long)) (by decide) rfl ?_
  intro pp_ ee_ ss_ mm_ args below meth cc_ s₁ B hml hv
  obtain ⟨rfl, hsz, hP, hE, hD0⟩ := hv
  have hx := B.exec
  have hb := B.bytes
  have hr := B.returns
  have hts := atoms_spec (ws := wsX8_lensOf) B.pre
  have hown : ss_.vm.findClass RX8 = some mm_.cls := findClass_of_methodNamed B.named
  have hlocks := B.notSynchronized
  have hK := hE.1
  subst hsz
  have hD := hD0.self (sz := ss_.heap.size)
  generalize hAe : va_A [] ss_.heap.size = A at hD ⊢
  have hA : ∀ q : Nat, ss_.heap.size ≤ q → A q := fun q h => by rw [← hAe]; exact Or.inr h
  have hS : va_S A ss_.heap ss_.heap [] := va_S.rf
  have hl := lv_entry ([.int y1, .long y2]) (n := 3) (Nat.le_of_ble_eq_true rfl)
  rw [lg_entry_eq]
  generalize (lg_sl ([.int y1, .long y2]) ++ List.replicate (3 - (lg_sl ([.int y1, .long y2])).length) Slot.unset).toArray = ls at hl ⊢
  have hl : lv_has ls 3 [(0, .int y1), (1, .long y2)] := hl
  have key : ∀ n : Nat, (∀ (l0 : Int32) (j1 : Int64) (r : Int64), L_X8_lensOf K  n 0 l0 j1 = some (r) → ∀ (H : Heap) (locs : List Loc), va_P (dC, dI) vwCl [] H → va_D A [] → va_S A ss_.heap H locs → ∀ ls : Array Slot, lv_has ls 3 [(0, .int l0), (1, .long j1)] → W pp_ l ee_ (headSpec wsX8_lensOf ({ frames := 0, cells := 0, slots := 0, locals := 0 })).room ss_ mm_ #[.int y1, .long y2] below meth cc_ H locs 0 0 (MQ below (va_Ql (fun (r_ : Int64) (_ : Unit) => r_ = r) (BE dC dI A (fun _ => [])) A) #[.int y1, .long y2] ss_ 0 0 A) (F0 mm_ 0 ls [])) := by
    intro n
    induction n with
    | zero => exact fun _ _ _ hF => absurd hF (fun e => by cases e)
    | succ n ih =>
      intro l0 j1 r hB H locs hP hD hS ls hl
      replace hB := Eq.trans (L_X8_lensOf_e0 K  n l0 j1).symm hB
      unfold B_X8_lensOf_0 at hB
      refine lv_ldc2 (v := 2199023255551) hx hb hown (hts (.constantLong RX8 144 (2199023255551)) (by decide +kernel)) dX8_lensOf_0 ?_
      refine lv_iload_n hx hb dX8_lensOf_3 rfl (lv_at hl 0 rfl) ?_
      refine lv_i2l (v := (l0).toInt64) hx hb dX8_lensOf_4 rfl ?_
      refine lv_bipush (v := 41) hx hb dX8_lensOf_5 (by decide) ?_
      refine lv_lshl (v := ((l0).toInt64 <<< ((41 : Int32).toInt64 &&& 63))) hx hb dX8_lensOf_7 rfl ?_
      refine lv_lor hx hb dX8_lensOf_8 ?_
      refine lv_lload_n hx hb dX8_lensOf_9 rfl (lv_at hl 1 rfl) ?_
      refine lv_lor hx hb dX8_lensOf_10 ?_
      obtain rfl := Option.some.inj hB
      have hP9 := (hP.sub (ws' := []) [] rfl)
      have hD9 := (hD.sub (ws' := []) [] (by decide) rfl)
      exact W.lret (v := ((2199023255551 ||| ((l0).toInt64 <<< ((41 : Int32).toInt64 &&& 63))) ||| j1)) hx hb hr (fun tt_ ht hW => ⟨⟨_, (), rfl, rfl, by rw [ht]; exact hP9, hD9⟩, hS.F ht⟩) hS.2.2 dX8_lensOf_11
  exact (key K) y1 y2 r hF _ _ hP hD hS ls hl
def B_X0_levelOf_0 (K : Nat)  (rec : Nat → Int32 → Int32 → Int32 → (Nat → Int32) → Option (Int32)) (l0 : Int32) (l2 : Int32) (l3 : Int32) (lvf : Nat → Int32) : Option (Int32) := rec 1 l0 0 0 lvf
def B_X0_levelOf_1 (K : Nat)  (rec : Nat → Int32 → Int32 → Int32 → (Nat → Int32) → Option (Int32)) (l0 : Int32) (l2 : Int32) (l3 : Int32) (lvf : Nat → Int32) : Option (Int32) := if (6 : Int32) ≤ l3 then (some (l2)) else (if (((l0).toUInt32 >>> (((2 * l3)).toUInt32 &&& Int32.toUInt32 31)).toInt32 &&& 1) = 0 then (rec 2 l0 l2 l3 lvf) else (if okIx l3 6 = true then (rec 2 l0 (l2 ||| (lvf (l3).toNatClampNeg)) l3 lvf) else none))
def B_X0_levelOf_2 (K : Nat)  (rec : Nat → Int32 → Int32 → Int32 → (Nat → Int32) → Option (Int32)) (l0 : Int32) (l2 : Int32) (l3 : Int32) (lvf : Nat → Int32) : Option (Int32) := rec 1 l0 l2 (l3 + 1) lvf
def L_X0_levelOf (K : Nat)  : Nat → Nat → Int32 → Int32 → Int32 → (Nat → Int32) → Option (Int32)
  | 0 => fun _ _ _ _ _ => none
  | n + 1 => fun c l0 l2 l3 lvf => match c with | 0 => B_X0_levelOf_0 K  (L_X0_levelOf K  n) l0 l2 l3 lvf | 1 => B_X0_levelOf_1 K  (L_X0_levelOf K  n) l0 l2 l3 lvf | 2 => B_X0_levelOf_2 K  (L_X0_levelOf K  n) l0 l2 l3 lvf | _ => none
theorem L_X0_levelOf_e0 (K : Nat)  (n : Nat) (l0 : Int32) (l2 : Int32) (l3 : Int32) (lvf : Nat → Int32) : L_X0_levelOf K  (n + 1) 0 l0 l2 l3 lvf = B_X0_levelOf_0 K  (L_X0_levelOf K  n) l0 l2 l3 lvf := rfl
theorem L_X0_levelOf_e1 (K : Nat)  (n : Nat) (l0 : Int32) (l2 : Int32) (l3 : Int32) (lvf : Nat → Int32) : L_X0_levelOf K  (n + 1) 1 l0 l2 l3 lvf = B_X0_levelOf_1 K  (L_X0_levelOf K  n) l0 l2 l3 lvf := rfl
theorem L_X0_levelOf_e2 (K : Nat)  (n : Nat) (l0 : Int32) (l2 : Int32) (l3 : Int32) (lvf : Nat → Int32) : L_X0_levelOf K  (n + 1) 2 l0 l2 l3 lvf = B_X0_levelOf_2 K  (L_X0_levelOf K  n) l0 l2 l3 lvf := rfl
def F_X0_levelOf (K : Nat) (l0 : Int32) (lvf : Nat → Int32) : Option (Int32) := L_X0_levelOf K K 0 l0 0 0 lvf
set_option maxHeartbeats 2000000 in
set_option maxRecDepth 100000 in
theorem c_X0_levelOf (l : Launch) (dC : Nat → ClassId) (dI : Nat → Nat → Nat) (cI cJ cS : ClassId) (sz K : Nat) (y1 : Int32) (lv : Nat) (lvf : Nat → Int32) (r : Int32) (hF : F_X0_levelOf K y1 lvf = some (r)) : Met l yX0_levelOf wsX0_levelOf ({ frames := 0, cells := 0, slots := 0, locals := 0 }) (va_Pc [.int y1, .ref lv] (PE dC dI cI cJ cS [(lv, aI cI 6 lvf)] sz)) (va_Qi (fun (r_ : Int32) (_ : Unit) => r_ = r) (BE dC dI (va_A [(lv, aI cI 6 lvf)] sz) (fun _ => [(lv, aI cI 6 lvf)])) (va_A [(lv, aI cI 6 lvf)] sz)) 0 0 (va_A [(lv, aI cI 6 lvf)] sz) := by
  refine Met.ofW (cc := cX0_levelOf) (maxL := 4) (ret := (some .int)) (by decide) rfl ?_
  intro pp_ ee_ ss_ mm_ args below meth cc_ s₁ B hml hv
  obtain ⟨rfl, hsz, hP, hE, hD0⟩ := hv
  have hx := B.exec
  have hb := B.bytes
  have hr := B.returns
  have hts := atoms_spec (ws := wsX0_levelOf) B.pre
  have hown : ss_.vm.findClass RX0 = some mm_.cls := findClass_of_methodNamed B.named
  have hlocks := B.notSynchronized
  have hK := hE.1
  subst hsz
  have hD := hD0.self (sz := ss_.heap.size)
  generalize hAe : va_A [(lv, aI cI 6 lvf)] ss_.heap.size = A at hD ⊢
  have hA : ∀ q : Nat, ss_.heap.size ≤ q → A q := fun q h => by rw [← hAe]; exact Or.inr h
  have hS : va_S A ss_.heap ss_.heap [] := va_S.rf
  have hl := lv_entry ([.int y1, .ref lv]) (n := 4) (Nat.le_of_ble_eq_true rfl)
  rw [lg_entry_eq]
  generalize (lg_sl ([.int y1, .ref lv]) ++ List.replicate (4 - (lg_sl ([.int y1, .ref lv])).length) Slot.unset).toArray = ls at hl ⊢
  have hl : lv_has ls 4 [(0, .int y1), (1, .ref lv)] := hl
  have key : ∀ n : Nat, (∀ (l0 : Int32) (l2 : Int32) (l3 : Int32) (lvf : Nat → Int32) (r : Int32), L_X0_levelOf K  n 0 l0 l2 l3 lvf = some (r) → ∀ (H : Heap) (locs : List Loc), va_P (dC, dI) vwCl [(lv, aI cI 6 lvf)] H → va_D A [(lv, aI cI 6 lvf)] → va_S A ss_.heap H locs → ∀ ls : Array Slot, lv_has ls 4 [(0, .int l0), (1, .ref lv)] → W pp_ l ee_ (headSpec wsX0_levelOf ({ frames := 0, cells := 0, slots := 0, locals := 0 })).room ss_ mm_ #[.int y1, .ref lv] below meth cc_ H locs 0 0 (MQ below (va_Qi (fun (r_ : Int32) (_ : Unit) => r_ = r) (BE dC dI A (fun _ => [(lv, aI cI 6 lvf)])) A) #[.int y1, .ref lv] ss_ 0 0 A) (F0 mm_ 0 ls [])) ∧ (∀ (l0 : Int32) (l2 : Int32) (l3 : Int32) (lvf : Nat → Int32) (r : Int32), L_X0_levelOf K  n 1 l0 l2 l3 lvf = some (r) → ∀ (H : Heap) (locs : List Loc), va_P (dC, dI) vwCl [(lv, aI cI 6 lvf)] H → va_D A [(lv, aI cI 6 lvf)] → va_S A ss_.heap H locs → ∀ ls : Array Slot, lv_has ls 4 [(0, .int l0), (1, .ref lv), (2, .int l2), (3, .int l3)] → W pp_ l ee_ (headSpec wsX0_levelOf ({ frames := 0, cells := 0, slots := 0, locals := 0 })).room ss_ mm_ #[.int y1, .ref lv] below meth cc_ H locs 0 0 (MQ below (va_Qi (fun (r_ : Int32) (_ : Unit) => r_ = r) (BE dC dI A (fun _ => [(lv, aI cI 6 lvf)])) A) #[.int y1, .ref lv] ss_ 0 0 A) (F0 mm_ 4 ls [])) ∧ (∀ (l0 : Int32) (l2 : Int32) (l3 : Int32) (lvf : Nat → Int32) (r : Int32), L_X0_levelOf K  n 2 l0 l2 l3 lvf = some (r) → ∀ (H : Heap) (locs : List Loc), va_P (dC, dI) vwCl [(lv, aI cI 6 lvf)] H → va_D A [(lv, aI cI 6 lvf)] → va_S A ss_.heap H locs → ∀ ls : Array Slot, lv_has ls 4 [(0, .int l0), (1, .ref lv), (2, .int l2), (3, .int l3)] → W pp_ l ee_ (headSpec wsX0_levelOf ({ frames := 0, cells := 0, slots := 0, locals := 0 })).room ss_ mm_ #[.int y1, .ref lv] below meth cc_ H locs 0 0 (MQ below (va_Qi (fun (r_ : Int32) (_ : Unit) => r_ = r) (BE dC dI A (fun _ => [(lv, aI cI 6 lvf)])) A) #[.int y1, .ref lv] ss_ 0 0 A) (F0 mm_ 26 ls [])) := by
    intro n
    induction n with
    | zero => exact ⟨(fun _ _ _ _ _ hF => absurd hF (fun e => by cases e)), (fun _ _ _ _ _ hF => absurd hF (fun e => by cases e)), (fun _ _ _ _ _ hF => absurd hF (fun e => by cases e))⟩
    | succ n ih =>
      obtain ⟨ih0, ih1, ih2⟩ := ih
      refine ⟨?_, ?_, ?_⟩
      · intro l0 l2 l3 lvf r hB H locs hP hD hS ls hl
        replace hB := Eq.trans (L_X0_levelOf_e0 K  n l0 l2 l3 lvf).symm hB
        unfold B_X0_levelOf_0 at hB
        refine lv_iconst (v := 0) hx hb dX0_levelOf_0 (by decide) ?_
        refine lv_istore_n (lv' := [(2, .int 0), (0, .int l0), (1, .ref lv)]) hx hb dX0_levelOf_1 rfl hl (by decide) rfl (fun ls hl => ?_)
        refine lv_iconst (v := 0) hx hb dX0_levelOf_2 (by decide) ?_
        refine lv_istore_n (lv' := [(3, .int 0), (2, .int 0), (0, .int l0), (1, .ref lv)]) hx hb dX0_levelOf_3 rfl hl (by decide) rfl (fun ls hl => ?_)
        exact ih1 l0 0 0 lvf _ hB _ _ (hP.sub (ws' := [(lv, aI cI 6 lvf)]) [0] rfl) (hD.sub (ws' := [(lv, aI cI 6 lvf)]) [0] (by decide) rfl) hS ls (lv_sub hl [2, 3, 1, 0] rfl)
      · intro l0 l2 l3 lvf r hB H locs hP hD hS ls hl
        replace hB := Eq.trans (L_X0_levelOf_e1 K  n l0 l2 l3 lvf).symm hB
        unfold B_X0_levelOf_1 at hB
        refine lv_iload_n hx hb dX0_levelOf_4 rfl (lv_at hl 3 rfl) ?_
        refine lv_bipush (v := 6) hx hb dX0_levelOf_5 (by decide) ?_
        refine lv_icmp_ge (tgt := 32) hx hb dX0_levelOf_7 (by decide) (fun c_1 => ?_) (fun c_1 => ?_)
        · rw [if_pos c_1] at hB
          refine lv_iload_n hx hb dX0_levelOf_32 rfl (lv_at hl 2 rfl) ?_
          obtain rfl := Option.some.inj hB
          have hP9 := (hP.sub (ws' := [(lv, aI cI 6 lvf)]) [0] rfl)
          have hD9 := (hD.sub (ws' := [(lv, aI cI 6 lvf)]) [0] (by decide) rfl)
          exact W.iret (v := l2) hx hb hr (fun tt_ ht hW => ⟨⟨_, (), rfl, rfl, by rw [ht]; exact hP9, hD9⟩, hS.F ht⟩) hS.2.2 dX0_levelOf_33
        · rw [if_neg c_1] at hB
          refine lv_iload_n hx hb dX0_levelOf_10 rfl (lv_at hl 0 rfl) ?_
          refine lv_iconst (v := 2) hx hb dX0_levelOf_11 (by decide) ?_
          refine lv_iload_n hx hb dX0_levelOf_12 rfl (lv_at hl 3 rfl) ?_
          refine lv_imul hx hb dX0_levelOf_13 ?_
          refine lv_iushr (v := ((l0).toUInt32 >>> (((2 * l3)).toUInt32 &&& Int32.toUInt32 31)).toInt32) hx hb dX0_levelOf_14 rfl ?_
          refine lv_iconst (v := 1) hx hb dX0_levelOf_15 (by decide) ?_
          refine lv_iand hx hb dX0_levelOf_16 ?_
          refine lv_if_eq (tgt := 26) hx hb dX0_levelOf_17 (by decide) (fun c_2 => ?_) (fun c_2 => ?_)
          · rw [if_pos c_2] at hB
            exact ih2 l0 l2 l3 lvf _ hB _ _ (hP.sub (ws' := [(lv, aI cI 6 lvf)]) [0] rfl) (hD.sub (ws' := [(lv, aI cI 6 lvf)]) [0] (by decide) rfl) hS ls (lv_sub hl [0, 1, 2, 3] rfl)
          · rw [if_neg c_2] at hB
            refine lv_iload_n hx hb dX0_levelOf_20 rfl (lv_at hl 2 rfl) ?_
            refine lv_aload_n hx hb dX0_levelOf_21 rfl (lv_at hl 1 rfl) ?_
            refine lv_iload_n hx hb dX0_levelOf_22 rfl (lv_at hl 3 rfl) ?_
            by_cases k_3 : okIx l3 6 = true
            case neg => rw [if_neg k_3] at hB; cases hB
            rw [if_pos k_3] at hB
            refine va_iald hx hb hK hP 0 0 rfl rfl (okIx_in k_3) dX0_levelOf_23 ?_
            refine lv_ior hx hb dX0_levelOf_24 ?_
            refine lv_istore_n (lv' := [(2, .int (l2 ||| (lvf (l3).toNatClampNeg))), (0, .int l0), (1, .ref lv), (3, .int l3)]) hx hb dX0_levelOf_25 rfl hl (by decide) rfl (fun ls hl => ?_)
            exact ih2 l0 (l2 ||| (lvf (l3).toNatClampNeg)) l3 lvf _ hB _ _ (hP.sub (ws' := [(lv, aI cI 6 lvf)]) [0] rfl) (hD.sub (ws' := [(lv, aI cI 6 lvf)]) [0] (by decide) rfl) hS ls (lv_sub hl [1, 2, 0, 3] rfl)
      · intro l0 l2 l3 lvf r hB H locs hP hD hS ls hl
        replace hB := Eq.trans (L_X0_levelOf_e2 K  n l0 l2 l3 lvf).symm hB
        unfold B_X0_levelOf_2 at hB
        refine lv_iinc (v := (l3 + 1)) (lv' := [(3, .int (l3 + 1)), (0, .int l0), (1, .ref lv), (2, .int l2)]) hx hb dX0_levelOf_26 hl (k := 3) rfl (rfl) (by decide) rfl (fun ls hl => ?_)
        refine lv_goto (tgt := 4) hx hb dX0_levelOf_29 (by decide) ?_
        exact ih1 l0 l2 (l3 + 1) lvf _ hB _ _ (hP.sub (ws' := [(lv, aI cI 6 lvf)]) [0] rfl) (hD.sub (ws' := [(lv, aI cI 6 lvf)]) [0] (by decide) rfl) hS ls (lv_sub hl [1, 2, 3, 0] rfl)
  exact (key K).1 y1 0 0 lvf r hF _ _ hP hD hS ls hl
def B_X6_append_0 (K : Nat)  (rec : Nat → Int32 → Int32 → (Nat → Int32) → Option (Int32 × (Nat → Int32))) (l1 : Int32) (tx_length : Int32) (txf : Nat → Int32) : Option (Int32 × (Nat → Int32)) := if (300 : Int32) ≤ tx_length then (some (tx_length, txf)) else (if okIx tx_length 300 = true then (some ((tx_length + 1), (upd txf (tx_length).toNatClampNeg l1))) else none)
def L_X6_append (K : Nat)  : Nat → Nat → Int32 → Int32 → (Nat → Int32) → Option (Int32 × (Nat → Int32))
  | 0 => fun _ _ _ _ => none
  | n + 1 => fun c l1 tx_length txf => match c with | 0 => B_X6_append_0 K  (L_X6_append K  n) l1 tx_length txf | _ => none
theorem L_X6_append_e0 (K : Nat)  (n : Nat) (l1 : Int32) (tx_length : Int32) (txf : Nat → Int32) : L_X6_append K  (n + 1) 0 l1 tx_length txf = B_X6_append_0 K  (L_X6_append K  n) l1 tx_length txf := rfl
def F_X6_append (K : Nat) (l1 : Int32) (tx_length : Int32) (txf : Nat → Int32) : Option (Int32 × (Nat → Int32)) := L_X6_append K K 0 l1 tx_length txf
set_option maxHeartbeats 2000000 in
set_option maxRecDepth 100000 in
theorem c_X6_append (l : Launch) (dC : Nat → ClassId) (dI : Nat → Nat → Nat) (cI cJ cS : ClassId) (sz K : Nat) (tx : Nat) (y1 : Int32) (txb : Nat) (tx_length : Int32) (txf : Nat → Int32) (w0 : Int32) (w1 : Nat → Int32) (hF : F_X6_append K y1 tx_length txf = some (w0, w1)) : Met l yX6_append wsX6_append ({ frames := 0, cells := 0, slots := 0, locals := 0 }) (va_Pc [.ref tx, .int y1] (PE dC dI cI cJ cS [(tx, .inr (6, [.ref txb, .int tx_length])), (txb, aI cI 300 txf)] sz)) (va_Qv (fun (_ : Unit) => True) (BE dC dI (va_A [(tx, .inr (6, [.ref txb, .int tx_length])), (txb, aI cI 300 txf)] sz) (fun _ => [(tx, .inr (6, [.ref txb, .int w0])), (txb, aI cI 300 w1)])) (va_A [(tx, .inr (6, [.ref txb, .int tx_length])), (txb, aI cI 300 txf)] sz)) 0 0 (va_A [(tx, .inr (6, [.ref txb, .int tx_length])), (txb, aI cI 300 txf)] sz) := by
  refine Met.ofW (cc := cX6_append) (maxL := 2) (ret := none) (by decide) rfl ?_
  intro pp_ ee_ ss_ mm_ args below meth cc_ s₁ B hml hv
  obtain ⟨rfl, hsz, hP, hE, hD0⟩ := hv
  have hx := B.exec
  have hb := B.bytes
  have hr := B.returns
  have hts := atoms_spec (ws := wsX6_append) B.pre
  have hown : ss_.vm.findClass RX6 = some mm_.cls := findClass_of_methodNamed B.named
  have hlocks := B.notSynchronized
  have hK := hE.1
  have hiX6 : ∀ w ∈ wsX60, w ∈ wsX6_append := fun _ h => (List.mem_cons_of_mem _ (List.mem_append_right _ h))
  subst hsz
  have hD := hD0.self (sz := ss_.heap.size)
  generalize hAe : va_A [(tx, .inr (6, [.ref txb, .int tx_length])), (txb, aI cI 300 txf)] ss_.heap.size = A at hD ⊢
  have hA : ∀ q : Nat, ss_.heap.size ≤ q → A q := fun q h => by rw [← hAe]; exact Or.inr h
  have hS : va_S A ss_.heap ss_.heap [] := va_S.rf
  have hl := lv_entry ([.ref tx, .int y1]) (n := 2) (Nat.le_of_ble_eq_true rfl)
  rw [lg_entry_eq]
  generalize (lg_sl ([.ref tx, .int y1]) ++ List.replicate (2 - (lg_sl ([.ref tx, .int y1])).length) Slot.unset).toArray = ls at hl ⊢
  have hl : lv_has ls 2 [(0, .ref tx), (1, .int y1)] := hl
  have key : ∀ n : Nat, (∀ (l1 : Int32) (tx_length : Int32) (txf : Nat → Int32) (w0 : Int32) (w1 : Nat → Int32), L_X6_append K  n 0 l1 tx_length txf = some (w0, w1) → ∀ (H : Heap) (locs : List Loc), va_P (dC, dI) vwCl [(tx, .inr (6, [.ref txb, .int tx_length])), (txb, aI cI 300 txf)] H → va_D A [(tx, .inr (6, [.ref txb, .int tx_length])), (txb, aI cI 300 txf)] → va_S A ss_.heap H locs → ∀ ls : Array Slot, lv_has ls 2 [(0, .ref tx), (1, .int l1)] → W pp_ l ee_ (headSpec wsX6_append ({ frames := 0, cells := 0, slots := 0, locals := 0 })).room ss_ mm_ #[.ref tx, .int y1] below meth cc_ H locs 0 0 (MQ below (va_Qv (fun (_ : Unit) => True) (BE dC dI A (fun _ => [(tx, .inr (6, [.ref txb, .int w0])), (txb, aI cI 300 w1)])) A) #[.ref tx, .int y1] ss_ 0 0 A) (F0 mm_ 0 ls [])) := by
    intro n
    induction n with
    | zero => exact fun _ _ _ _ _ hF => absurd hF (fun e => by cases e)
    | succ n ih =>
      intro l1 tx_length txf w0 w1 hB H locs hP hD hS ls hl
      replace hB := Eq.trans (L_X6_append_e0 K  n l1 tx_length txf).symm hB
      unfold B_X6_append_0 at hB
      refine lv_aload_n hx hb dX6_append_0 rfl (lv_at hl 0 rfl) ?_
      refine va_get (D := (dC, dI)) (ci := 6) (v := .int tx_length) (C := RX6) (T := TX6) (N := 2) hx hb hts hiX6 hown hK hP 0 rfl rfl 1 (by decide) (hts (.fieldLink RX6 15 "WatchedPrograms$Text" "length" "I") (by decide +kernel)) (fun _ h9 => h9) rfl dX6_append_1 ?_
      refine lv_aload_n hx hb dX6_append_4 rfl (lv_at hl 0 rfl) ?_
      refine va_get (D := (dC, dI)) (ci := 6) (v := .ref txb) (C := RX6) (T := TX6) (N := 2) hx hb hts hiX6 hown hK hP 0 rfl rfl 0 (by decide) (hts (.fieldLink RX6 9 "WatchedPrograms$Text" "bytes" "[I") (by decide +kernel)) (fun _ h9 => h9) rfl dX6_append_5 ?_
      refine va_alen hx hb hK hP 1 0 rfl rfl (v := 300) rfl dX6_append_8 ?_
      refine lv_icmp_ge (tgt := 29) hx hb dX6_append_9 (by decide) (fun c_1 => ?_) (fun c_1 => ?_)
      · rw [if_pos c_1] at hB
        simp only [Option.some.injEq, Prod.mk.injEq] at hB
        obtain ⟨rfl, rfl⟩ := hB
        have hP9 := (hP.sub (ws' := [(tx, .inr (6, [.ref txb, .int tx_length])), (txb, aI cI 300 txf)]) [0, 1] rfl)
        have hD9 := (hD.sub (ws' := [(tx, .inr (6, [.ref txb, .int tx_length])), (txb, aI cI 300 txf)]) [0, 1] (by decide) rfl)
        exact W.vret hx hb hr (fun tt_ ht hW => ⟨⟨(), rfl, trivial, by rw [ht]; exact hP9, hD9⟩, hS.F ht⟩) hS.2.2 dX6_append_29
      · rw [if_neg c_1] at hB
        refine lv_aload_n hx hb dX6_append_12 rfl (lv_at hl 0 rfl) ?_
        refine va_get (D := (dC, dI)) (ci := 6) (v := .ref txb) (C := RX6) (T := TX6) (N := 2) hx hb hts hiX6 hown hK hP 0 rfl rfl 0 (by decide) (hts (.fieldLink RX6 9 "WatchedPrograms$Text" "bytes" "[I") (by decide +kernel)) (fun _ h9 => h9) rfl dX6_append_13 ?_
        refine lv_aload_n hx hb dX6_append_16 rfl (lv_at hl 0 rfl) ?_
        refine lv_dup hx hb dX6_append_17 rfl ?_
        refine va_get (D := (dC, dI)) (ci := 6) (v := .int tx_length) (C := RX6) (T := TX6) (N := 2) hx hb hts hiX6 hown hK hP 0 rfl rfl 1 (by decide) (hts (.fieldLink RX6 15 "WatchedPrograms$Text" "length" "I") (by decide +kernel)) (fun _ h9 => h9) rfl dX6_append_18 ?_
        refine lv_dup_x1 hx hb dX6_append_21 rfl rfl ?_
        refine lv_iconst (v := 1) hx hb dX6_append_22 (by decide) ?_
        refine lv_iadd hx hb dX6_append_23 ?_
        refine va_put (D := (dC, dI)) (ci := 6) (v := .int (tx_length + 1)) (ty := .int) (C := RX6) (T := TX6) (N := 2) hx hb hts hiX6 tyX6 tyX6_ok nmX6 hown hK hP hD hS 0 rfl rfl 1 (by decide) (hts (.fieldLink RX6 15 "WatchedPrograms$Text" "length" "I") (by decide +kernel)) (fun _ h9 => h9) rfl (by decide +kernel) rfl rfl (Nat.le_of_ble_eq_true rfl) dX6_append_24 (fun H locs hP hD hS => ?_)
        have hP : va_P (dC, dI) vwCl [(tx, .inr (6, [.ref txb, .int (tx_length + 1)])), (txb, aI cI 300 txf)] H := hP
        have hD : va_D A [(tx, .inr (6, [.ref txb, .int (tx_length + 1)])), (txb, aI cI 300 txf)] := hD
        refine lv_iload_n hx hb dX6_append_27 rfl (lv_at hl 1 rfl) ?_
        by_cases k_2 : okIx tx_length 300 = true
        case neg => rw [if_neg k_2] at hB; cases hB
        rw [if_pos k_2] at hB
        refine va_iast hx hb hK hP hD hS 1 0 rfl rfl (okIx_in k_2) dX6_append_28 (fun H locs hP hD hS => ?_)
        have hP : va_P (dC, dI) vwCl [(tx, .inr (6, [.ref txb, .int (tx_length + 1)])), (txb, aI cI 300 (upd txf (tx_length).toNatClampNeg l1))] H := hP
        have hD : va_D A [(tx, .inr (6, [.ref txb, .int (tx_length + 1)])), (txb, aI cI 300 (upd txf (tx_length).toNatClampNeg l1))] := hD
        simp only [Option.some.injEq, Prod.mk.injEq] at hB
        obtain ⟨rfl, rfl⟩ := hB
        have hP9 := (hP.sub (ws' := [(tx, .inr (6, [.ref txb, .int (tx_length + 1)])), (txb, aI cI 300 (upd txf (tx_length).toNatClampNeg l1))]) [0, 1] rfl)
        have hD9 := (hD.sub (ws' := [(tx, .inr (6, [.ref txb, .int (tx_length + 1)])), (txb, aI cI 300 (upd txf (tx_length).toNatClampNeg l1))]) [0, 1] (by decide) rfl)
        exact W.vret hx hb hr (fun tt_ ht hW => ⟨⟨(), rfl, trivial, by rw [ht]; exact hP9, hD9⟩, hS.F ht⟩) hS.2.2 dX6_append_29
  exact (key K) y1 tx_length txf w0 w1 hF _ _ hP hD hS ls hl
def B_X6_at_0 (K : Nat)  (rec : Nat → Int32 → Int32 → (Nat → Int32) → Option (Int32)) (l1 : Int32) (tx_length : Int32) (txf : Nat → Int32) : Option (Int32) := if l1 < 0 then (rec 1 l1 tx_length txf) else (if tx_length ≤ l1 then (rec 1 l1 tx_length txf) else (if okIx l1 300 = true then (some ((txf (l1).toNatClampNeg))) else none))
def B_X6_at_1 (K : Nat)  (rec : Nat → Int32 → Int32 → (Nat → Int32) → Option (Int32)) (l1 : Int32) (tx_length : Int32) (txf : Nat → Int32) : Option (Int32) := some ((-1))
def L_X6_at (K : Nat)  : Nat → Nat → Int32 → Int32 → (Nat → Int32) → Option (Int32)
  | 0 => fun _ _ _ _ => none
  | n + 1 => fun c l1 tx_length txf => match c with | 0 => B_X6_at_0 K  (L_X6_at K  n) l1 tx_length txf | 1 => B_X6_at_1 K  (L_X6_at K  n) l1 tx_length txf | _ => none
theorem L_X6_at_e0 (K : Nat)  (n : Nat) (l1 : Int32) (tx_length : Int32) (txf : Nat → Int32) : L_X6_at K  (n + 1) 0 l1 tx_length txf = B_X6_at_0 K  (L_X6_at K  n) l1 tx_length txf := rfl
theorem L_X6_at_e1 (K : Nat)  (n : Nat) (l1 : Int32) (tx_length : Int32) (txf : Nat → Int32) : L_X6_at K  (n + 1) 1 l1 tx_length txf = B_X6_at_1 K  (L_X6_at K  n) l1 tx_length txf := rfl
def F_X6_at (K : Nat) (l1 : Int32) (tx_length : Int32) (txf : Nat → Int32) : Option (Int32) := L_X6_at K K 0 l1 tx_length txf
set_option maxHeartbeats 2000000 in
set_option maxRecDepth 100000 in
theorem c_X6_at (l : Launch) (dC : Nat → ClassId) (dI : Nat → Nat → Nat) (cI cJ cS : ClassId) (sz K : Nat) (tx : Nat) (y1 : Int32) (txb : Nat) (tx_length : Int32) (txf : Nat → Int32) (r : Int32) (hF : F_X6_at K y1 tx_length txf = some (r)) : Met l yX6_at wsX6_at ({ frames := 0, cells := 0, slots := 0, locals := 0 }) (va_Pc [.ref tx, .int y1] (PE dC dI cI cJ cS [(tx, .inr (6, [.ref txb, .int tx_length])), (txb, aI cI 300 txf)] sz)) (va_Qi (fun (r_ : Int32) (_ : Unit) => r_ = r) (BE dC dI (va_A [(tx, .inr (6, [.ref txb, .int tx_length])), (txb, aI cI 300 txf)] sz) (fun _ => [(tx, .inr (6, [.ref txb, .int tx_length])), (txb, aI cI 300 txf)])) (va_A [(tx, .inr (6, [.ref txb, .int tx_length])), (txb, aI cI 300 txf)] sz)) 0 0 (va_A [(tx, .inr (6, [.ref txb, .int tx_length])), (txb, aI cI 300 txf)] sz) := by
  refine Met.ofW (cc := cX6_at) (maxL := 2) (ret := (some .int)) (by decide) rfl ?_
  intro pp_ ee_ ss_ mm_ args below meth cc_ s₁ B hml hv
  obtain ⟨rfl, hsz, hP, hE, hD0⟩ := hv
  have hx := B.exec
  have hb := B.bytes
  have hr := B.returns
  have hts := atoms_spec (ws := wsX6_at) B.pre
  have hown : ss_.vm.findClass RX6 = some mm_.cls := findClass_of_methodNamed B.named
  have hlocks := B.notSynchronized
  have hK := hE.1
  have hiX6 : ∀ w ∈ wsX60, w ∈ wsX6_at := fun _ h => (List.mem_cons_of_mem _ (List.mem_append_right _ h))
  subst hsz
  have hD := hD0.self (sz := ss_.heap.size)
  generalize hAe : va_A [(tx, .inr (6, [.ref txb, .int tx_length])), (txb, aI cI 300 txf)] ss_.heap.size = A at hD ⊢
  have hA : ∀ q : Nat, ss_.heap.size ≤ q → A q := fun q h => by rw [← hAe]; exact Or.inr h
  have hS : va_S A ss_.heap ss_.heap [] := va_S.rf
  have hl := lv_entry ([.ref tx, .int y1]) (n := 2) (Nat.le_of_ble_eq_true rfl)
  rw [lg_entry_eq]
  generalize (lg_sl ([.ref tx, .int y1]) ++ List.replicate (2 - (lg_sl ([.ref tx, .int y1])).length) Slot.unset).toArray = ls at hl ⊢
  have hl : lv_has ls 2 [(0, .ref tx), (1, .int y1)] := hl
  have key : ∀ n : Nat, (∀ (l1 : Int32) (tx_length : Int32) (txf : Nat → Int32) (r : Int32), L_X6_at K  n 0 l1 tx_length txf = some (r) → ∀ (H : Heap) (locs : List Loc), va_P (dC, dI) vwCl [(tx, .inr (6, [.ref txb, .int tx_length])), (txb, aI cI 300 txf)] H → va_D A [(tx, .inr (6, [.ref txb, .int tx_length])), (txb, aI cI 300 txf)] → va_S A ss_.heap H locs → ∀ ls : Array Slot, lv_has ls 2 [(0, .ref tx), (1, .int l1)] → W pp_ l ee_ (headSpec wsX6_at ({ frames := 0, cells := 0, slots := 0, locals := 0 })).room ss_ mm_ #[.ref tx, .int y1] below meth cc_ H locs 0 0 (MQ below (va_Qi (fun (r_ : Int32) (_ : Unit) => r_ = r) (BE dC dI A (fun _ => [(tx, .inr (6, [.ref txb, .int tx_length])), (txb, aI cI 300 txf)])) A) #[.ref tx, .int y1] ss_ 0 0 A) (F0 mm_ 0 ls [])) ∧ (∀ (l1 : Int32) (tx_length : Int32) (txf : Nat → Int32) (r : Int32), L_X6_at K  n 1 l1 tx_length txf = some (r) → ∀ (H : Heap) (locs : List Loc), va_P (dC, dI) vwCl [(tx, .inr (6, [.ref txb, .int tx_length])), (txb, aI cI 300 txf)] H → va_D A [(tx, .inr (6, [.ref txb, .int tx_length])), (txb, aI cI 300 txf)] → va_S A ss_.heap H locs → ∀ ls : Array Slot, lv_has ls 2 [(0, .ref tx), (1, .int l1)] → W pp_ l ee_ (headSpec wsX6_at ({ frames := 0, cells := 0, slots := 0, locals := 0 })).room ss_ mm_ #[.ref tx, .int y1] below meth cc_ H locs 0 0 (MQ below (va_Qi (fun (r_ : Int32) (_ : Unit) => r_ = r) (BE dC dI A (fun _ => [(tx, .inr (6, [.ref txb, .int tx_length])), (txb, aI cI 300 txf)])) A) #[.ref tx, .int y1] ss_ 0 0 A) (F0 mm_ 21 ls [])) := by
    intro n
    induction n with
    | zero => exact ⟨(fun _ _ _ _ hF => absurd hF (fun e => by cases e)), (fun _ _ _ _ hF => absurd hF (fun e => by cases e))⟩
    | succ n ih =>
      obtain ⟨ih0, ih1⟩ := ih
      refine ⟨?_, ?_⟩
      · intro l1 tx_length txf r hB H locs hP hD hS ls hl
        replace hB := Eq.trans (L_X6_at_e0 K  n l1 tx_length txf).symm hB
        unfold B_X6_at_0 at hB
        refine lv_iload_n hx hb dX6_at_0 rfl (lv_at hl 1 rfl) ?_
        refine lv_if_lt (tgt := 21) hx hb dX6_at_1 (by decide) (fun c_1 => ?_) (fun c_1 => ?_)
        · rw [if_pos c_1] at hB
          exact ih1 l1 tx_length txf _ hB _ _ (hP.sub (ws' := [(tx, .inr (6, [.ref txb, .int tx_length])), (txb, aI cI 300 txf)]) [0, 1] rfl) (hD.sub (ws' := [(tx, .inr (6, [.ref txb, .int tx_length])), (txb, aI cI 300 txf)]) [0, 1] (by decide) rfl) hS ls (lv_sub hl [0, 1] rfl)
        · rw [if_neg c_1] at hB
          refine lv_iload_n hx hb dX6_at_4 rfl (lv_at hl 1 rfl) ?_
          refine lv_aload_n hx hb dX6_at_5 rfl (lv_at hl 0 rfl) ?_
          refine va_get (D := (dC, dI)) (ci := 6) (v := .int tx_length) (C := RX6) (T := TX6) (N := 2) hx hb hts hiX6 hown hK hP 0 rfl rfl 1 (by decide) (hts (.fieldLink RX6 15 "WatchedPrograms$Text" "length" "I") (by decide +kernel)) (fun _ h9 => h9) rfl dX6_at_6 ?_
          refine lv_icmp_ge (tgt := 21) hx hb dX6_at_9 (by decide) (fun c_2 => ?_) (fun c_2 => ?_)
          · rw [if_pos c_2] at hB
            exact ih1 l1 tx_length txf _ hB _ _ (hP.sub (ws' := [(tx, .inr (6, [.ref txb, .int tx_length])), (txb, aI cI 300 txf)]) [0, 1] rfl) (hD.sub (ws' := [(tx, .inr (6, [.ref txb, .int tx_length])), (txb, aI cI 300 txf)]) [0, 1] (by decide) rfl) hS ls (lv_sub hl [0, 1] rfl)
          · rw [if_neg c_2] at hB
            refine lv_aload_n hx hb dX6_at_12 rfl (lv_at hl 0 rfl) ?_
            refine va_get (D := (dC, dI)) (ci := 6) (v := .ref txb) (C := RX6) (T := TX6) (N := 2) hx hb hts hiX6 hown hK hP 0 rfl rfl 0 (by decide) (hts (.fieldLink RX6 9 "WatchedPrograms$Text" "bytes" "[I") (by decide +kernel)) (fun _ h9 => h9) rfl dX6_at_13 ?_
            refine lv_iload_n hx hb dX6_at_16 rfl (lv_at hl 1 rfl) ?_
            by_cases k_3 : okIx l1 300 = true
            case neg => rw [if_neg k_3] at hB; cases hB
            rw [if_pos k_3] at hB
            refine va_iald hx hb hK hP 1 0 rfl rfl (okIx_in k_3) dX6_at_17 ?_
            refine lv_goto (tgt := 22) hx hb dX6_at_18 (by decide) ?_
            obtain rfl := Option.some.inj hB
            have hP9 := (hP.sub (ws' := [(tx, .inr (6, [.ref txb, .int tx_length])), (txb, aI cI 300 txf)]) [0, 1] rfl)
            have hD9 := (hD.sub (ws' := [(tx, .inr (6, [.ref txb, .int tx_length])), (txb, aI cI 300 txf)]) [0, 1] (by decide) rfl)
            exact W.iret (v := (txf (l1).toNatClampNeg)) hx hb hr (fun tt_ ht hW => ⟨⟨_, (), rfl, rfl, by rw [ht]; exact hP9, hD9⟩, hS.F ht⟩) hS.2.2 dX6_at_22
      · intro l1 tx_length txf r hB H locs hP hD hS ls hl
        replace hB := Eq.trans (L_X6_at_e1 K  n l1 tx_length txf).symm hB
        unfold B_X6_at_1 at hB
        refine lv_iconst (v := (-1)) hx hb dX6_at_21 (by decide) ?_
        obtain rfl := Option.some.inj hB
        have hP9 := (hP.sub (ws' := [(tx, .inr (6, [.ref txb, .int tx_length])), (txb, aI cI 300 txf)]) [0, 1] rfl)
        have hD9 := (hD.sub (ws' := [(tx, .inr (6, [.ref txb, .int tx_length])), (txb, aI cI 300 txf)]) [0, 1] (by decide) rfl)
        exact W.iret (v := (-1)) hx hb hr (fun tt_ ht hW => ⟨⟨_, (), rfl, rfl, by rw [ht]; exact hP9, hD9⟩, hS.F ht⟩) hS.2.2 dX6_at_22
  exact (key K).1 y1 tx_length txf r hF _ _ hP hD hS ls hl
def B_X7_advance_0 (K : Nat)  (rec : Nat → Int32 → Int32 → Int32 → Int32 → Int32 → (Nat → Int32) → (Nat → Int32) → (Nat → Int32) → Option (Int32 × Int32 × Int32 × Int32)) (tk_many : Int32) (tk_at : Int32) (tk_kind : Int32) (tk_value : Int32) (tk_place : Int32) (tkfk : Nat → Int32) (tkfv : Nat → Int32) (tkfp : Nat → Int32) : Option (Int32 × Int32 × Int32 × Int32) := if (tk_at + 1) < tk_many then (if okIx (tk_at + 1) 301 = true then (if okIx (tk_at + 1) 301 = true then (if okIx (tk_at + 1) 301 = true then (some ((tk_at + 1), (tkfk ((tk_at + 1)).toNatClampNeg), (tkfv ((tk_at + 1)).toNatClampNeg), (tkfp ((tk_at + 1)).toNatClampNeg))) else none) else none) else none) else (some (tk_at, tk_kind, tk_value, tk_place))
def L_X7_advance (K : Nat)  : Nat → Nat → Int32 → Int32 → Int32 → Int32 → Int32 → (Nat → Int32) → (Nat → Int32) → (Nat → Int32) → Option (Int32 × Int32 × Int32 × Int32)
  | 0 => fun _ _ _ _ _ _ _ _ _ => none
  | n + 1 => fun c tk_many tk_at tk_kind tk_value tk_place tkfk tkfv tkfp => match c with | 0 => B_X7_advance_0 K  (L_X7_advance K  n) tk_many tk_at tk_kind tk_value tk_place tkfk tkfv tkfp | _ => none
theorem L_X7_advance_e0 (K : Nat)  (n : Nat) (tk_many : Int32) (tk_at : Int32) (tk_kind : Int32) (tk_value : Int32) (tk_place : Int32) (tkfk : Nat → Int32) (tkfv : Nat → Int32) (tkfp : Nat → Int32) : L_X7_advance K  (n + 1) 0 tk_many tk_at tk_kind tk_value tk_place tkfk tkfv tkfp = B_X7_advance_0 K  (L_X7_advance K  n) tk_many tk_at tk_kind tk_value tk_place tkfk tkfv tkfp := rfl
def F_X7_advance (K : Nat)  (tk_many : Int32) (tk_at : Int32) (tk_kind : Int32) (tk_value : Int32) (tk_place : Int32) (tkfk : Nat → Int32) (tkfv : Nat → Int32) (tkfp : Nat → Int32) : Option (Int32 × Int32 × Int32 × Int32) := L_X7_advance K K 0 tk_many tk_at tk_kind tk_value tk_place tkfk tkfv tkfp
set_option maxHeartbeats 2000000 in
set_option maxRecDepth 100000 in
theorem c_X7_advance (l : Launch) (dC : Nat → ClassId) (dI : Nat → Nat → Nat) (cI cJ cS : ClassId) (sz K : Nat) (tk : Nat) (tkk : Nat) (tkv : Nat) (tkp : Nat) (tk_many : Int32) (tk_at : Int32) (tk_kind : Int32) (tk_value : Int32) (tk_place : Int32) (tkfk : Nat → Int32) (tkfv : Nat → Int32) (tkfp : Nat → Int32) (w0 : Int32) (w1 : Int32) (w2 : Int32) (w3 : Int32) (hF : F_X7_advance K tk_many tk_at tk_kind tk_value tk_place tkfk tkfv tkfp = some (w0, w1, w2, w3)) : Met l yX7_advance wsX7_advance ({ frames := 0, cells := 0, slots := 0, locals := 0 }) (va_Pc [.ref tk] (PE dC dI cI cJ cS [(tk, .inr (7, [.ref tkk, .ref tkv, .ref tkp, .int tk_many, .int tk_at, .int tk_kind, .int tk_value, .int tk_place])), (tkk, aI cI 301 tkfk), (tkv, aI cI 301 tkfv), (tkp, aI cI 301 tkfp)] sz)) (va_Qv (fun (_ : Unit) => True) (BE dC dI (va_A [(tk, .inr (7, [.ref tkk, .ref tkv, .ref tkp, .int tk_many, .int tk_at, .int tk_kind, .int tk_value, .int tk_place])), (tkk, aI cI 301 tkfk), (tkv, aI cI 301 tkfv), (tkp, aI cI 301 tkfp)] sz) (fun _ => [(tk, .inr (7, [.ref tkk, .ref tkv, .ref tkp, .int tk_many, .int w0, .int w1, .int w2, .int w3])), (tkk, aI cI 301 tkfk), (tkv, aI cI 301 tkfv), (tkp, aI cI 301 tkfp)])) (va_A [(tk, .inr (7, [.ref tkk, .ref tkv, .ref tkp, .int tk_many, .int tk_at, .int tk_kind, .int tk_value, .int tk_place])), (tkk, aI cI 301 tkfk), (tkv, aI cI 301 tkfv), (tkp, aI cI 301 tkfp)] sz)) 0 0 (va_A [(tk, .inr (7, [.ref tkk, .ref tkv, .ref tkp, .int tk_many, .int tk_at, .int tk_kind, .int tk_value, .int tk_place])), (tkk, aI cI 301 tkfk), (tkv, aI cI 301 tkfv), (tkp, aI cI 301 tkfp)] sz) := by
  refine Met.ofW (cc := cX7_advance) (maxL := 1) (ret := none) (by decide) rfl ?_
  intro pp_ ee_ ss_ mm_ args below meth cc_ s₁ B hml hv
  obtain ⟨rfl, hsz, hP, hE, hD0⟩ := hv
  have hx := B.exec
  have hb := B.bytes
  have hr := B.returns
  have hts := atoms_spec (ws := wsX7_advance) B.pre
  have hown : ss_.vm.findClass RX7 = some mm_.cls := findClass_of_methodNamed B.named
  have hlocks := B.notSynchronized
  have hK := hE.1
  have hiX7 : ∀ w ∈ wsX70, w ∈ wsX7_advance := fun _ h => (List.mem_cons_of_mem _ (List.mem_append_right _ h))
  subst hsz
  have hD := hD0.self (sz := ss_.heap.size)
  generalize hAe : va_A [(tk, .inr (7, [.ref tkk, .ref tkv, .ref tkp, .int tk_many, .int tk_at, .int tk_kind, .int tk_value, .int tk_place])), (tkk, aI cI 301 tkfk), (tkv, aI cI 301 tkfv), (tkp, aI cI 301 tkfp)] ss_.heap.size = A at hD ⊢
  have hA : ∀ q : Nat, ss_.heap.size ≤ q → A q := fun q h => by rw [← hAe]; exact Or.inr h
  have hS : va_S A ss_.heap ss_.heap [] := va_S.rf
  have hl := lv_entry ([.ref tk]) (n := 1) (Nat.le_of_ble_eq_true rfl)
  rw [lg_entry_eq]
  generalize (lg_sl ([.ref tk]) ++ List.replicate (1 - (lg_sl ([.ref tk])).length) Slot.unset).toArray = ls at hl ⊢
  have hl : lv_has ls 1 [(0, .ref tk)] := hl
  have key : ∀ n : Nat, (∀ (tk_many : Int32) (tk_at : Int32) (tk_kind : Int32) (tk_value : Int32) (tk_place : Int32) (tkfk : Nat → Int32) (tkfv : Nat → Int32) (tkfp : Nat → Int32) (w0 : Int32) (w1 : Int32) (w2 : Int32) (w3 : Int32), L_X7_advance K  n 0 tk_many tk_at tk_kind tk_value tk_place tkfk tkfv tkfp = some (w0, w1, w2, w3) → ∀ (H : Heap) (locs : List Loc), va_P (dC, dI) vwCl [(tk, .inr (7, [.ref tkk, .ref tkv, .ref tkp, .int tk_many, .int tk_at, .int tk_kind, .int tk_value, .int tk_place])), (tkk, aI cI 301 tkfk), (tkv, aI cI 301 tkfv), (tkp, aI cI 301 tkfp)] H → va_D A [(tk, .inr (7, [.ref tkk, .ref tkv, .ref tkp, .int tk_many, .int tk_at, .int tk_kind, .int tk_value, .int tk_place])), (tkk, aI cI 301 tkfk), (tkv, aI cI 301 tkfv), (tkp, aI cI 301 tkfp)] → va_S A ss_.heap H locs → ∀ ls : Array Slot, lv_has ls 1 [(0, .ref tk)] → W pp_ l ee_ (headSpec wsX7_advance ({ frames := 0, cells := 0, slots := 0, locals := 0 })).room ss_ mm_ #[.ref tk] below meth cc_ H locs 0 0 (MQ below (va_Qv (fun (_ : Unit) => True) (BE dC dI A (fun _ => [(tk, .inr (7, [.ref tkk, .ref tkv, .ref tkp, .int tk_many, .int w0, .int w1, .int w2, .int w3])), (tkk, aI cI 301 tkfk), (tkv, aI cI 301 tkfv), (tkp, aI cI 301 tkfp)])) A) #[.ref tk] ss_ 0 0 A) (F0 mm_ 0 ls [])) := by
    intro n
    induction n with
    | zero => exact fun _ _ _ _ _ _ _ _ _ _ _ _ hF => absurd hF (fun e => by cases e)
    | succ n ih =>
      intro tk_many tk_at tk_kind tk_value tk_place tkfk tkfv tkfp w0 w1 w2 w3 hB H locs hP hD hS ls hl
      replace hB := Eq.trans (L_X7_advance_e0 K  n tk_many tk_at tk_kind tk_value tk_place tkfk tkfv tkfp).symm hB
      unfold B_X7_advance_0 at hB
      refine lv_aload_n hx hb dX7_advance_0 rfl (lv_at hl 0 rfl) ?_
      refine va_get (D := (dC, dI)) (ci := 7) (v := .int tk_at) (C := RX7) (T := TX7) (N := 8) hx hb hts hiX7 hown hK hP 0 rfl rfl 4 (by decide) (hts (.fieldLink RX7 65 "WatchedPrograms$Tokens" "at" "I") (by decide +kernel)) (fun _ h9 => h9) rfl dX7_advance_1 ?_
      refine lv_iconst (v := 1) hx hb dX7_advance_4 (by decide) ?_
      refine lv_iadd hx hb dX7_advance_5 ?_
      refine lv_aload_n hx hb dX7_advance_6 rfl (lv_at hl 0 rfl) ?_
      refine va_get (D := (dC, dI)) (ci := 7) (v := .int tk_many) (C := RX7) (T := TX7) (N := 8) hx hb hts hiX7 hown hK hP 0 rfl rfl 3 (by decide) (hts (.fieldLink RX7 21 "WatchedPrograms$Tokens" "many" "I") (by decide +kernel)) (fun _ h9 => h9) rfl dX7_advance_7 ?_
      refine lv_icmp_lt (tgt := 14) hx hb dX7_advance_10 (by decide) (fun c_1 => ?_) (fun c_1 => ?_)
      · rw [if_pos c_1] at hB
        refine lv_aload_n hx hb dX7_advance_14 rfl (lv_at hl 0 rfl) ?_
        refine lv_dup hx hb dX7_advance_15 rfl ?_
        refine va_get (D := (dC, dI)) (ci := 7) (v := .int tk_at) (C := RX7) (T := TX7) (N := 8) hx hb hts hiX7 hown hK hP 0 rfl rfl 4 (by decide) (hts (.fieldLink RX7 65 "WatchedPrograms$Tokens" "at" "I") (by decide +kernel)) (fun _ h9 => h9) rfl dX7_advance_16 ?_
        refine lv_iconst (v := 1) hx hb dX7_advance_19 (by decide) ?_
        refine lv_iadd hx hb dX7_advance_20 ?_
        refine va_put (D := (dC, dI)) (ci := 7) (v := .int (tk_at + 1)) (ty := .int) (C := RX7) (T := TX7) (N := 8) hx hb hts hiX7 tyX7 tyX7_ok nmX7 hown hK hP hD hS 0 rfl rfl 4 (by decide) (hts (.fieldLink RX7 65 "WatchedPrograms$Tokens" "at" "I") (by decide +kernel)) (fun _ h9 => h9) rfl (by decide +kernel) rfl rfl (Nat.le_of_ble_eq_true rfl) dX7_advance_21 (fun H locs hP hD hS => ?_)
        have hP : va_P (dC, dI) vwCl [(tk, .inr (7, [.ref tkk, .ref tkv, .ref tkp, .int tk_many, .int (tk_at + 1), .int tk_kind, .int tk_value, .int tk_place])), (tkk, aI cI 301 tkfk), (tkv, aI cI 301 tkfv), (tkp, aI cI 301 tkfp)] H := hP
        have hD : va_D A [(tk, .inr (7, [.ref tkk, .ref tkv, .ref tkp, .int tk_many, .int (tk_at + 1), .int tk_kind, .int tk_value, .int tk_place])), (tkk, aI cI 301 tkfk), (tkv, aI cI 301 tkfv), (tkp, aI cI 301 tkfp)] := hD
        refine lv_aload_n hx hb dX7_advance_24 rfl (lv_at hl 0 rfl) ?_
        refine lv_aload_n hx hb dX7_advance_25 rfl (lv_at hl 0 rfl) ?_
        refine va_get (D := (dC, dI)) (ci := 7) (v := .ref tkk) (C := RX7) (T := TX7) (N := 8) hx hb hts hiX7 hown hK hP 0 rfl rfl 0 (by decide) (hts (.fieldLink RX7 9 "WatchedPrograms$Tokens" "kinds" "[I") (by decide +kernel)) (fun _ h9 => h9) rfl dX7_advance_26 ?_
        refine lv_aload_n hx hb dX7_advance_29 rfl (lv_at hl 0 rfl) ?_
        refine va_get (D := (dC, dI)) (ci := 7) (v := .int (tk_at + 1)) (C := RX7) (T := TX7) (N := 8) hx hb hts hiX7 hown hK hP 0 rfl rfl 4 (by decide) (hts (.fieldLink RX7 65 "WatchedPrograms$Tokens" "at" "I") (by decide +kernel)) (fun _ h9 => h9) rfl dX7_advance_30 ?_
        by_cases k_2 : okIx (tk_at + 1) 301 = true
        case neg => rw [if_neg k_2] at hB; cases hB
        rw [if_pos k_2] at hB
        refine va_iald hx hb hK hP 1 0 rfl rfl (okIx_in k_2) dX7_advance_33 ?_
        refine va_put (D := (dC, dI)) (ci := 7) (v := .int (tkfk ((tk_at + 1)).toNatClampNeg)) (ty := .int) (C := RX7) (T := TX7) (N := 8) hx hb hts hiX7 tyX7 tyX7_ok nmX7 hown hK hP hD hS 0 rfl rfl 5 (by decide) (hts (.fieldLink RX7 70 "WatchedPrograms$Tokens" "kind" "I") (by decide +kernel)) (fun _ h9 => h9) rfl (by decide +kernel) rfl rfl (Nat.le_of_ble_eq_true rfl) dX7_advance_34 (fun H locs hP hD hS => ?_)
        have hP : va_P (dC, dI) vwCl [(tk, .inr (7, [.ref tkk, .ref tkv, .ref tkp, .int tk_many, .int (tk_at + 1), .int (tkfk ((tk_at + 1)).toNatClampNeg), .int tk_value, .int tk_place])), (tkk, aI cI 301 tkfk), (tkv, aI cI 301 tkfv), (tkp, aI cI 301 tkfp)] H := hP
        have hD : va_D A [(tk, .inr (7, [.ref tkk, .ref tkv, .ref tkp, .int tk_many, .int (tk_at + 1), .int (tkfk ((tk_at + 1)).toNatClampNeg), .int tk_value, .int tk_place])), (tkk, aI cI 301 tkfk), (tkv, aI cI 301 tkfv), (tkp, aI cI 301 tkfp)] := hD
        refine lv_aload_n hx hb dX7_advance_37 rfl (lv_at hl 0 rfl) ?_
        refine lv_aload_n hx hb dX7_advance_38 rfl (lv_at hl 0 rfl) ?_
        refine va_get (D := (dC, dI)) (ci := 7) (v := .ref tkv) (C := RX7) (T := TX7) (N := 8) hx hb hts hiX7 hown hK hP 0 rfl rfl 1 (by decide) (hts (.fieldLink RX7 15 "WatchedPrograms$Tokens" "values" "[I") (by decide +kernel)) (fun _ h9 => h9) rfl dX7_advance_39 ?_
        refine lv_aload_n hx hb dX7_advance_42 rfl (lv_at hl 0 rfl) ?_
        refine va_get (D := (dC, dI)) (ci := 7) (v := .int (tk_at + 1)) (C := RX7) (T := TX7) (N := 8) hx hb hts hiX7 hown hK hP 0 rfl rfl 4 (by decide) (hts (.fieldLink RX7 65 "WatchedPrograms$Tokens" "at" "I") (by decide +kernel)) (fun _ h9 => h9) rfl dX7_advance_43 ?_
        by_cases k_3 : okIx (tk_at + 1) 301 = true
        case neg => rw [if_neg k_3] at hB; cases hB
        rw [if_pos k_3] at hB
        refine va_iald hx hb hK hP 2 0 rfl rfl (okIx_in k_3) dX7_advance_46 ?_
        refine va_put (D := (dC, dI)) (ci := 7) (v := .int (tkfv ((tk_at + 1)).toNatClampNeg)) (ty := .int) (C := RX7) (T := TX7) (N := 8) hx hb hts hiX7 tyX7 tyX7_ok nmX7 hown hK hP hD hS 0 rfl rfl 6 (by decide) (hts (.fieldLink RX7 73 "WatchedPrograms$Tokens" "value" "I") (by decide +kernel)) (fun _ h9 => h9) rfl (by decide +kernel) rfl rfl (Nat.le_of_ble_eq_true rfl) dX7_advance_47 (fun H locs hP hD hS => ?_)
        have hP : va_P (dC, dI) vwCl [(tk, .inr (7, [.ref tkk, .ref tkv, .ref tkp, .int tk_many, .int (tk_at + 1), .int (tkfk ((tk_at + 1)).toNatClampNeg), .int (tkfv ((tk_at + 1)).toNatClampNeg), .int tk_place])), (tkk, aI cI 301 tkfk), (tkv, aI cI 301 tkfv), (tkp, aI cI 301 tkfp)] H := hP
        have hD : va_D A [(tk, .inr (7, [.ref tkk, .ref tkv, .ref tkp, .int tk_many, .int (tk_at + 1), .int (tkfk ((tk_at + 1)).toNatClampNeg), .int (tkfv ((tk_at + 1)).toNatClampNeg), .int tk_place])), (tkk, aI cI 301 tkfk), (tkv, aI cI 301 tkfv), (tkp, aI cI 301 tkfp)] := hD
        refine lv_aload_n hx hb dX7_advance_50 rfl (lv_at hl 0 rfl) ?_
        refine lv_aload_n hx hb dX7_advance_51 rfl (lv_at hl 0 rfl) ?_
        refine va_get (D := (dC, dI)) (ci := 7) (v := .ref tkp) (C := RX7) (T := TX7) (N := 8) hx hb hts hiX7 hown hK hP 0 rfl rfl 2 (by decide) (hts (.fieldLink RX7 18 "WatchedPrograms$Tokens" "places" "[I") (by decide +kernel)) (fun _ h9 => h9) rfl dX7_advance_52 ?_
        refine lv_aload_n hx hb dX7_advance_55 rfl (lv_at hl 0 rfl) ?_
        refine va_get (D := (dC, dI)) (ci := 7) (v := .int (tk_at + 1)) (C := RX7) (T := TX7) (N := 8) hx hb hts hiX7 hown hK hP 0 rfl rfl 4 (by decide) (hts (.fieldLink RX7 65 "WatchedPrograms$Tokens" "at" "I") (by decide +kernel)) (fun _ h9 => h9) rfl dX7_advance_56 ?_
        by_cases k_4 : okIx (tk_at + 1) 301 = true
        case neg => rw [if_neg k_4] at hB; cases hB
        rw [if_pos k_4] at hB
        refine va_iald hx hb hK hP 3 0 rfl rfl (okIx_in k_4) dX7_advance_59 ?_
        refine va_put (D := (dC, dI)) (ci := 7) (v := .int (tkfp ((tk_at + 1)).toNatClampNeg)) (ty := .int) (C := RX7) (T := TX7) (N := 8) hx hb hts hiX7 tyX7 tyX7_ok nmX7 hown hK hP hD hS 0 rfl rfl 7 (by decide) (hts (.fieldLink RX7 76 "WatchedPrograms$Tokens" "place" "I") (by decide +kernel)) (fun _ h9 => h9) rfl (by decide +kernel) rfl rfl (Nat.le_of_ble_eq_true rfl) dX7_advance_60 (fun H locs hP hD hS => ?_)
        have hP : va_P (dC, dI) vwCl [(tk, .inr (7, [.ref tkk, .ref tkv, .ref tkp, .int tk_many, .int (tk_at + 1), .int (tkfk ((tk_at + 1)).toNatClampNeg), .int (tkfv ((tk_at + 1)).toNatClampNeg), .int (tkfp ((tk_at + 1)).toNatClampNeg)])), (tkk, aI cI 301 tkfk), (tkv, aI cI 301 tkfv), (tkp, aI cI 301 tkfp)] H := hP
        have hD : va_D A [(tk, .inr (7, [.ref tkk, .ref tkv, .ref tkp, .int tk_many, .int (tk_at + 1), .int (tkfk ((tk_at + 1)).toNatClampNeg), .int (tkfv ((tk_at + 1)).toNatClampNeg), .int (tkfp ((tk_at + 1)).toNatClampNeg)])), (tkk, aI cI 301 tkfk), (tkv, aI cI 301 tkfv), (tkp, aI cI 301 tkfp)] := hD
        simp only [Option.some.injEq, Prod.mk.injEq] at hB
        obtain ⟨rfl, rfl, rfl, rfl⟩ := hB
        have hP9 := (hP.sub (ws' := [(tk, .inr (7, [.ref tkk, .ref tkv, .ref tkp, .int tk_many, .int (tk_at + 1), .int (tkfk ((tk_at + 1)).toNatClampNeg), .int (tkfv ((tk_at + 1)).toNatClampNeg), .int (tkfp ((tk_at + 1)).toNatClampNeg)])), (tkk, aI cI 301 tkfk), (tkv, aI cI 301 tkfv), (tkp, aI cI 301 tkfp)]) [0, 1, 2, 3] rfl)
        have hD9 := (hD.sub (ws' := [(tk, .inr (7, [.ref tkk, .ref tkv, .ref tkp, .int tk_many, .int (tk_at + 1), .int (tkfk ((tk_at + 1)).toNatClampNeg), .int (tkfv ((tk_at + 1)).toNatClampNeg), .int (tkfp ((tk_at + 1)).toNatClampNeg)])), (tkk, aI cI 301 tkfk), (tkv, aI cI 301 tkfv), (tkp, aI cI 301 tkfp)]) [0, 1, 2, 3] (by decide) rfl)
        exact W.vret hx hb hr (fun tt_ ht hW => ⟨⟨(), rfl, trivial, by rw [ht]; exact hP9, hD9⟩, hS.F ht⟩) hS.2.2 dX7_advance_63
      · rw [if_neg c_1] at hB
        simp only [Option.some.injEq, Prod.mk.injEq] at hB
        obtain ⟨rfl, rfl, rfl, rfl⟩ := hB
        have hP9 := (hP.sub (ws' := [(tk, .inr (7, [.ref tkk, .ref tkv, .ref tkp, .int tk_many, .int tk_at, .int tk_kind, .int tk_value, .int tk_place])), (tkk, aI cI 301 tkfk), (tkv, aI cI 301 tkfv), (tkp, aI cI 301 tkfp)]) [0, 1, 2, 3] rfl)
        have hD9 := (hD.sub (ws' := [(tk, .inr (7, [.ref tkk, .ref tkv, .ref tkp, .int tk_many, .int tk_at, .int tk_kind, .int tk_value, .int tk_place])), (tkk, aI cI 301 tkfk), (tkv, aI cI 301 tkfv), (tkp, aI cI 301 tkfp)]) [0, 1, 2, 3] (by decide) rfl)
        exact W.vret hx hb hr (fun tt_ ht hW => ⟨⟨(), rfl, trivial, by rw [ht]; exact hP9, hD9⟩, hS.F ht⟩) hS.2.2 dX7_advance_13
  exact (key K) tk_many tk_at tk_kind tk_value tk_place tkfk tkfv tkfp w0 w1 w2 w3 hF _ _ hP hD hS ls hl
def B_X7_add_0 (K : Nat)  (rec : Nat → Int32 → Int32 → Int32 → Int32 → (Nat → Int32) → (Nat → Int32) → (Nat → Int32) → Option (Int32 × (Nat → Int32) × (Nat → Int32) × (Nat → Int32))) (l1 : Int32) (l2 : Int32) (l3 : Int32) (tk_many : Int32) (tkfk : Nat → Int32) (tkfv : Nat → Int32) (tkfp : Nat → Int32) : Option (Int32 × (Nat → Int32) × (Nat → Int32) × (Nat → Int32)) := if tk_many < 301 then (if okIx tk_many 301 = true then (if okIx tk_many 301 = true then (if okIx tk_many 301 = true then (some ((tk_many + 1), (upd tkfk (tk_many).toNatClampNeg l1), (upd tkfv (tk_many).toNatClampNeg l2), (upd tkfp (tk_many).toNatClampNeg l3))) else none) else none) else none) else (some (tk_many, tkfk, tkfv, tkfp))
def L_X7_add (K : Nat)  : Nat → Nat → Int32 → Int32 → Int32 → Int32 → (Nat → Int32) → (Nat → Int32) → (Nat → Int32) → Option (Int32 × (Nat → Int32) × (Nat → Int32) × (Nat → Int32))
  | 0 => fun _ _ _ _ _ _ _ _ => none
  | n + 1 => fun c l1 l2 l3 tk_many tkfk tkfv tkfp => match c with | 0 => B_X7_add_0 K  (L_X7_add K  n) l1 l2 l3 tk_many tkfk tkfv tkfp | _ => none
theorem L_X7_add_e0 (K : Nat)  (n : Nat) (l1 : Int32) (l2 : Int32) (l3 : Int32) (tk_many : Int32) (tkfk : Nat → Int32) (tkfv : Nat → Int32) (tkfp : Nat → Int32) : L_X7_add K  (n + 1) 0 l1 l2 l3 tk_many tkfk tkfv tkfp = B_X7_add_0 K  (L_X7_add K  n) l1 l2 l3 tk_many tkfk tkfv tkfp := rfl
def F_X7_add (K : Nat) (l1 : Int32) (l2 : Int32) (l3 : Int32) (tk_many : Int32) (tkfk : Nat → Int32) (tkfv : Nat → Int32) (tkfp : Nat → Int32) : Option (Int32 × (Nat → Int32) × (Nat → Int32) × (Nat → Int32)) := L_X7_add K K 0 l1 l2 l3 tk_many tkfk tkfv tkfp
set_option maxHeartbeats 2000000 in
set_option maxRecDepth 100000 in
theorem c_X7_add (l : Launch) (dC : Nat → ClassId) (dI : Nat → Nat → Nat) (cI cJ cS : ClassId) (sz K : Nat) (tk : Nat) (y1 : Int32) (y2 : Int32) (y3 : Int32) (tkk : Nat) (tkv : Nat) (tkp : Nat) (tk_many : Int32) (tk_at : Int32) (tk_kind : Int32) (tk_value : Int32) (tk_place : Int32) (tkfk : Nat → Int32) (tkfv : Nat → Int32) (tkfp : Nat → Int32) (w0 : Int32) (w1 : Nat → Int32) (w2 : Nat → Int32) (w3 : Nat → Int32) (hF : F_X7_add K y1 y2 y3 tk_many tkfk tkfv tkfp = some (w0, w1, w2, w3)) : Met l yX7_add wsX7_add ({ frames := 0, cells := 0, slots := 0, locals := 0 }) (va_Pc [.ref tk, .int y1, .int y2, .int y3] (PE dC dI cI cJ cS [(tk, .inr (7, [.ref tkk, .ref tkv, .ref tkp, .int tk_many, .int tk_at, .int tk_kind, .int tk_value, .int tk_place])), (tkk, aI cI 301 tkfk), (tkv, aI cI 301 tkfv), (tkp, aI cI 301 tkfp)] sz)) (va_Qv (fun (_ : Unit) => True) (BE dC dI (va_A [(tk, .inr (7, [.ref tkk, .ref tkv, .ref tkp, .int tk_many, .int tk_at, .int tk_kind, .int tk_value, .int tk_place])), (tkk, aI cI 301 tkfk), (tkv, aI cI 301 tkfv), (tkp, aI cI 301 tkfp)] sz) (fun _ => [(tk, .inr (7, [.ref tkk, .ref tkv, .ref tkp, .int w0, .int tk_at, .int tk_kind, .int tk_value, .int tk_place])), (tkk, aI cI 301 w1), (tkv, aI cI 301 w2), (tkp, aI cI 301 w3)])) (va_A [(tk, .inr (7, [.ref tkk, .ref tkv, .ref tkp, .int tk_many, .int tk_at, .int tk_kind, .int tk_value, .int tk_place])), (tkk, aI cI 301 tkfk), (tkv, aI cI 301 tkfv), (tkp, aI cI 301 tkfp)] sz)) 0 0 (va_A [(tk, .inr (7, [.ref tkk, .ref tkv, .ref tkp, .int tk_many, .int tk_at, .int tk_kind, .int tk_value, .int tk_place])), (tkk, aI cI 301 tkfk), (tkv, aI cI 301 tkfv), (tkp, aI cI 301 tkfp)] sz) := by
  refine Met.ofW (cc := cX7_add) (maxL := 4) (ret := none) (by decide) rfl ?_
  intro pp_ ee_ ss_ mm_ args below meth cc_ s₁ B hml hv
  obtain ⟨rfl, hsz, hP, hE, hD0⟩ := hv
  have hx := B.exec
  have hb := B.bytes
  have hr := B.returns
  have hts := atoms_spec (ws := wsX7_add) B.pre
  have hown : ss_.vm.findClass RX7 = some mm_.cls := findClass_of_methodNamed B.named
  have hlocks := B.notSynchronized
  have hK := hE.1
  have hiX7 : ∀ w ∈ wsX70, w ∈ wsX7_add := fun _ h => (List.mem_cons_of_mem _ (List.mem_append_right _ h))
  subst hsz
  have hD := hD0.self (sz := ss_.heap.size)
  generalize hAe : va_A [(tk, .inr (7, [.ref tkk, .ref tkv, .ref tkp, .int tk_many, .int tk_at, .int tk_kind, .int tk_value, .int tk_place])), (tkk, aI cI 301 tkfk), (tkv, aI cI 301 tkfv), (tkp, aI cI 301 tkfp)] ss_.heap.size = A at hD ⊢
  have hA : ∀ q : Nat, ss_.heap.size ≤ q → A q := fun q h => by rw [← hAe]; exact Or.inr h
  have hS : va_S A ss_.heap ss_.heap [] := va_S.rf
  have hl := lv_entry ([.ref tk, .int y1, .int y2, .int y3]) (n := 4) (Nat.le_of_ble_eq_true rfl)
  rw [lg_entry_eq]
  generalize (lg_sl ([.ref tk, .int y1, .int y2, .int y3]) ++ List.replicate (4 - (lg_sl ([.ref tk, .int y1, .int y2, .int y3])).length) Slot.unset).toArray = ls at hl ⊢
  have hl : lv_has ls 4 [(0, .ref tk), (1, .int y1), (2, .int y2), (3, .int y3)] := hl
  have key : ∀ n : Nat, (∀ (l1 : Int32) (l2 : Int32) (l3 : Int32) (tk_many : Int32) (tkfk : Nat → Int32) (tkfv : Nat → Int32) (tkfp : Nat → Int32) (w0 : Int32) (w1 : Nat → Int32) (w2 : Nat → Int32) (w3 : Nat → Int32), L_X7_add K  n 0 l1 l2 l3 tk_many tkfk tkfv tkfp = some (w0, w1, w2, w3) → ∀ (H : Heap) (locs : List Loc), va_P (dC, dI) vwCl [(tk, .inr (7, [.ref tkk, .ref tkv, .ref tkp, .int tk_many, .int tk_at, .int tk_kind, .int tk_value, .int tk_place])), (tkk, aI cI 301 tkfk), (tkv, aI cI 301 tkfv), (tkp, aI cI 301 tkfp)] H → va_D A [(tk, .inr (7, [.ref tkk, .ref tkv, .ref tkp, .int tk_many, .int tk_at, .int tk_kind, .int tk_value, .int tk_place])), (tkk, aI cI 301 tkfk), (tkv, aI cI 301 tkfv), (tkp, aI cI 301 tkfp)] → va_S A ss_.heap H locs → ∀ ls : Array Slot, lv_has ls 4 [(0, .ref tk), (1, .int l1), (2, .int l2), (3, .int l3)] → W pp_ l ee_ (headSpec wsX7_add ({ frames := 0, cells := 0, slots := 0, locals := 0 })).room ss_ mm_ #[.ref tk, .int y1, .int y2, .int y3] below meth cc_ H locs 0 0 (MQ below (va_Qv (fun (_ : Unit) => True) (BE dC dI A (fun _ => [(tk, .inr (7, [.ref tkk, .ref tkv, .ref tkp, .int w0, .int tk_at, .int tk_kind, .int tk_value, .int tk_place])), (tkk, aI cI 301 w1), (tkv, aI cI 301 w2), (tkp, aI cI 301 w3)])) A) #[.ref tk, .int y1, .int y2, .int y3] ss_ 0 0 A) (F0 mm_ 0 ls [])) := by
    intro n
    induction n with
    | zero => exact fun _ _ _ _ _ _ _ _ _ _ _ hF => absurd hF (fun e => by cases e)
    | succ n ih =>
      intro l1 l2 l3 tk_many tkfk tkfv tkfp w0 w1 w2 w3 hB H locs hP hD hS ls hl
      replace hB := Eq.trans (L_X7_add_e0 K  n l1 l2 l3 tk_many tkfk tkfv tkfp).symm hB
      unfold B_X7_add_0 at hB
      refine lv_aload_n hx hb dX7_add_0 rfl (lv_at hl 0 rfl) ?_
      refine va_get (D := (dC, dI)) (ci := 7) (v := .int tk_many) (C := RX7) (T := TX7) (N := 8) hx hb hts hiX7 hown hK hP 0 rfl rfl 3 (by decide) (hts (.fieldLink RX7 21 "WatchedPrograms$Tokens" "many" "I") (by decide +kernel)) (fun _ h9 => h9) rfl dX7_add_1 ?_
      refine lv_aload_n hx hb dX7_add_4 rfl (lv_at hl 0 rfl) ?_
      refine va_get (D := (dC, dI)) (ci := 7) (v := .ref tkk) (C := RX7) (T := TX7) (N := 8) hx hb hts hiX7 hown hK hP 0 rfl rfl 0 (by decide) (hts (.fieldLink RX7 9 "WatchedPrograms$Tokens" "kinds" "[I") (by decide +kernel)) (fun _ h9 => h9) rfl dX7_add_5 ?_
      refine va_alen hx hb hK hP 1 0 rfl rfl (v := 301) rfl dX7_add_8 ?_
      refine lv_icmp_lt (tgt := 13) hx hb dX7_add_9 (by decide) (fun c_1 => ?_) (fun c_1 => ?_)
      · rw [if_pos c_1] at hB
        refine lv_aload_n hx hb dX7_add_13 rfl (lv_at hl 0 rfl) ?_
        refine va_get (D := (dC, dI)) (ci := 7) (v := .ref tkk) (C := RX7) (T := TX7) (N := 8) hx hb hts hiX7 hown hK hP 0 rfl rfl 0 (by decide) (hts (.fieldLink RX7 9 "WatchedPrograms$Tokens" "kinds" "[I") (by decide +kernel)) (fun _ h9 => h9) rfl dX7_add_14 ?_
        refine lv_aload_n hx hb dX7_add_17 rfl (lv_at hl 0 rfl) ?_
        refine va_get (D := (dC, dI)) (ci := 7) (v := .int tk_many) (C := RX7) (T := TX7) (N := 8) hx hb hts hiX7 hown hK hP 0 rfl rfl 3 (by decide) (hts (.fieldLink RX7 21 "WatchedPrograms$Tokens" "many" "I") (by decide +kernel)) (fun _ h9 => h9) rfl dX7_add_18 ?_
        refine lv_iload_n hx hb dX7_add_21 rfl (lv_at hl 1 rfl) ?_
        by_cases k_2 : okIx tk_many 301 = true
        case neg => rw [if_neg k_2] at hB; cases hB
        rw [if_pos k_2] at hB
        refine va_iast hx hb hK hP hD hS 1 0 rfl rfl (okIx_in k_2) dX7_add_22 (fun H locs hP hD hS => ?_)
        have hP : va_P (dC, dI) vwCl [(tk, .inr (7, [.ref tkk, .ref tkv, .ref tkp, .int tk_many, .int tk_at, .int tk_kind, .int tk_value, .int tk_place])), (tkk, aI cI 301 (upd tkfk (tk_many).toNatClampNeg l1)), (tkv, aI cI 301 tkfv), (tkp, aI cI 301 tkfp)] H := hP
        have hD : va_D A [(tk, .inr (7, [.ref tkk, .ref tkv, .ref tkp, .int tk_many, .int tk_at, .int tk_kind, .int tk_value, .int tk_place])), (tkk, aI cI 301 (upd tkfk (tk_many).toNatClampNeg l1)), (tkv, aI cI 301 tkfv), (tkp, aI cI 301 tkfp)] := hD
        refine lv_aload_n hx hb dX7_add_23 rfl (lv_at hl 0 rfl) ?_
        refine va_get (D := (dC, dI)) (ci := 7) (v := .ref tkv) (C := RX7) (T := TX7) (N := 8) hx hb hts hiX7 hown hK hP 0 rfl rfl 1 (by decide) (hts (.fieldLink RX7 15 "WatchedPrograms$Tokens" "values" "[I") (by decide +kernel)) (fun _ h9 => h9) rfl dX7_add_24 ?_
        refine lv_aload_n hx hb dX7_add_27 rfl (lv_at hl 0 rfl) ?_
        refine va_get (D := (dC, dI)) (ci := 7) (v := .int tk_many) (C := RX7) (T := TX7) (N := 8) hx hb hts hiX7 hown hK hP 0 rfl rfl 3 (by decide) (hts (.fieldLink RX7 21 "WatchedPrograms$Tokens" "many" "I") (by decide +kernel)) (fun _ h9 => h9) rfl dX7_add_28 ?_
        refine lv_iload_n hx hb dX7_add_31 rfl (lv_at hl 2 rfl) ?_
        by_cases k_3 : okIx tk_many 301 = true
        case neg => rw [if_neg k_3] at hB; cases hB
        rw [if_pos k_3] at hB
        refine va_iast hx hb hK hP hD hS 2 0 rfl rfl (okIx_in k_3) dX7_add_32 (fun H locs hP hD hS => ?_)
        have hP : va_P (dC, dI) vwCl [(tk, .inr (7, [.ref tkk, .ref tkv, .ref tkp, .int tk_many, .int tk_at, .int tk_kind, .int tk_value, .int tk_place])), (tkk, aI cI 301 (upd tkfk (tk_many).toNatClampNeg l1)), (tkv, aI cI 301 (upd tkfv (tk_many).toNatClampNeg l2)), (tkp, aI cI 301 tkfp)] H := hP
        have hD : va_D A [(tk, .inr (7, [.ref tkk, .ref tkv, .ref tkp, .int tk_many, .int tk_at, .int tk_kind, .int tk_value, .int tk_place])), (tkk, aI cI 301 (upd tkfk (tk_many).toNatClampNeg l1)), (tkv, aI cI 301 (upd tkfv (tk_many).toNatClampNeg l2)), (tkp, aI cI 301 tkfp)] := hD
        refine lv_aload_n hx hb dX7_add_33 rfl (lv_at hl 0 rfl) ?_
        refine va_get (D := (dC, dI)) (ci := 7) (v := .ref tkp) (C := RX7) (T := TX7) (N := 8) hx hb hts hiX7 hown hK hP 0 rfl rfl 2 (by decide) (hts (.fieldLink RX7 18 "WatchedPrograms$Tokens" "places" "[I") (by decide +kernel)) (fun _ h9 => h9) rfl dX7_add_34 ?_
        refine lv_aload_n hx hb dX7_add_37 rfl (lv_at hl 0 rfl) ?_
        refine va_get (D := (dC, dI)) (ci := 7) (v := .int tk_many) (C := RX7) (T := TX7) (N := 8) hx hb hts hiX7 hown hK hP 0 rfl rfl 3 (by decide) (hts (.fieldLink RX7 21 "WatchedPrograms$Tokens" "many" "I") (by decide +kernel)) (fun _ h9 => h9) rfl dX7_add_38 ?_
        refine lv_iload_n hx hb dX7_add_41 rfl (lv_at hl 3 rfl) ?_
        by_cases k_4 : okIx tk_many 301 = true
        case neg => rw [if_neg k_4] at hB; cases hB
        rw [if_pos k_4] at hB
        refine va_iast hx hb hK hP hD hS 3 0 rfl rfl (okIx_in k_4) dX7_add_42 (fun H locs hP hD hS => ?_)
        have hP : va_P (dC, dI) vwCl [(tk, .inr (7, [.ref tkk, .ref tkv, .ref tkp, .int tk_many, .int tk_at, .int tk_kind, .int tk_value, .int tk_place])), (tkk, aI cI 301 (upd tkfk (tk_many).toNatClampNeg l1)), (tkv, aI cI 301 (upd tkfv (tk_many).toNatClampNeg l2)), (tkp, aI cI 301 (upd tkfp (tk_many).toNatClampNeg l3))] H := hP
        have hD : va_D A [(tk, .inr (7, [.ref tkk, .ref tkv, .ref tkp, .int tk_many, .int tk_at, .int tk_kind, .int tk_value, .int tk_place])), (tkk, aI cI 301 (upd tkfk (tk_many).toNatClampNeg l1)), (tkv, aI cI 301 (upd tkfv (tk_many).toNatClampNeg l2)), (tkp, aI cI 301 (upd tkfp (tk_many).toNatClampNeg l3))] := hD
        refine lv_aload_n hx hb dX7_add_43 rfl (lv_at hl 0 rfl) ?_
        refine lv_dup hx hb dX7_add_44 rfl ?_
        refine va_get (D := (dC, dI)) (ci := 7) (v := .int tk_many) (C := RX7) (T := TX7) (N := 8) hx hb hts hiX7 hown hK hP 0 rfl rfl 3 (by decide) (hts (.fieldLink RX7 21 "WatchedPrograms$Tokens" "many" "I") (by decide +kernel)) (fun _ h9 => h9) rfl dX7_add_45 ?_
        refine lv_iconst (v := 1) hx hb dX7_add_48 (by decide) ?_
        refine lv_iadd hx hb dX7_add_49 ?_
        refine va_put (D := (dC, dI)) (ci := 7) (v := .int (tk_many + 1)) (ty := .int) (C := RX7) (T := TX7) (N := 8) hx hb hts hiX7 tyX7 tyX7_ok nmX7 hown hK hP hD hS 0 rfl rfl 3 (by decide) (hts (.fieldLink RX7 21 "WatchedPrograms$Tokens" "many" "I") (by decide +kernel)) (fun _ h9 => h9) rfl (by decide +kernel) rfl rfl (Nat.le_of_ble_eq_true rfl) dX7_add_50 (fun H locs hP hD hS => ?_)
        have hP : va_P (dC, dI) vwCl [(tk, .inr (7, [.ref tkk, .ref tkv, .ref tkp, .int (tk_many + 1), .int tk_at, .int tk_kind, .int tk_value, .int tk_place])), (tkk, aI cI 301 (upd tkfk (tk_many).toNatClampNeg l1)), (tkv, aI cI 301 (upd tkfv (tk_many).toNatClampNeg l2)), (tkp, aI cI 301 (upd tkfp (tk_many).toNatClampNeg l3))] H := hP
        have hD : va_D A [(tk, .inr (7, [.ref tkk, .ref tkv, .ref tkp, .int (tk_many + 1), .int tk_at, .int tk_kind, .int tk_value, .int tk_place])), (tkk, aI cI 301 (upd tkfk (tk_many).toNatClampNeg l1)), (tkv, aI cI 301 (upd tkfv (tk_many).toNatClampNeg l2)), (tkp, aI cI 301 (upd tkfp (tk_many).toNatClampNeg l3))] := hD
        simp only [Option.some.injEq, Prod.mk.injEq] at hB
        obtain ⟨rfl, rfl, rfl, rfl⟩ := hB
        have hP9 := (hP.sub (ws' := [(tk, .inr (7, [.ref tkk, .ref tkv, .ref tkp, .int (tk_many + 1), .int tk_at, .int tk_kind, .int tk_value, .int tk_place])), (tkk, aI cI 301 (upd tkfk (tk_many).toNatClampNeg l1)), (tkv, aI cI 301 (upd tkfv (tk_many).toNatClampNeg l2)), (tkp, aI cI 301 (upd tkfp (tk_many).toNatClampNeg l3))]) [0, 1, 2, 3] rfl)
        have hD9 := (hD.sub (ws' := [(tk, .inr (7, [.ref tkk, .ref tkv, .ref tkp, .int (tk_many + 1), .int tk_at, .int tk_kind, .int tk_value, .int tk_place])), (tkk, aI cI 301 (upd tkfk (tk_many).toNatClampNeg l1)), (tkv, aI cI 301 (upd tkfv (tk_many).toNatClampNeg l2)), (tkp, aI cI 301 (upd tkfp (tk_many).toNatClampNeg l3))]) [0, 1, 2, 3] (by decide) rfl)
        exact W.vret hx hb hr (fun tt_ ht hW => ⟨⟨(), rfl, trivial, by rw [ht]; exact hP9, hD9⟩, hS.F ht⟩) hS.2.2 dX7_add_53
      · rw [if_neg c_1] at hB
        simp only [Option.some.injEq, Prod.mk.injEq] at hB
        obtain ⟨rfl, rfl, rfl, rfl⟩ := hB
        have hP9 := (hP.sub (ws' := [(tk, .inr (7, [.ref tkk, .ref tkv, .ref tkp, .int tk_many, .int tk_at, .int tk_kind, .int tk_value, .int tk_place])), (tkk, aI cI 301 tkfk), (tkv, aI cI 301 tkfv), (tkp, aI cI 301 tkfp)]) [0, 1, 2, 3] rfl)
        have hD9 := (hD.sub (ws' := [(tk, .inr (7, [.ref tkk, .ref tkv, .ref tkp, .int tk_many, .int tk_at, .int tk_kind, .int tk_value, .int tk_place])), (tkk, aI cI 301 tkfk), (tkv, aI cI 301 tkfv), (tkp, aI cI 301 tkfp)]) [0, 1, 2, 3] (by decide) rfl)
        exact W.vret hx hb hr (fun tt_ ht hW => ⟨⟨(), rfl, trivial, by rw [ht]; exact hP9, hD9⟩, hS.F ht⟩) hS.2.2 dX7_add_12
  exact (key K) y1 y2 y3 tk_many tkfk tkfv tkfp w0 w1 w2 w3 hF _ _ hP hD hS ls hl
def B_X7_takeNumber_0 (K : Nat)  (rec : Nat → Int32 → Int32 → Int32 → Int32 → (Nat → Int32) → (Nat → Int32) → (Nat → Int32) → Int32 → (Nat → Int32) → Option (Int32 × Int32 × (Nat → Int32) × (Nat → Int32) × (Nat → Int32))) (l2 : Int32) (l3 : Int32) (s0 : Int32) (tk_many : Int32) (tkfk : Nat → Int32) (tkfv : Nat → Int32) (tkfp : Nat → Int32) (tx_length : Int32) (txf : Nat → Int32) : Option (Int32 × Int32 × (Nat → Int32) × (Nat → Int32) × (Nat → Int32)) := rec 1 l2 l2 0 tk_many tkfk tkfv tkfp tx_length txf
def B_X7_takeNumber_1 (K : Nat)  (rec : Nat → Int32 → Int32 → Int32 → Int32 → (Nat → Int32) → (Nat → Int32) → (Nat → Int32) → Int32 → (Nat → Int32) → Option (Int32 × Int32 × (Nat → Int32) × (Nat → Int32) × (Nat → Int32))) (l2 : Int32) (l3 : Int32) (s0 : Int32) (tk_many : Int32) (tkfk : Nat → Int32) (tkfv : Nat → Int32) (tkfp : Nat → Int32) (tx_length : Int32) (txf : Nat → Int32) : Option (Int32 × Int32 × (Nat → Int32) × (Nat → Int32) × (Nat → Int32)) := if tx_length ≤ l3 then (rec 2 l2 l3 0 tk_many tkfk tkfv tkfp tx_length txf) else ((F_X6_at K l3 tx_length txf).bind (fun o_2 => (F_X7_isFigure K o_2).bind (fun o_7 => if o_7 = 0 then (rec 2 l2 l3 0 tk_many tkfk tkfv tkfp tx_length txf) else (rec 1 l2 (l3 + 1) 0 tk_many tkfk tkfv tkfp tx_length txf))))
def B_X7_takeNumber_2 (K : Nat)  (rec : Nat → Int32 → Int32 → Int32 → Int32 → (Nat → Int32) → (Nat → Int32) → (Nat → Int32) → Int32 → (Nat → Int32) → Option (Int32 × Int32 × (Nat → Int32) × (Nat → Int32) × (Nat → Int32))) (l2 : Int32) (l3 : Int32) (s0 : Int32) (tk_many : Int32) (tkfk : Nat → Int32) (tkfv : Nat → Int32) (tkfp : Nat → Int32) (tx_length : Int32) (txf : Nat → Int32) : Option (Int32 × Int32 × (Nat → Int32) × (Nat → Int32) × (Nat → Int32)) := if l3 = (l2 + 1) then (rec 3 l2 l3 3 tk_many tkfk tkfv tkfp tx_length txf) else (rec 3 l2 l3 1 tk_many tkfk tkfv tkfp tx_length txf)
def B_X7_takeNumber_3 (K : Nat)  (rec : Nat → Int32 → Int32 → Int32 → Int32 → (Nat → Int32) → (Nat → Int32) → (Nat → Int32) → Int32 → (Nat → Int32) → Option (Int32 × Int32 × (Nat → Int32) × (Nat → Int32) × (Nat → Int32))) (l2 : Int32) (l3 : Int32) (s0 : Int32) (tk_many : Int32) (tkfk : Nat → Int32) (tkfv : Nat → Int32) (tkfp : Nat → Int32) (tx_length : Int32) (txf : Nat → Int32) : Option (Int32 × Int32 × (Nat → Int32) × (Nat → Int32) × (Nat → Int32)) := (F_X6_at K l2 tx_length txf).bind (fun o_1 => (F_X7_add K s0 (o_1 - 48) l2 tk_many tkfk tkfv tkfp).bind (fun o_6 => some (l3, o_6.1, o_6.2.1, o_6.2.2.1, o_6.2.2.2)))
def L_X7_takeNumber (K : Nat)  : Nat → Nat → Int32 → Int32 → Int32 → Int32 → (Nat → Int32) → (Nat → Int32) → (Nat → Int32) → Int32 → (Nat → Int32) → Option (Int32 × Int32 × (Nat → Int32) × (Nat → Int32) × (Nat → Int32))
  | 0 => fun _ _ _ _ _ _ _ _ _ _ => none
  | n + 1 => fun c l2 l3 s0 tk_many tkfk tkfv tkfp tx_length txf => match c with | 0 => B_X7_takeNumber_0 K  (L_X7_takeNumber K  n) l2 l3 s0 tk_many tkfk tkfv tkfp tx_length txf | 1 => B_X7_takeNumber_1 K  (L_X7_takeNumber K  n) l2 l3 s0 tk_many tkfk tkfv tkfp tx_length txf | 2 => B_X7_takeNumber_2 K  (L_X7_takeNumber K  n) l2 l3 s0 tk_many tkfk tkfv tkfp tx_length txf | 3 => B_X7_takeNumber_3 K  (L_X7_takeNumber K  n) l2 l3 s0 tk_many tkfk tkfv tkfp tx_length txf | _ => none
theorem L_X7_takeNumber_e0 (K : Nat)  (n : Nat) (l2 : Int32) (l3 : Int32) (s0 : Int32) (tk_many : Int32) (tkfk : Nat → Int32) (tkfv : Nat → Int32) (tkfp : Nat → Int32) (tx_length : Int32) (txf : Nat → Int32) : L_X7_takeNumber K  (n + 1) 0 l2 l3 s0 tk_many tkfk tkfv tkfp tx_length txf = B_X7_takeNumber_0 K  (L_X7_takeNumber K  n) l2 l3 s0 tk_many tkfk tkfv tkfp tx_length txf := rfl
theorem L_X7_takeNumber_e1 (K : Nat)  (n : Nat) (l2 : Int32) (l3 : Int32) (s0 : Int32) (tk_many : Int32) (tkfk : Nat → Int32) (tkfv : Nat → Int32) (tkfp : Nat → Int32) (tx_length : Int32) (txf : Nat → Int32) : L_X7_takeNumber K  (n + 1) 1 l2 l3 s0 tk_many tkfk tkfv tkfp tx_length txf = B_X7_takeNumber_1 K  (L_X7_takeNumber K  n) l2 l3 s0 tk_many tkfk tkfv tkfp tx_length txf := rfl
theorem L_X7_takeNumber_e2 (K : Nat)  (n : Nat) (l2 : Int32) (l3 : Int32) (s0 : Int32) (tk_many : Int32) (tkfk : Nat → Int32) (tkfv : Nat → Int32) (tkfp : Nat → Int32) (tx_length : Int32) (txf : Nat → Int32) : L_X7_takeNumber K  (n + 1) 2 l2 l3 s0 tk_many tkfk tkfv tkfp tx_length txf = B_X7_takeNumber_2 K  (L_X7_takeNumber K  n) l2 l3 s0 tk_many tkfk tkfv tkfp tx_length txf := rfl
theorem L_X7_takeNumber_e3 (K : Nat)  (n : Nat) (l2 : Int32) (l3 : Int32) (s0 : Int32) (tk_many : Int32) (tkfk : Nat → Int32) (tkfv : Nat → Int32) (tkfp : Nat → Int32) (tx_length : Int32) (txf : Nat → Int32) : L_X7_takeNumber K  (n + 1) 3 l2 l3 s0 tk_many tkfk tkfv tkfp tx_length txf = B_X7_takeNumber_3 K  (L_X7_takeNumber K  n) l2 l3 s0 tk_many tkfk tkfv tkfp tx_length txf := rfl
def F_X7_takeNumber (K : Nat) (l2 : Int32) (tk_many : Int32) (tkfk : Nat → Int32) (tkfv : Nat → Int32) (tkfp : Nat → Int32) (tx_length : Int32) (txf : Nat → Int32) : Option (Int32 × Int32 × (Nat → Int32) × (Nat → Int32) × (Nat → Int32)) := L_X7_takeNumber K K 0 l2 0 0 tk_many tkfk tkfv tkfp tx_length txf
set_option maxHeartbeats 2000000 in
set_option maxRecDepth 100000 in
theorem c_X7_takeNumber (l : Launch) (dC : Nat → ClassId) (dI : Nat → Nat → Nat) (cI cJ cS : ClassId) (sz K : Nat) (tk : Nat) (tx : Nat) (y2 : Int32) (tkk : Nat) (tkv : Nat) (tkp : Nat) (tk_many : Int32) (tk_at : Int32) (tk_kind : Int32) (tk_value : Int32) (tk_place : Int32) (tkfk : Nat → Int32) (tkfv : Nat → Int32) (tkfp : Nat → Int32) (txb : Nat) (tx_length : Int32) (txf : Nat → Int32) (r : Int32) (w0 : Int32) (w1 : Nat → Int32) (w2 : Nat → Int32) (w3 : Nat → Int32) (hF : F_X7_takeNumber K y2 tk_many tkfk tkfv tkfp tx_length txf = some (r, w0, w1, w2, w3)) : Met l yX7_takeNumber wsX7_takeNumber ({ frames := 1, cells := 0, slots := 0, locals := 23 }) (va_Pc [.ref tk, .ref tx, .int y2] (PE dC dI cI cJ cS [(tk, .inr (7, [.ref tkk, .ref tkv, .ref tkp, .int tk_many, .int tk_at, .int tk_kind, .int tk_value, .int tk_place])), (tkk, aI cI 301 tkfk), (tkv, aI cI 301 tkfv), (tkp, aI cI 301 tkfp), (tx, .inr (6, [.ref txb, .int tx_length])), (txb, aI cI 300 txf)] sz)) (va_Qi (fun (r_ : Int32) (_ : Unit) => r_ = r) (BE dC dI (va_A [(tk, .inr (7, [.ref tkk, .ref tkv, .ref tkp, .int tk_many, .int tk_at, .int tk_kind, .int tk_value, .int tk_place])), (tkk, aI cI 301 tkfk), (tkv, aI cI 301 tkfv), (tkp, aI cI 301 tkfp), (tx, .inr (6, [.ref txb, .int tx_length])), (txb, aI cI 300 txf)] sz) (fun _ => [(tk, .inr (7, [.ref tkk, .ref tkv, .ref tkp, .int w0, .int tk_at, .int tk_kind, .int tk_value, .int tk_place])), (tkk, aI cI 301 w1), (tkv, aI cI 301 w2), (tkp, aI cI 301 w3), (tx, .inr (6, [.ref txb, .int tx_length])), (txb, aI cI 300 txf)])) (va_A [(tk, .inr (7, [.ref tkk, .ref tkv, .ref tkp, .int tk_many, .int tk_at, .int tk_kind, .int tk_value, .int tk_place])), (tkk, aI cI 301 tkfk), (tkv, aI cI 301 tkfv), (tkp, aI cI 301 tkfp), (tx, .inr (6, [.ref txb, .int tx_length])), (txb, aI cI 300 txf)] sz)) 0 0 (va_A [(tk, .inr (7, [.ref tkk, .ref tkv, .ref tkp, .int tk_many, .int tk_at, .int tk_kind, .int tk_value, .int tk_place])), (tkk, aI cI 301 tkfk), (tkv, aI cI 301 tkfv), (tkp, aI cI 301 tkfp), (tx, .inr (6, [.ref txb, .int tx_length])), (txb, aI cI 300 txf)] sz) := by
  refine Met.ofW (cc := cX7_takeNumber) (maxL := 4) (ret := (some .int)) (by decide) rfl ?_
  intro pp_ ee_ ss_ mm_ args below meth cc_ s₁ B hml hv
  obtain ⟨rfl, hsz, hP, hE, hD0⟩ := hv
  have hx := B.exec
  have hb := B.bytes
  have hr := B.returns
  have hts := atoms_spec (ws := wsX7_takeNumber) B.pre
  have hown : ss_.vm.findClass RX7 = some mm_.cls := findClass_of_methodNamed B.named
  have hlocks := B.notSynchronized
  have hK := hE.1
  have hiX6 : ∀ w ∈ wsX60, w ∈ wsX7_takeNumber := fun _ h => (List.mem_cons_of_mem _ (List.mem_append_left _ (List.mem_append_right _ h)))
  subst hsz
  have hD := hD0.self (sz := ss_.heap.size)
  generalize hAe : va_A [(tk, .inr (7, [.ref tkk, .ref tkv, .ref tkp, .int tk_many, .int tk_at, .int tk_kind, .int tk_value, .int tk_place])), (tkk, aI cI 301 tkfk), (tkv, aI cI 301 tkfv), (tkp, aI cI 301 tkfp), (tx, .inr (6, [.ref txb, .int tx_length])), (txb, aI cI 300 txf)] ss_.heap.size = A at hD ⊢
  have hA : ∀ q : Nat, ss_.heap.size ≤ q → A q := fun q h => by rw [← hAe]; exact Or.inr h
  have hS : va_S A ss_.heap ss_.heap [] := va_S.rf
  have hl := lv_entry ([.ref tk, .ref tx, .int y2]) (n := 4) (Nat.le_of_ble_eq_true rfl)
  rw [lg_entry_eq]
  generalize (lg_sl ([.ref tk, .ref tx, .int y2]) ++ List.replicate (4 - (lg_sl ([.ref tk, .ref tx, .int y2])).length) Slot.unset).toArray = ls at hl ⊢
  have hl : lv_has ls 4 [(0, .ref tk), (1, .ref tx), (2, .int y2)] := hl
  have key : ∀ n : Nat, (∀ (l2 : Int32) (l3 : Int32) (s0 : Int32) (tk_many : Int32) (tkfk : Nat → Int32) (tkfv : Nat → Int32) (tkfp : Nat → Int32) (tx_length : Int32) (txf : Nat → Int32) (r : Int32) (w0 : Int32) (w1 : Nat → Int32) (w2 : Nat → Int32) (w3 : Nat → Int32), L_X7_takeNumber K  n 0 l2 l3 s0 tk_many tkfk tkfv tkfp tx_length txf = some (r, w0, w1, w2, w3) → ∀ (H : Heap) (locs : List Loc), va_P (dC, dI) vwCl [(tk, .inr (7, [.ref tkk, .ref tkv, .ref tkp, .int tk_many, .int tk_at, .int tk_kind, .int tk_value, .int tk_place])), (tkk, aI cI 301 tkfk), (tkv, aI cI 301 tkfv), (tkp, aI cI 301 tkfp), (tx, .inr (6, [.ref txb, .int tx_length])), (txb, aI cI 300 txf)] H → va_D A [(tk, .inr (7, [.ref tkk, .ref tkv, .ref tkp, .int tk_many, .int tk_at, .int tk_kind, .int tk_value, .int tk_place])), (tkk, aI cI 301 tkfk), (tkv, aI cI 301 tkfv), (tkp, aI cI 301 tkfp), (tx, .inr (6, [.ref txb, .int tx_length])), (txb, aI cI 300 txf)] → va_S A ss_.heap H locs → ∀ ls : Array Slot, lv_has ls 4 [(0, .ref tk), (1, .ref tx), (2, .int l2)] → W pp_ l ee_ (headSpec wsX7_takeNumber ({ frames := 1, cells := 0, slots := 0, locals := 23 })).room ss_ mm_ #[.ref tk, .ref tx, .int y2] below meth cc_ H locs 0 0 (MQ below (va_Qi (fun (r_ : Int32) (_ : Unit) => r_ = r) (BE dC dI A (fun _ => [(tk, .inr (7, [.ref tkk, .ref tkv, .ref tkp, .int w0, .int tk_at, .int tk_kind, .int tk_value, .int tk_place])), (tkk, aI cI 301 w1), (tkv, aI cI 301 w2), (tkp, aI cI 301 w3), (tx, .inr (6, [.ref txb, .int tx_length])), (txb, aI cI 300 txf)])) A) #[.ref tk, .ref tx, .int y2] ss_ 0 0 A) (F0 mm_ 0 ls [])) ∧ (∀ (l2 : Int32) (l3 : Int32) (s0 : Int32) (tk_many : Int32) (tkfk : Nat → Int32) (tkfv : Nat → Int32) (tkfp : Nat → Int32) (tx_length : Int32) (txf : Nat → Int32) (r : Int32) (w0 : Int32) (w1 : Nat → Int32) (w2 : Nat → Int32) (w3 : Nat → Int32), L_X7_takeNumber K  n 1 l2 l3 s0 tk_many tkfk tkfv tkfp tx_length txf = some (r, w0, w1, w2, w3) → ∀ (H : Heap) (locs : List Loc), va_P (dC, dI) vwCl [(tk, .inr (7, [.ref tkk, .ref tkv, .ref tkp, .int tk_many, .int tk_at, .int tk_kind, .int tk_value, .int tk_place])), (tkk, aI cI 301 tkfk), (tkv, aI cI 301 tkfv), (tkp, aI cI 301 tkfp), (tx, .inr (6, [.ref txb, .int tx_length])), (txb, aI cI 300 txf)] H → va_D A [(tk, .inr (7, [.ref tkk, .ref tkv, .ref tkp, .int tk_many, .int tk_at, .int tk_kind, .int tk_value, .int tk_place])), (tkk, aI cI 301 tkfk), (tkv, aI cI 301 tkfv), (tkp, aI cI 301 tkfp), (tx, .inr (6, [.ref txb, .int tx_length])), (txb, aI cI 300 txf)] → va_S A ss_.heap H locs → ∀ ls : Array Slot, lv_has ls 4 [(0, .ref tk), (1, .ref tx), (2, .int l2), (3, .int l3)] → W pp_ l ee_ (headSpec wsX7_takeNumber ({ frames := 1, cells := 0, slots := 0, locals := 23 })).room ss_ mm_ #[.ref tk, .ref tx, .int y2] below meth cc_ H locs 0 0 (MQ below (va_Qi (fun (r_ : Int32) (_ : Unit) => r_ = r) (BE dC dI A (fun _ => [(tk, .inr (7, [.ref tkk, .ref tkv, .ref tkp, .int w0, .int tk_at, .int tk_kind, .int tk_value, .int tk_place])), (tkk, aI cI 301 w1), (tkv, aI cI 301 w2), (tkp, aI cI 301 w3), (tx, .inr (6, [.ref txb, .int tx_length])), (txb, aI cI 300 txf)])) A) #[.ref tk, .ref tx, .int y2] ss_ 0 0 A) (F0 mm_ 2 ls [])) ∧ (∀ (l2 : Int32) (l3 : Int32) (s0 : Int32) (tk_many : Int32) (tkfk : Nat → Int32) (tkfv : Nat → Int32) (tkfp : Nat → Int32) (tx_length : Int32) (txf : Nat → Int32) (r : Int32) (w0 : Int32) (w1 : Nat → Int32) (w2 : Nat → Int32) (w3 : Nat → Int32), L_X7_takeNumber K  n 2 l2 l3 s0 tk_many tkfk tkfv tkfp tx_length txf = some (r, w0, w1, w2, w3) → ∀ (H : Heap) (locs : List Loc), va_P (dC, dI) vwCl [(tk, .inr (7, [.ref tkk, .ref tkv, .ref tkp, .int tk_many, .int tk_at, .int tk_kind, .int tk_value, .int tk_place])), (tkk, aI cI 301 tkfk), (tkv, aI cI 301 tkfv), (tkp, aI cI 301 tkfp), (tx, .inr (6, [.ref txb, .int tx_length])), (txb, aI cI 300 txf)] H → va_D A [(tk, .inr (7, [.ref tkk, .ref tkv, .ref tkp, .int tk_many, .int tk_at, .int tk_kind, .int tk_value, .int tk_place])), (tkk, aI cI 301 tkfk), (tkv, aI cI 301 tkfv), (tkp, aI cI 301 tkfp), (tx, .inr (6, [.ref txb, .int tx_length])), (txb, aI cI 300 txf)] → va_S A ss_.heap H locs → ∀ ls : Array Slot, lv_has ls 4 [(0, .ref tk), (1, .ref tx), (2, .int l2), (3, .int l3)] → W pp_ l ee_ (headSpec wsX7_takeNumber ({ frames := 1, cells := 0, slots := 0, locals := 23 })).room ss_ mm_ #[.ref tk, .ref tx, .int y2] below meth cc_ H locs 0 0 (MQ below (va_Qi (fun (r_ : Int32) (_ : Unit) => r_ = r) (BE dC dI A (fun _ => [(tk, .inr (7, [.ref tkk, .ref tkv, .ref tkp, .int w0, .int tk_at, .int tk_kind, .int tk_value, .int tk_place])), (tkk, aI cI 301 w1), (tkv, aI cI 301 w2), (tkp, aI cI 301 w3), (tx, .inr (6, [.ref txb, .int tx_length])), (txb, aI cI 300 txf)])) A) #[.ref tk, .ref tx, .int y2] ss_ 0 0 A) (F0 mm_ 27 ls [])) ∧ (∀ (l2 : Int32) (l3 : Int32) (s0 : Int32) (tk_many : Int32) (tkfk : Nat → Int32) (tkfv : Nat → Int32) (tkfp : Nat → Int32) (tx_length : Int32) (txf : Nat → Int32) (r : Int32) (w0 : Int32) (w1 : Nat → Int32) (w2 : Nat → Int32) (w3 : Nat → Int32), L_X7_takeNumber K  n 3 l2 l3 s0 tk_many tkfk tkfv tkfp tx_length txf = some (r, w0, w1, w2, w3) → ∀ (H : Heap) (locs : List Loc), va_P (dC, dI) vwCl [(tk, .inr (7, [.ref tkk, .ref tkv, .ref tkp, .int tk_many, .int tk_at, .int tk_kind, .int tk_value, .int tk_place])), (tkk, aI cI 301 tkfk), (tkv, aI cI 301 tkfv), (tkp, aI cI 301 tkfp), (tx, .inr (6, [.ref txb, .int tx_length])), (txb, aI cI 300 txf)] H → va_D A [(tk, .inr (7, [.ref tkk, .ref tkv, .ref tkp, .int tk_many, .int tk_at, .int tk_kind, .int tk_value, .int tk_place])), (tkk, aI cI 301 tkfk), (tkv, aI cI 301 tkfv), (tkp, aI cI 301 tkfp), (tx, .inr (6, [.ref txb, .int tx_length])), (txb, aI cI 300 txf)] → va_S A ss_.heap H locs → ∀ ls : Array Slot, lv_has ls 4 [(0, .ref tk), (1, .ref tx), (2, .int l2), (3, .int l3)] → W pp_ l ee_ (headSpec wsX7_takeNumber ({ frames := 1, cells := 0, slots := 0, locals := 23 })).room ss_ mm_ #[.ref tk, .ref tx, .int y2] below meth cc_ H locs 0 0 (MQ below (va_Qi (fun (r_ : Int32) (_ : Unit) => r_ = r) (BE dC dI A (fun _ => [(tk, .inr (7, [.ref tkk, .ref tkv, .ref tkp, .int w0, .int tk_at, .int tk_kind, .int tk_value, .int tk_place])), (tkk, aI cI 301 w1), (tkv, aI cI 301 w2), (tkp, aI cI 301 w3), (tx, .inr (6, [.ref txb, .int tx_length])), (txb, aI cI 300 txf)])) A) #[.ref tk, .ref tx, .int y2] ss_ 0 0 A) (F0 mm_ 40 ls [.int s0, .ref tk])) := by
    intro n
    induction n with
    | zero => exact ⟨(fun _ _ _ _ _ _ _ _ _ _ _ _ _ _ hF => absurd hF (fun e => by cases e)), (fun _ _ _ _ _ _ _ _ _ _ _ _ _ _ hF => absurd hF (fun e => by cases e)), (fun _ _ _ _ _ _ _ _ _ _ _ _ _ _ hF => absurd hF (fun e => by cases e)), (fun _ _ _ _ _ _ _ _ _ _ _ _ _ _ hF => absurd hF (fun e => by cases e))⟩
    | succ n ih =>
      obtain ⟨ih0, ih1, ih2, ih3⟩ := ih
      refine ⟨?_, ?_, ?_, ?_⟩
      · intro l2 l3 s0 tk_many tkfk tkfv tkfp tx_length txf r w0 w1 w2 w3 hB H locs hP hD hS ls hl
        replace hB := Eq.trans (L_X7_takeNumber_e0 K  n l2 l3 s0 tk_many tkfk tkfv tkfp tx_length txf).symm hB
        unfold B_X7_takeNumber_0 at hB
        refine lv_iload_n hx hb dX7_takeNumber_0 rfl (lv_at hl 2 rfl) ?_
        refine lv_istore_n (lv' := [(3, .int l2), (0, .ref tk), (1, .ref tx), (2, .int l2)]) hx hb dX7_takeNumber_1 rfl hl (by decide) rfl (fun ls hl => ?_)
        exact ih1 l2 l2 0 tk_many tkfk tkfv tkfp tx_length txf _ _ _ _ _ hB _ _ (hP.sub (ws' := [(tk, .inr (7, [.ref tkk, .ref tkv, .ref tkp, .int tk_many, .int tk_at, .int tk_kind, .int tk_value, .int tk_place])), (tkk, aI cI 301 tkfk), (tkv, aI cI 301 tkfv), (tkp, aI cI 301 tkfp), (tx, .inr (6, [.ref txb, .int tx_length])), (txb, aI cI 300 txf)]) [0, 1, 2, 3, 4, 5] rfl) (hD.sub (ws' := [(tk, .inr (7, [.ref tkk, .ref tkv, .ref tkp, .int tk_many, .int tk_at, .int tk_kind, .int tk_value, .int tk_place])), (tkk, aI cI 301 tkfk), (tkv, aI cI 301 tkfv), (tkp, aI cI 301 tkfp), (tx, .inr (6, [.ref txb, .int tx_length])), (txb, aI cI 300 txf)]) [0, 1, 2, 3, 4, 5] (by decide) rfl) hS ls (lv_sub hl [1, 2, 3, 0] rfl)
      · intro l2 l3 s0 tk_many tkfk tkfv tkfp tx_length txf r w0 w1 w2 w3 hB H locs hP hD hS ls hl
        replace hB := Eq.trans (L_X7_takeNumber_e1 K  n l2 l3 s0 tk_many tkfk tkfv tkfp tx_length txf).symm hB
        unfold B_X7_takeNumber_1 at hB
        refine lv_iload_n hx hb dX7_takeNumber_2 rfl (lv_at hl 3 rfl) ?_
        refine lv_aload_n hx hb dX7_takeNumber_3 rfl (lv_at hl 1 rfl) ?_
        refine va_get (D := (dC, dI)) (ci := 6) (v := .int tx_length) (C := RX6) (T := TX6) (N := 2) hx hb hts hiX6 hown hK hP 4 rfl rfl 1 (by decide) (hts (.fieldLink RX7 25 "WatchedPrograms$Text" "length" "I") (by decide +kernel)) (fun _ h9 => h9) rfl dX7_takeNumber_4 ?_
        refine lv_icmp_ge (tgt := 27) hx hb dX7_takeNumber_7 (by decide) (fun c_1 => ?_) (fun c_1 => ?_)
        · rw [if_pos c_1] at hB
          exact ih2 l2 l3 0 tk_many tkfk tkfv tkfp tx_length txf _ _ _ _ _ hB _ _ (hP.sub (ws' := [(tk, .inr (7, [.ref tkk, .ref tkv, .ref tkp, .int tk_many, .int tk_at, .int tk_kind, .int tk_value, .int tk_place])), (tkk, aI cI 301 tkfk), (tkv, aI cI 301 tkfv), (tkp, aI cI 301 tkfp), (tx, .inr (6, [.ref txb, .int tx_length])), (txb, aI cI 300 txf)]) [0, 1, 2, 3, 4, 5] rfl) (hD.sub (ws' := [(tk, .inr (7, [.ref tkk, .ref tkv, .ref tkp, .int tk_many, .int tk_at, .int tk_kind, .int tk_value, .int tk_place])), (tkk, aI cI 301 tkfk), (tkv, aI cI 301 tkfv), (tkp, aI cI 301 tkfp), (tx, .inr (6, [.ref txb, .int tx_length])), (txb, aI cI 300 txf)]) [0, 1, 2, 3, 4, 5] (by decide) rfl) hS ls (lv_sub hl [0, 1, 2, 3] rfl)
        · rw [if_neg c_1] at hB
          refine lv_aload_n hx hb dX7_takeNumber_10 rfl (lv_at hl 1 rfl) ?_
          refine lv_iload_n hx hb dX7_takeNumber_11 rfl (lv_at hl 3 rfl) ?_
          rcases hc_3 : F_X6_at K l3 tx_length txf with _ | r_4
          · rw [hc_3] at hB; cases hB
          rw [hc_3] at hB
          simp only [Option.bind_some] at hB
          have hFc := va_free (wc := [(tx, .inr (6, [.ref txb, .int tx_length])), (txb, aI cI 300 txf)]) hD hS hA [4, 5] rfl
          refine zCi (wr := [(tk, .inr (7, [.ref tkk, .ref tkv, .ref tkp, .int tk_many, .int tk_at, .int tk_kind, .int tk_value, .int tk_place])), (tkk, aI cI 301 tkfk), (tkv, aI cI 301 tkfv), (tkp, aI cI 301 tkfp)]) hP hD hS hFc [4, 5] [0, 1, 2, 3] rfl rfl (by decide) (by decide) (va_runV (As := [.int l3]) (rest := []) ⟨hx, hb, hml, hown, hts⟩ (c_X6_at l dC dI cI cJ cS H.size K tx l3 txb tx_length txf r_4 hc_3) (cwV 1 hts gX7_takeNumber_X6_at rfl rfl rfl (by decide +kernel) ⟨Nat.le_of_ble_eq_true rfl, Nat.le_of_ble_eq_true rfl⟩) (preEV (hP.sub (ws' := [(tx, .inr (6, [.ref txb, .int tx_length])), (txb, aI cI 300 txf)]) [4, 5] rfl) hE (hD.sub (ws' := [(tx, .inr (6, [.ref txb, .int tx_length])), (txb, aI cI 300 txf)]) [4, 5] (by decide) rfl) 0 (ci := 6) rfl rfl) rfl rfl hl.1 rfl (lv_room (Nat.le_of_ble_eq_true rfl)) dX7_takeNumber_12 ⟨Nat.le_refl _, Nat.le_refl _⟩) (fun rr_5 _ H locs hr_6 hP hD hS => ?_)
          obtain rfl := (hr_6).symm
          have hP : va_P (dC, dI) vwCl [(tk, .inr (7, [.ref tkk, .ref tkv, .ref tkp, .int tk_many, .int tk_at, .int tk_kind, .int tk_value, .int tk_place])), (tkk, aI cI 301 tkfk), (tkv, aI cI 301 tkfv), (tkp, aI cI 301 tkfp), (tx, .inr (6, [.ref txb, .int tx_length])), (txb, aI cI 300 txf)] H := hP
          have hD : va_D A [(tk, .inr (7, [.ref tkk, .ref tkv, .ref tkp, .int tk_many, .int tk_at, .int tk_kind, .int tk_value, .int tk_place])), (tkk, aI cI 301 tkfk), (tkv, aI cI 301 tkfv), (tkp, aI cI 301 tkfp), (tx, .inr (6, [.ref txb, .int tx_length])), (txb, aI cI 300 txf)] := hD
          rcases hc_8 : F_X7_isFigure K r_4 with _ | r_9
          · rw [hc_8] at hB; cases hB
          rw [hc_8] at hB
          simp only [Option.bind_some] at hB
          have hFc := va_free (wc := []) hD hS hA [] rfl
          refine zCi (wr := [(tk, .inr (7, [.ref tkk, .ref tkv, .ref tkp, .int tk_many, .int tk_at, .int tk_kind, .int tk_value, .int tk_place])), (tkk, aI cI 301 tkfk), (tkv, aI cI 301 tkfv), (tkp, aI cI 301 tkfp), (tx, .inr (6, [.ref txb, .int tx_length])), (txb, aI cI 300 txf)]) hP hD hS hFc [] [0, 1, 2, 3, 4, 5] rfl rfl (by decide) (by decide) (va_runS (As := [.int r_4]) (rest := []) ⟨hx, hb, hml, hown, hts⟩ (c_X7_isFigure l dC dI cI cJ cS H.size K r_4 r_9 hc_8) (va_cwS 1 hts gX7_takeNumber_X7_isFigure rfl rfl rfl (by decide +kernel) ⟨Nat.le_of_ble_eq_true rfl, Nat.le_of_ble_eq_true rfl⟩) (preE (hP.sub (ws' := []) [] rfl) hE (hD.sub (ws' := []) [] (by decide) rfl)) rfl rfl hl.1 rfl (lv_room (Nat.le_of_ble_eq_true rfl)) dX7_takeNumber_15 ⟨Nat.le_refl _, Nat.le_refl _⟩) (fun rr_10 _ H locs hr_11 hP hD hS => ?_)
          obtain rfl := (hr_11).symm
          have hP : va_P (dC, dI) vwCl [(tk, .inr (7, [.ref tkk, .ref tkv, .ref tkp, .int tk_many, .int tk_at, .int tk_kind, .int tk_value, .int tk_place])), (tkk, aI cI 301 tkfk), (tkv, aI cI 301 tkfv), (tkp, aI cI 301 tkfp), (tx, .inr (6, [.ref txb, .int tx_length])), (txb, aI cI 300 txf)] H := hP
          have hD : va_D A [(tk, .inr (7, [.ref tkk, .ref tkv, .ref tkp, .int tk_many, .int tk_at, .int tk_kind, .int tk_value, .int tk_place])), (tkk, aI cI 301 tkfk), (tkv, aI cI 301 tkfv), (tkp, aI cI 301 tkfp), (tx, .inr (6, [.ref txb, .int tx_length])), (txb, aI cI 300 txf)] := hD
          refine lv_if_eq (tgt := 27) hx hb dX7_takeNumber_18 (by decide) (fun c_12 => ?_) (fun c_12 => ?_)
          · rw [if_pos c_12] at hB
            exact ih2 l2 l3 0 tk_many tkfk tkfv tkfp tx_length txf _ _ _ _ _ hB _ _ (hP.sub (ws' := [(tk, .inr (7, [.ref tkk, .ref tkv, .ref tkp, .int tk_many, .int tk_at, .int tk_kind, .int tk_value, .int tk_place])), (tkk, aI cI 301 tkfk), (tkv, aI cI 301 tkfv), (tkp, aI cI 301 tkfp), (tx, .inr (6, [.ref txb, .int tx_length])), (txb, aI cI 300 txf)]) [0, 1, 2, 3, 4, 5] rfl) (hD.sub (ws' := [(tk, .inr (7, [.ref tkk, .ref tkv, .ref tkp, .int tk_many, .int tk_at, .int tk_kind, .int tk_value, .int tk_place])), (tkk, aI cI 301 tkfk), (tkv, aI cI 301 tkfv), (tkp, aI cI 301 tkfp), (tx, .inr (6, [.ref txb, .int tx_length])), (txb, aI cI 300 txf)]) [0, 1, 2, 3, 4, 5] (by decide) rfl) hS ls (lv_sub hl [0, 1, 2, 3] rfl)
          · rw [if_neg c_12] at hB
            refine lv_iinc (v := (l3 + 1)) (lv' := [(3, .int (l3 + 1)), (0, .ref tk), (1, .ref tx), (2, .int l2)]) hx hb dX7_takeNumber_21 hl (k := 3) rfl (rfl) (by decide) rfl (fun ls hl => ?_)
            refine lv_goto (tgt := 2) hx hb dX7_takeNumber_24 (by decide) ?_
            exact ih1 l2 (l3 + 1) 0 tk_many tkfk tkfv tkfp tx_length txf _ _ _ _ _ hB _ _ (hP.sub (ws' := [(tk, .inr (7, [.ref tkk, .ref tkv, .ref tkp, .int tk_many, .int tk_at, .int tk_kind, .int tk_value, .int tk_place])), (tkk, aI cI 301 tkfk), (tkv, aI cI 301 tkfv), (tkp, aI cI 301 tkfp), (tx, .inr (6, [.ref txb, .int tx_length])), (txb, aI cI 300 txf)]) [0, 1, 2, 3, 4, 5] rfl) (hD.sub (ws' := [(tk, .inr (7, [.ref tkk, .ref tkv, .ref tkp, .int tk_many, .int tk_at, .int tk_kind, .int tk_value, .int tk_place])), (tkk, aI cI 301 tkfk), (tkv, aI cI 301 tkfv), (tkp, aI cI 301 tkfp), (tx, .inr (6, [.ref txb, .int tx_length])), (txb, aI cI 300 txf)]) [0, 1, 2, 3, 4, 5] (by decide) rfl) hS ls (lv_sub hl [1, 2, 3, 0] rfl)
      · intro l2 l3 s0 tk_many tkfk tkfv tkfp tx_length txf r w0 w1 w2 w3 hB H locs hP hD hS ls hl
        replace hB := Eq.trans (L_X7_takeNumber_e2 K  n l2 l3 s0 tk_many tkfk tkfv tkfp tx_length txf).symm hB
        unfold B_X7_takeNumber_2 at hB
        refine lv_aload_n hx hb dX7_takeNumber_27 rfl (lv_at hl 0 rfl) ?_
        refine lv_iload_n hx hb dX7_takeNumber_28 rfl (lv_at hl 3 rfl) ?_
        refine lv_iload_n hx hb dX7_takeNumber_29 rfl (lv_at hl 2 rfl) ?_
        refine lv_iconst (v := 1) hx hb dX7_takeNumber_30 (by decide) ?_
        refine lv_iadd hx hb dX7_takeNumber_31 ?_
        refine lv_icmp_ne (tgt := 39) hx hb dX7_takeNumber_32 (by decide) (fun c_1 => ?_) (fun c_1 => ?_)
        · rw [if_neg c_1] at hB
          refine lv_iconst (v := 1) hx hb dX7_takeNumber_39 (by decide) ?_
          exact ih3 l2 l3 1 tk_many tkfk tkfv tkfp tx_length txf _ _ _ _ _ hB _ _ (hP.sub (ws' := [(tk, .inr (7, [.ref tkk, .ref tkv, .ref tkp, .int tk_many, .int tk_at, .int tk_kind, .int tk_value, .int tk_place])), (tkk, aI cI 301 tkfk), (tkv, aI cI 301 tkfv), (tkp, aI cI 301 tkfp), (tx, .inr (6, [.ref txb, .int tx_length])), (txb, aI cI 300 txf)]) [0, 1, 2, 3, 4, 5] rfl) (hD.sub (ws' := [(tk, .inr (7, [.ref tkk, .ref tkv, .ref tkp, .int tk_many, .int tk_at, .int tk_kind, .int tk_value, .int tk_place])), (tkk, aI cI 301 tkfk), (tkv, aI cI 301 tkfv), (tkp, aI cI 301 tkfp), (tx, .inr (6, [.ref txb, .int tx_length])), (txb, aI cI 300 txf)]) [0, 1, 2, 3, 4, 5] (by decide) rfl) hS ls (lv_sub hl [0, 1, 2, 3] rfl)
        · rw [if_pos c_1] at hB
          refine lv_iconst (v := 3) hx hb dX7_takeNumber_35 (by decide) ?_
          refine lv_goto (tgt := 40) hx hb dX7_takeNumber_36 (by decide) ?_
          exact ih3 l2 l3 3 tk_many tkfk tkfv tkfp tx_length txf _ _ _ _ _ hB _ _ (hP.sub (ws' := [(tk, .inr (7, [.ref tkk, .ref tkv, .ref tkp, .int tk_many, .int tk_at, .int tk_kind, .int tk_value, .int tk_place])), (tkk, aI cI 301 tkfk), (tkv, aI cI 301 tkfv), (tkp, aI cI 301 tkfp), (tx, .inr (6, [.ref txb, .int tx_length])), (txb, aI cI 300 txf)]) [0, 1, 2, 3, 4, 5] rfl) (hD.sub (ws' := [(tk, .inr (7, [.ref tkk, .ref tkv, .ref tkp, .int tk_many, .int tk_at, .int tk_kind, .int tk_value, .int tk_place])), (tkk, aI cI 301 tkfk), (tkv, aI cI 301 tkfv), (tkp, aI cI 301 tkfp), (tx, .inr (6, [.ref txb, .int tx_length])), (txb, aI cI 300 txf)]) [0, 1, 2, 3, 4, 5] (by decide) rfl) hS ls (lv_sub hl [0, 1, 2, 3] rfl)
      · intro l2 l3 s0 tk_many tkfk tkfv tkfp tx_length txf r w0 w1 w2 w3 hB H locs hP hD hS ls hl
        replace hB := Eq.trans (L_X7_takeNumber_e3 K  n l2 l3 s0 tk_many tkfk tkfv tkfp tx_length txf).symm hB
        unfold B_X7_takeNumber_3 at hB
        refine lv_aload_n hx hb dX7_takeNumber_40 rfl (lv_at hl 1 rfl) ?_
        refine lv_iload_n hx hb dX7_takeNumber_41 rfl (lv_at hl 2 rfl) ?_
        rcases hc_2 : F_X6_at K l2 tx_length txf with _ | r_3
        · rw [hc_2] at hB; cases hB
        rw [hc_2] at hB
        simp only [Option.bind_some] at hB
        have hFc := va_free (wc := [(tx, .inr (6, [.ref txb, .int tx_length])), (txb, aI cI 300 txf)]) hD hS hA [4, 5] rfl
        refine zCi (wr := [(tk, .inr (7, [.ref tkk, .ref tkv, .ref tkp, .int tk_many, .int tk_at, .int tk_kind, .int tk_value, .int tk_place])), (tkk, aI cI 301 tkfk), (tkv, aI cI 301 tkfv), (tkp, aI cI 301 tkfp)]) hP hD hS hFc [4, 5] [0, 1, 2, 3] rfl rfl (by decide) (by decide) (va_runV (As := [.int l2]) (rest := [.int s0, .ref tk]) ⟨hx, hb, hml, hown, hts⟩ (c_X6_at l dC dI cI cJ cS H.size K tx l2 txb tx_length txf r_3 hc_2) (cwV 1 hts gX7_takeNumber_X6_at rfl rfl rfl (by decide +kernel) ⟨Nat.le_of_ble_eq_true rfl, Nat.le_of_ble_eq_true rfl⟩) (preEV (hP.sub (ws' := [(tx, .inr (6, [.ref txb, .int tx_length])), (txb, aI cI 300 txf)]) [4, 5] rfl) hE (hD.sub (ws' := [(tx, .inr (6, [.ref txb, .int tx_length])), (txb, aI cI 300 txf)]) [4, 5] (by decide) rfl) 0 (ci := 6) rfl rfl) rfl rfl hl.1 rfl (lv_room (Nat.le_of_ble_eq_true rfl)) dX7_takeNumber_42 ⟨Nat.le_refl _, Nat.le_refl _⟩) (fun rr_4 _ H locs hr_5 hP hD hS => ?_)
        obtain rfl := (hr_5).symm
        have hP : va_P (dC, dI) vwCl [(tk, .inr (7, [.ref tkk, .ref tkv, .ref tkp, .int tk_many, .int tk_at, .int tk_kind, .int tk_value, .int tk_place])), (tkk, aI cI 301 tkfk), (tkv, aI cI 301 tkfv), (tkp, aI cI 301 tkfp), (tx, .inr (6, [.ref txb, .int tx_length])), (txb, aI cI 300 txf)] H := hP
        have hD : va_D A [(tk, .inr (7, [.ref tkk, .ref tkv, .ref tkp, .int tk_many, .int tk_at, .int tk_kind, .int tk_value, .int tk_place])), (tkk, aI cI 301 tkfk), (tkv, aI cI 301 tkfv), (tkp, aI cI 301 tkfp), (tx, .inr (6, [.ref txb, .int tx_length])), (txb, aI cI 300 txf)] := hD
        refine lv_bipush (v := 48) hx hb dX7_takeNumber_45 (by decide) ?_
        refine lv_isub hx hb dX7_takeNumber_47 ?_
        refine lv_iload_n hx hb dX7_takeNumber_48 rfl (lv_at hl 2 rfl) ?_
        rcases hc_7 : F_X7_add K s0 (r_3 - 48) l2 tk_many tkfk tkfv tkfp with _ | o_6
        · rw [hc_7] at hB; cases hB
        rw [hc_7] at hB
        obtain ⟨x_8, x_9, x_10, x_11⟩ := o_6
        simp only [Option.bind_some] at hB
        have hFc := va_free (wc := [(tk, .inr (7, [.ref tkk, .ref tkv, .ref tkp, .int tk_many, .int tk_at, .int tk_kind, .int tk_value, .int tk_place])), (tkk, aI cI 301 tkfk), (tkv, aI cI 301 tkfv), (tkp, aI cI 301 tkfp)]) hD hS hA [0, 1, 2, 3] rfl
        refine zCv (wr := [(tx, .inr (6, [.ref txb, .int tx_length])), (txb, aI cI 300 txf)]) hP hD hS hFc [0, 1, 2, 3] [4, 5] rfl rfl (by decide) (by decide) (va_runV (As := [.int s0, .int (r_3 - 48), .int l2]) (rest := []) ⟨hx, hb, hml, hown, hts⟩ (c_X7_add l dC dI cI cJ cS H.size K tk s0 (r_3 - 48) l2 tkk tkv tkp tk_many tk_at tk_kind tk_value tk_place tkfk tkfv tkfp x_8 x_9 x_10 x_11 hc_7) (cwV 3 hts gX7_takeNumber_X7_add rfl rfl rfl (by decide +kernel) ⟨Nat.le_of_ble_eq_true rfl, Nat.le_of_ble_eq_true rfl⟩) (preEV (hP.sub (ws' := [(tk, .inr (7, [.ref tkk, .ref tkv, .ref tkp, .int tk_many, .int tk_at, .int tk_kind, .int tk_value, .int tk_place])), (tkk, aI cI 301 tkfk), (tkv, aI cI 301 tkfv), (tkp, aI cI 301 tkfp)]) [0, 1, 2, 3] rfl) hE (hD.sub (ws' := [(tk, .inr (7, [.ref tkk, .ref tkv, .ref tkp, .int tk_many, .int tk_at, .int tk_kind, .int tk_value, .int tk_place])), (tkk, aI cI 301 tkfk), (tkv, aI cI 301 tkfv), (tkp, aI cI 301 tkfp)]) [0, 1, 2, 3] (by decide) rfl) 0 (ci := 7) rfl rfl) rfl rfl hl.1 rfl (lv_room (Nat.le_of_ble_eq_true rfl)) dX7_takeNumber_49 ⟨Nat.le_refl _, Nat.le_refl _⟩) (fun _ H locs hr_13 hP hD hS => ?_)
        have hP : va_P (dC, dI) vwCl [(tx, .inr (6, [.ref txb, .int tx_length])), (txb, aI cI 300 txf), (tk, .inr (7, [.ref tkk, .ref tkv, .ref tkp, .int x_8, .int tk_at, .int tk_kind, .int tk_value, .int tk_place])), (tkk, aI cI 301 x_9), (tkv, aI cI 301 x_10), (tkp, aI cI 301 x_11)] H := hP
        have hD : va_D A [(tx, .inr (6, [.ref txb, .int tx_length])), (txb, aI cI 300 txf), (tk, .inr (7, [.ref tkk, .ref tkv, .ref tkp, .int x_8, .int tk_at, .int tk_kind, .int tk_value, .int tk_place])), (tkk, aI cI 301 x_9), (tkv, aI cI 301 x_10), (tkp, aI cI 301 x_11)] := hD
        refine lv_iload_n hx hb dX7_takeNumber_52 rfl (lv_at hl 3 rfl) ?_
        simp only [Option.some.injEq, Prod.mk.injEq] at hB
        obtain ⟨rfl, rfl, rfl, rfl, rfl⟩ := hB
        have hP9 := (hP.sub (ws' := [(tk, .inr (7, [.ref tkk, .ref tkv, .ref tkp, .int x_8, .int tk_at, .int tk_kind, .int tk_value, .int tk_place])), (tkk, aI cI 301 x_9), (tkv, aI cI 301 x_10), (tkp, aI cI 301 x_11), (tx, .inr (6, [.ref txb, .int tx_length])), (txb, aI cI 300 txf)]) [2, 3, 4, 5, 0, 1] rfl)
        have hD9 := (hD.sub (ws' := [(tk, .inr (7, [.ref tkk, .ref tkv, .ref tkp, .int x_8, .int tk_at, .int tk_kind, .int tk_value, .int tk_place])), (tkk, aI cI 301 x_9), (tkv, aI cI 301 x_10), (tkp, aI cI 301 x_11), (tx, .inr (6, [.ref txb, .int tx_length])), (txb, aI cI 300 txf)]) [2, 3, 4, 5, 0, 1] (by decide) rfl)
        exact W.iret (v := l3) hx hb hr (fun tt_ ht hW => ⟨⟨_, (), rfl, rfl, by rw [ht]; exact hP9, hD9⟩, hS.F ht⟩) hS.2.2 dX7_takeNumber_53
  exact (key K).1 y2 0 0 tk_many tkfk tkfv tkfp tx_length txf r w0 w1 w2 w3 hF _ _ hP hD hS ls hl
def B_X5_reset_0 (K : Nat)  (rec : Nat → Nat → Int32 → (List Nat) → (Nat → Nat → Int32) → Option ((Nat → Nat → Int32))) (a0 : Nat) (l1 : Int32) (LL : List Nat) (sv : Nat → Nat → Int32) : Option ((Nat → Nat → Int32)) := if a0 ∈ LL then (some ((sU (sU (sU (sU (sU (sU (sU (sU (sU sv a0 0 0) a0 1 0) a0 2 0) a0 3 l1) a0 4 0) a0 5 0) a0 6 0) a0 7 0) a0 8 0))) else none
def L_X5_reset (K : Nat)  : Nat → Nat → Nat → Int32 → (List Nat) → (Nat → Nat → Int32) → Option ((Nat → Nat → Int32))
  | 0 => fun _ _ _ _ _ => none
  | n + 1 => fun c a0 l1 LL sv => match c with | 0 => B_X5_reset_0 K  (L_X5_reset K  n) a0 l1 LL sv | _ => none
theorem L_X5_reset_e0 (K : Nat)  (n : Nat) (a0 : Nat) (l1 : Int32) (LL : List Nat) (sv : Nat → Nat → Int32) : L_X5_reset K  (n + 1) 0 a0 l1 LL sv = B_X5_reset_0 K  (L_X5_reset K  n) a0 l1 LL sv := rfl
def F_X5_reset (K : Nat) (a0 : Nat) (l1 : Int32) (LL : List Nat) (sv : Nat → Nat → Int32) : Option ((Nat → Nat → Int32)) := L_X5_reset K K 0 a0 l1 LL sv
set_option maxHeartbeats 2000000 in
set_option maxRecDepth 100000 in
theorem c_X5_reset (l : Launch) (dC : Nat → ClassId) (dI : Nat → Nat → Nat) (cI cJ cS : ClassId) (sz K : Nat) (sa : Nat) (y1 : Int32) (LL : List Nat) (sv : Nat → Nat → Int32) (w0 : Nat → Nat → Int32) (hF : F_X5_reset K sa y1 LL sv = some (w0)) : Met l yX5_reset wsX5_reset ({ frames := 0, cells := 0, slots := 0, locals := 0 }) (va_Pc [.ref sa, .int y1] (PE dC dI cI cJ cS ([] ++ va_pl LL (sE sv)) sz)) (va_Qv (fun (_ : Unit) => True) (BE dC dI (va_A ([] ++ va_pl LL (sE sv)) sz) (fun _ => ([] ++ va_pl LL (sE w0)))) (va_A ([] ++ va_pl LL (sE sv)) sz)) 0 0 (va_A ([] ++ va_pl LL (sE sv)) sz) := by
  refine Met.ofW (cc := cX5_reset) (maxL := 2) (ret := none) (by decide) rfl ?_
  intro pp_ ee_ ss_ mm_ args below meth cc_ s₁ B hml hv
  obtain ⟨rfl, hsz, hP, hE, hD0⟩ := hv
  have hx := B.exec
  have hb := B.bytes
  have hr := B.returns
  have hts := atoms_spec (ws := wsX5_reset) B.pre
  have hown : ss_.vm.findClass RX5 = some mm_.cls := findClass_of_methodNamed B.named
  have hlocks := B.notSynchronized
  have hK := hE.1
  have hiX5 : ∀ w ∈ wsX50, w ∈ wsX5_reset := fun _ h => (List.mem_cons_of_mem _ (List.mem_append_right _ h))
  subst hsz
  have hD := hD0.self (sz := ss_.heap.size)
  generalize hAe : va_A ([] ++ va_pl LL (sE sv)) ss_.heap.size = A at hD ⊢
  have hA : ∀ q : Nat, ss_.heap.size ≤ q → A q := fun q h => by rw [← hAe]; exact Or.inr h
  have hS : va_S A ss_.heap ss_.heap [] := va_S.rf
  have hl := lv_entry ([.ref sa, .int y1]) (n := 2) (Nat.le_of_ble_eq_true rfl)
  rw [lg_entry_eq]
  generalize (lg_sl ([.ref sa, .int y1]) ++ List.replicate (2 - (lg_sl ([.ref sa, .int y1])).length) Slot.unset).toArray = ls at hl ⊢
  have hl : lv_has ls 2 [(0, .ref sa), (1, .int y1)] := hl
  have key : ∀ n : Nat, (∀ (a0 : Nat) (l1 : Int32) (LL : List Nat) (sv : Nat → Nat → Int32) (w0 : Nat → Nat → Int32), L_X5_reset K  n 0 a0 l1 LL sv = some (w0) → ∀ (H : Heap) (locs : List Loc), va_P (dC, dI) vwCl ([] ++ va_pl LL (sE sv)) H → va_D A ([] ++ va_pl LL (sE sv)) → va_S A ss_.heap H locs → ∀ ls : Array Slot, lv_has ls 2 [(0, .ref a0), (1, .int l1)] → W pp_ l ee_ (headSpec wsX5_reset ({ frames := 0, cells := 0, slots := 0, locals := 0 })).room ss_ mm_ #[.ref sa, .int y1] below meth cc_ H locs 0 0 (MQ below (va_Qv (fun (_ : Unit) => True) (BE dC dI A (fun _ => ([] ++ va_pl LL (sE w0)))) A) #[.ref sa, .int y1] ss_ 0 0 A) (F0 mm_ 0 ls [])) := by
    intro n
    induction n with
    | zero => exact fun _ _ _ _ _ hF => absurd hF (fun e => by cases e)
    | succ n ih =>
      intro a0 l1 LL sv w0 hB H locs hP hD hS ls hl
      replace hB := Eq.trans (L_X5_reset_e0 K  n a0 l1 LL sv).symm hB
      unfold B_X5_reset_0 at hB
      by_cases hm_1 : a0 ∈ LL
      case neg => rw [if_neg hm_1] at hB; cases hB
      rw [if_pos hm_1] at hB
      refine lv_aload_n hx hb dX5_reset_0 rfl (lv_at hl 0 rfl) ?_
      refine lv_iconst (v := 0) hx hb dX5_reset_1 (by decide) ?_
      obtain ⟨kq_2, hkq_2⟩ := va_pl_get (X := []) (f := sE sv) hm_1
      refine va_put (D := (dC, dI)) (ci := 5) (v := .int 0) (ty := .int) (C := RX5) (T := TX5) (N := 9) hx hb hts hiX5 tyX5 tyX5_ok nmX5 hown hK hP hD hS kq_2 hkq_2 rfl 0 (by decide) (hts (.fieldLink RX5 9 "WatchedPrograms$Statement" "kind" "I") (by decide +kernel)) (fun _ h9 => h9) rfl (by decide +kernel) rfl rfl (Nat.le_of_ble_eq_true rfl) dX5_reset_2 (fun H locs hP_ hD_ hS => ?_)
      rw [va_pl_set hD hm_1 hkq_2] at hP_ hD_
      have hP := (congrArg (fun z => va_P (dC, dI) vwCl ([] ++ z) H) (va_pl_congr (L := LL) (sE_up0 sv a0 0))).mp hP_
      have hD := (congrArg (fun z => va_D A ([] ++ z)) (va_pl_congr (L := LL) (sE_up0 sv a0 0))).mp hD_
      have hP : va_P (dC, dI) vwCl ([] ++ va_pl LL (sE (sU sv a0 0 0))) H := hP
      have hD : va_D A ([] ++ va_pl LL (sE (sU sv a0 0 0))) := hD
      refine lv_aload_n hx hb dX5_reset_5 rfl (lv_at hl 0 rfl) ?_
      refine lv_iconst (v := 0) hx hb dX5_reset_6 (by decide) ?_
      obtain ⟨kq_3, hkq_3⟩ := va_pl_get (X := []) (f := sE (sU sv a0 0 0)) hm_1
      refine va_put (D := (dC, dI)) (ci := 5) (v := .int 0) (ty := .int) (C := RX5) (T := TX5) (N := 9) hx hb hts hiX5 tyX5 tyX5_ok nmX5 hown hK hP hD hS kq_3 hkq_3 rfl 1 (by decide) (hts (.fieldLink RX5 13 "WatchedPrograms$Statement" "target" "I") (by decide +kernel)) (fun _ h9 => h9) rfl (by decide +kernel) rfl rfl (Nat.le_of_ble_eq_true rfl) dX5_reset_7 (fun H locs hP_ hD_ hS => ?_)
      rw [va_pl_set hD hm_1 hkq_3] at hP_ hD_
      have hP := (congrArg (fun z => va_P (dC, dI) vwCl ([] ++ z) H) (va_pl_congr (L := LL) (sE_up1 (sU sv a0 0 0) a0 0))).mp hP_
      have hD := (congrArg (fun z => va_D A ([] ++ z)) (va_pl_congr (L := LL) (sE_up1 (sU sv a0 0 0) a0 0))).mp hD_
      have hP : va_P (dC, dI) vwCl ([] ++ va_pl LL (sE (sU (sU sv a0 0 0) a0 1 0))) H := hP
      have hD : va_D A ([] ++ va_pl LL (sE (sU (sU sv a0 0 0) a0 1 0))) := hD
      refine lv_aload_n hx hb dX5_reset_10 rfl (lv_at hl 0 rfl) ?_
      refine lv_iconst (v := 0) hx hb dX5_reset_11 (by decide) ?_
      obtain ⟨kq_4, hkq_4⟩ := va_pl_get (X := []) (f := sE (sU (sU sv a0 0 0) a0 1 0)) hm_1
      refine va_put (D := (dC, dI)) (ci := 5) (v := .int 0) (ty := .int) (C := RX5) (T := TX5) (N := 9) hx hb hts hiX5 tyX5 tyX5_ok nmX5 hown hK hP hD hS kq_4 hkq_4 rfl 2 (by decide) (hts (.fieldLink RX5 16 "WatchedPrograms$Statement" "outNumber" "I") (by decide +kernel)) (fun _ h9 => h9) rfl (by decide +kernel) rfl rfl (Nat.le_of_ble_eq_true rfl) dX5_reset_12 (fun H locs hP_ hD_ hS => ?_)
      rw [va_pl_set hD hm_1 hkq_4] at hP_ hD_
      have hP := (congrArg (fun z => va_P (dC, dI) vwCl ([] ++ z) H) (va_pl_congr (L := LL) (sE_up2 (sU (sU sv a0 0 0) a0 1 0) a0 0))).mp hP_
      have hD := (congrArg (fun z => va_D A ([] ++ z)) (va_pl_congr (L := LL) (sE_up2 (sU (sU sv a0 0 0) a0 1 0) a0 0))).mp hD_
      have hP : va_P (dC, dI) vwCl ([] ++ va_pl LL (sE (sU (sU (sU sv a0 0 0) a0 1 0) a0 2 0))) H := hP
      have hD : va_D A ([] ++ va_pl LL (sE (sU (sU (sU sv a0 0 0) a0 1 0) a0 2 0))) := hD
      refine lv_aload_n hx hb dX5_reset_15 rfl (lv_at hl 0 rfl) ?_
      refine lv_iload_n hx hb dX5_reset_16 rfl (lv_at hl 1 rfl) ?_
      obtain ⟨kq_5, hkq_5⟩ := va_pl_get (X := []) (f := sE (sU (sU (sU sv a0 0 0) a0 1 0) a0 2 0)) hm_1
      refine va_put (D := (dC, dI)) (ci := 5) (v := .int l1) (ty := .int) (C := RX5) (T := TX5) (N := 9) hx hb hts hiX5 tyX5 tyX5_ok nmX5 hown hK hP hD hS kq_5 hkq_5 rfl 3 (by decide) (hts (.fieldLink RX5 19 "WatchedPrograms$Statement" "parent" "I") (by decide +kernel)) (fun _ h9 => h9) rfl (by decide +kernel) rfl rfl (Nat.le_of_ble_eq_true rfl) dX5_reset_17 (fun H locs hP_ hD_ hS => ?_)
      rw [va_pl_set hD hm_1 hkq_5] at hP_ hD_
      have hP := (congrArg (fun z => va_P (dC, dI) vwCl ([] ++ z) H) (va_pl_congr (L := LL) (sE_up3 (sU (sU (sU sv a0 0 0) a0 1 0) a0 2 0) a0 l1))).mp hP_
      have hD := (congrArg (fun z => va_D A ([] ++ z)) (va_pl_congr (L := LL) (sE_up3 (sU (sU (sU sv a0 0 0) a0 1 0) a0 2 0) a0 l1))).mp hD_
      have hP : va_P (dC, dI) vwCl ([] ++ va_pl LL (sE (sU (sU (sU (sU sv a0 0 0) a0 1 0) a0 2 0) a0 3 l1))) H := hP
      have hD : va_D A ([] ++ va_pl LL (sE (sU (sU (sU (sU sv a0 0 0) a0 1 0) a0 2 0) a0 3 l1))) := hD
      refine lv_aload_n hx hb dX5_reset_20 rfl (lv_at hl 0 rfl) ?_
      refine lv_iconst (v := 0) hx hb dX5_reset_21 (by decide) ?_
      obtain ⟨kq_6, hkq_6⟩ := va_pl_get (X := []) (f := sE (sU (sU (sU (sU sv a0 0 0) a0 1 0) a0 2 0) a0 3 l1)) hm_1
      refine va_put (D := (dC, dI)) (ci := 5) (v := .int 0) (ty := .int) (C := RX5) (T := TX5) (N := 9) hx hb hts hiX5 tyX5 tyX5_ok nmX5 hown hK hP hD hS kq_6 hkq_6 rfl 4 (by decide) (hts (.fieldLink RX5 22 "WatchedPrograms$Statement" "codeFrom" "I") (by decide +kernel)) (fun _ h9 => h9) rfl (by decide +kernel) rfl rfl (Nat.le_of_ble_eq_true rfl) dX5_reset_22 (fun H locs hP_ hD_ hS => ?_)
      rw [va_pl_set hD hm_1 hkq_6] at hP_ hD_
      have hP := (congrArg (fun z => va_P (dC, dI) vwCl ([] ++ z) H) (va_pl_congr (L := LL) (sE_up4 (sU (sU (sU (sU sv a0 0 0) a0 1 0) a0 2 0) a0 3 l1) a0 0))).mp hP_
      have hD := (congrArg (fun z => va_D A ([] ++ z)) (va_pl_congr (L := LL) (sE_up4 (sU (sU (sU (sU sv a0 0 0) a0 1 0) a0 2 0) a0 3 l1) a0 0))).mp hD_
      have hP : va_P (dC, dI) vwCl ([] ++ va_pl LL (sE (sU (sU (sU (sU (sU sv a0 0 0) a0 1 0) a0 2 0) a0 3 l1) a0 4 0))) H := hP
      have hD : va_D A ([] ++ va_pl LL (sE (sU (sU (sU (sU (sU sv a0 0 0) a0 1 0) a0 2 0) a0 3 l1) a0 4 0))) := hD
      refine lv_aload_n hx hb dX5_reset_25 rfl (lv_at hl 0 rfl) ?_
      refine lv_iconst (v := 0) hx hb dX5_reset_26 (by decide) ?_
      obtain ⟨kq_7, hkq_7⟩ := va_pl_get (X := []) (f := sE (sU (sU (sU (sU (sU sv a0 0 0) a0 1 0) a0 2 0) a0 3 l1) a0 4 0)) hm_1
      refine va_put (D := (dC, dI)) (ci := 5) (v := .int 0) (ty := .int) (C := RX5) (T := TX5) (N := 9) hx hb hts hiX5 tyX5 tyX5_ok nmX5 hown hK hP hD hS kq_7 hkq_7 rfl 5 (by decide) (hts (.fieldLink RX5 25 "WatchedPrograms$Statement" "codeTo" "I") (by decide +kernel)) (fun _ h9 => h9) rfl (by decide +kernel) rfl rfl (Nat.le_of_ble_eq_true rfl) dX5_reset_27 (fun H locs hP_ hD_ hS => ?_)
      rw [va_pl_set hD hm_1 hkq_7] at hP_ hD_
      have hP := (congrArg (fun z => va_P (dC, dI) vwCl ([] ++ z) H) (va_pl_congr (L := LL) (sE_up5 (sU (sU (sU (sU (sU sv a0 0 0) a0 1 0) a0 2 0) a0 3 l1) a0 4 0) a0 0))).mp hP_
      have hD := (congrArg (fun z => va_D A ([] ++ z)) (va_pl_congr (L := LL) (sE_up5 (sU (sU (sU (sU (sU sv a0 0 0) a0 1 0) a0 2 0) a0 3 l1) a0 4 0) a0 0))).mp hD_
      have hP : va_P (dC, dI) vwCl ([] ++ va_pl LL (sE (sU (sU (sU (sU (sU (sU sv a0 0 0) a0 1 0) a0 2 0) a0 3 l1) a0 4 0) a0 5 0))) H := hP
      have hD : va_D A ([] ++ va_pl LL (sE (sU (sU (sU (sU (sU (sU sv a0 0 0) a0 1 0) a0 2 0) a0 3 l1) a0 4 0) a0 5 0))) := hD
      refine lv_aload_n hx hb dX5_reset_30 rfl (lv_at hl 0 rfl) ?_
      refine lv_iconst (v := 0) hx hb dX5_reset_31 (by decide) ?_
      obtain ⟨kq_8, hkq_8⟩ := va_pl_get (X := []) (f := sE (sU (sU (sU (sU (sU (sU sv a0 0 0) a0 1 0) a0 2 0) a0 3 l1) a0 4 0) a0 5 0)) hm_1
      refine va_put (D := (dC, dI)) (ci := 5) (v := .int 0) (ty := .int) (C := RX5) (T := TX5) (N := 9) hx hb hts hiX5 tyX5 tyX5_ok nmX5 hown hK hP hD hS kq_8 hkq_8 rfl 6 (by decide) (hts (.fieldLink RX5 28 "WatchedPrograms$Statement" "cells" "I") (by decide +kernel)) (fun _ h9 => h9) rfl (by decide +kernel) rfl rfl (Nat.le_of_ble_eq_true rfl) dX5_reset_32 (fun H locs hP_ hD_ hS => ?_)
      rw [va_pl_set hD hm_1 hkq_8] at hP_ hD_
      have hP := (congrArg (fun z => va_P (dC, dI) vwCl ([] ++ z) H) (va_pl_congr (L := LL) (sE_up6 (sU (sU (sU (sU (sU (sU sv a0 0 0) a0 1 0) a0 2 0) a0 3 l1) a0 4 0) a0 5 0) a0 0))).mp hP_
      have hD := (congrArg (fun z => va_D A ([] ++ z)) (va_pl_congr (L := LL) (sE_up6 (sU (sU (sU (sU (sU (sU sv a0 0 0) a0 1 0) a0 2 0) a0 3 l1) a0 4 0) a0 5 0) a0 0))).mp hD_
      have hP : va_P (dC, dI) vwCl ([] ++ va_pl LL (sE (sU (sU (sU (sU (sU (sU (sU sv a0 0 0) a0 1 0) a0 2 0) a0 3 l1) a0 4 0) a0 5 0) a0 6 0))) H := hP
      have hD : va_D A ([] ++ va_pl LL (sE (sU (sU (sU (sU (sU (sU (sU sv a0 0 0) a0 1 0) a0 2 0) a0 3 l1) a0 4 0) a0 5 0) a0 6 0))) := hD
      refine lv_aload_n hx hb dX5_reset_35 rfl (lv_at hl 0 rfl) ?_
      refine lv_iconst (v := 0) hx hb dX5_reset_36 (by decide) ?_
      obtain ⟨kq_9, hkq_9⟩ := va_pl_get (X := []) (f := sE (sU (sU (sU (sU (sU (sU (sU sv a0 0 0) a0 1 0) a0 2 0) a0 3 l1) a0 4 0) a0 5 0) a0 6 0)) hm_1
      refine va_put (D := (dC, dI)) (ci := 5) (v := .int 0) (ty := .int) (C := RX5) (T := TX5) (N := 9) hx hb hts hiX5 tyX5 tyX5_ok nmX5 hown hK hP hD hS kq_9 hkq_9 rfl 7 (by decide) (hts (.fieldLink RX5 31 "WatchedPrograms$Statement" "middle" "I") (by decide +kernel)) (fun _ h9 => h9) rfl (by decide +kernel) rfl rfl (Nat.le_of_ble_eq_true rfl) dX5_reset_37 (fun H locs hP_ hD_ hS => ?_)
      rw [va_pl_set hD hm_1 hkq_9] at hP_ hD_
      have hP := (congrArg (fun z => va_P (dC, dI) vwCl ([] ++ z) H) (va_pl_congr (L := LL) (sE_up7 (sU (sU (sU (sU (sU (sU (sU sv a0 0 0) a0 1 0) a0 2 0) a0 3 l1) a0 4 0) a0 5 0) a0 6 0) a0 0))).mp hP_
      have hD := (congrArg (fun z => va_D A ([] ++ z)) (va_pl_congr (L := LL) (sE_up7 (sU (sU (sU (sU (sU (sU (sU sv a0 0 0) a0 1 0) a0 2 0) a0 3 l1) a0 4 0) a0 5 0) a0 6 0) a0 0))).mp hD_
      have hP : va_P (dC, dI) vwCl ([] ++ va_pl LL (sE (sU (sU (sU (sU (sU (sU (sU (sU sv a0 0 0) a0 1 0) a0 2 0) a0 3 l1) a0 4 0) a0 5 0) a0 6 0) a0 7 0))) H := hP
      have hD : va_D A ([] ++ va_pl LL (sE (sU (sU (sU (sU (sU (sU (sU (sU sv a0 0 0) a0 1 0) a0 2 0) a0 3 l1) a0 4 0) a0 5 0) a0 6 0) a0 7 0))) := hD
      refine lv_aload_n hx hb dX5_reset_40 rfl (lv_at hl 0 rfl) ?_
      refine lv_iconst (v := 0) hx hb dX5_reset_41 (by decide) ?_
      obtain ⟨kq_10, hkq_10⟩ := va_pl_get (X := []) (f := sE (sU (sU (sU (sU (sU (sU (sU (sU sv a0 0 0) a0 1 0) a0 2 0) a0 3 l1) a0 4 0) a0 5 0) a0 6 0) a0 7 0)) hm_1
      refine va_put (D := (dC, dI)) (ci := 5) (v := .int 0) (ty := .int) (C := RX5) (T := TX5) (N := 9) hx hb hts hiX5 tyX5 tyX5_ok nmX5 hown hK hP hD hS kq_10 hkq_10 rfl 8 (by decide) (hts (.fieldLink RX5 34 "WatchedPrograms$Statement" "end" "I") (by decide +kernel)) (fun _ h9 => h9) rfl (by decide +kernel) rfl rfl (Nat.le_of_ble_eq_true rfl) dX5_reset_42 (fun H locs hP_ hD_ hS => ?_)
      rw [va_pl_set hD hm_1 hkq_10] at hP_ hD_
      have hP := (congrArg (fun z => va_P (dC, dI) vwCl ([] ++ z) H) (va_pl_congr (L := LL) (sE_up8 (sU (sU (sU (sU (sU (sU (sU (sU sv a0 0 0) a0 1 0) a0 2 0) a0 3 l1) a0 4 0) a0 5 0) a0 6 0) a0 7 0) a0 0))).mp hP_
      have hD := (congrArg (fun z => va_D A ([] ++ z)) (va_pl_congr (L := LL) (sE_up8 (sU (sU (sU (sU (sU (sU (sU (sU sv a0 0 0) a0 1 0) a0 2 0) a0 3 l1) a0 4 0) a0 5 0) a0 6 0) a0 7 0) a0 0))).mp hD_
      have hP : va_P (dC, dI) vwCl ([] ++ va_pl LL (sE (sU (sU (sU (sU (sU (sU (sU (sU (sU sv a0 0 0) a0 1 0) a0 2 0) a0 3 l1) a0 4 0) a0 5 0) a0 6 0) a0 7 0) a0 8 0))) H := hP
      have hD : va_D A ([] ++ va_pl LL (sE (sU (sU (sU (sU (sU (sU (sU (sU (sU sv a0 0 0) a0 1 0) a0 2 0) a0 3 l1) a0 4 0) a0 5 0) a0 6 0) a0 7 0) a0 8 0))) := hD
      obtain rfl := Option.some.inj hB
      have hP9 := (hP.part (cx := []) [] rfl)
      have hD9 := (hD.part (cx := []) [] (by decide) rfl)
      exact W.vret hx hb hr (fun tt_ ht hW => ⟨⟨(), rfl, trivial, by rw [ht]; exact hP9, hD9⟩, hS.F ht⟩) hS.2.2 dX5_reset_45
  exact (key K) sa y1 LL sv w0 hF _ _ hP hD hS ls hl
def B_X4_reset_0 (K : Nat)  (rec : Nat → Int32 → Int32 → Int32 → Int32 → Option (Int32 × Int32 × Int32 × Int32)) (p_size : Int32) (p_codeSize : Int32) (p_outs : Int32) (p_used : Int32) : Option (Int32 × Int32 × Int32 × Int32) := some (0, 0, 0, 0)
def L_X4_reset (K : Nat)  : Nat → Nat → Int32 → Int32 → Int32 → Int32 → Option (Int32 × Int32 × Int32 × Int32)
  | 0 => fun _ _ _ _ _ => none
  | n + 1 => fun c p_size p_codeSize p_outs p_used => match c with | 0 => B_X4_reset_0 K  (L_X4_reset K  n) p_size p_codeSize p_outs p_used | _ => none
theorem L_X4_reset_e0 (K : Nat)  (n : Nat) (p_size : Int32) (p_codeSize : Int32) (p_outs : Int32) (p_used : Int32) : L_X4_reset K  (n + 1) 0 p_size p_codeSize p_outs p_used = B_X4_reset_0 K  (L_X4_reset K  n) p_size p_codeSize p_outs p_used := rfl
def F_X4_reset (K : Nat)  (p_size : Int32) (p_codeSize : Int32) (p_outs : Int32) (p_used : Int32) : Option (Int32 × Int32 × Int32 × Int32) := L_X4_reset K K 0 p_size p_codeSize p_outs p_used
set_option maxHeartbeats 2000000 in
set_option maxRecDepth 100000 in
theorem c_X4_reset (l : Launch) (dC : Nat → ClassId) (dI : Nat → Nat → Nat) (cI cJ cS : ClassId) (sz K : Nat) (p : Nat) (ps : Nat) (pc : Nat) (p_size : Int32) (p_codeSize : Int32) (p_outs : Int32) (p_used : Int32) (pg : Nat → Option Nat) (pk : Nat → Int32) (w0 : Int32) (w1 : Int32) (w2 : Int32) (w3 : Int32) (hF : F_X4_reset K p_size p_codeSize p_outs p_used = some (w0, w1, w2, w3)) : Met l yX4_reset wsX4_reset ({ frames := 0, cells := 0, slots := 0, locals := 0 }) (va_Pc [.ref p] (PE dC dI cI cJ cS [(p, .inr (4, [.ref ps, .ref pc, .int p_size, .int p_codeSize, .int p_outs, .int p_used])), (ps, aR cS 30 pg), (pc, aI cI 300 pk)] sz)) (va_Qv (fun (_ : Unit) => True) (BE dC dI (va_A [(p, .inr (4, [.ref ps, .ref pc, .int p_size, .int p_codeSize, .int p_outs, .int p_used])), (ps, aR cS 30 pg), (pc, aI cI 300 pk)] sz) (fun _ => [(p, .inr (4, [.ref ps, .ref pc, .int w0, .int w1, .int w2, .int w3])), (ps, aR cS 30 pg), (pc, aI cI 300 pk)])) (va_A [(p, .inr (4, [.ref ps, .ref pc, .int p_size, .int p_codeSize, .int p_outs, .int p_used])), (ps, aR cS 30 pg), (pc, aI cI 300 pk)] sz)) 0 0 (va_A [(p, .inr (4, [.ref ps, .ref pc, .int p_size, .int p_codeSize, .int p_outs, .int p_used])), (ps, aR cS 30 pg), (pc, aI cI 300 pk)] sz) := by
  refine Met.ofW (cc := cX4_reset) (maxL := 1) (ret := none) (by decide) rfl ?_
  intro pp_ ee_ ss_ mm_ args below meth cc_ s₁ B hml hv
  obtain ⟨rfl, hsz, hP, hE, hD0⟩ := hv
  have hx := B.exec
  have hb := B.bytes
  have hr := B.returns
  have hts := atoms_spec (ws := wsX4_reset) B.pre
  have hown : ss_.vm.findClass RX4 = some mm_.cls := findClass_of_methodNamed B.named
  have hlocks := B.notSynchronized
  have hK := hE.1
  have hiX4 : ∀ w ∈ wsX40, w ∈ wsX4_reset := fun _ h => (List.mem_cons_of_mem _ (List.mem_append_right _ h))
  subst hsz
  have hD := hD0.self (sz := ss_.heap.size)
  generalize hAe : va_A [(p, .inr (4, [.ref ps, .ref pc, .int p_size, .int p_codeSize, .int p_outs, .int p_used])), (ps, aR cS 30 pg), (pc, aI cI 300 pk)] ss_.heap.size = A at hD ⊢
  have hA : ∀ q : Nat, ss_.heap.size ≤ q → A q := fun q h => by rw [← hAe]; exact Or.inr h
  have hS : va_S A ss_.heap ss_.heap [] := va_S.rf
  have hl := lv_entry ([.ref p]) (n := 1) (Nat.le_of_ble_eq_true rfl)
  rw [lg_entry_eq]
  generalize (lg_sl ([.ref p]) ++ List.replicate (1 - (lg_sl ([.ref p])).length) Slot.unset).toArray = ls at hl ⊢
  have hl : lv_has ls 1 [(0, .ref p)] := hl
  have key : ∀ n : Nat, (∀ (p_size : Int32) (p_codeSize : Int32) (p_outs : Int32) (p_used : Int32) (w0 : Int32) (w1 : Int32) (w2 : Int32) (w3 : Int32), L_X4_reset K  n 0 p_size p_codeSize p_outs p_used = some (w0, w1, w2, w3) → ∀ (H : Heap) (locs : List Loc), va_P (dC, dI) vwCl [(p, .inr (4, [.ref ps, .ref pc, .int p_size, .int p_codeSize, .int p_outs, .int p_used])), (ps, aR cS 30 pg), (pc, aI cI 300 pk)] H → va_D A [(p, .inr (4, [.ref ps, .ref pc, .int p_size, .int p_codeSize, .int p_outs, .int p_used])), (ps, aR cS 30 pg), (pc, aI cI 300 pk)] → va_S A ss_.heap H locs → ∀ ls : Array Slot, lv_has ls 1 [(0, .ref p)] → W pp_ l ee_ (headSpec wsX4_reset ({ frames := 0, cells := 0, slots := 0, locals := 0 })).room ss_ mm_ #[.ref p] below meth cc_ H locs 0 0 (MQ below (va_Qv (fun (_ : Unit) => True) (BE dC dI A (fun _ => [(p, .inr (4, [.ref ps, .ref pc, .int w0, .int w1, .int w2, .int w3])), (ps, aR cS 30 pg), (pc, aI cI 300 pk)])) A) #[.ref p] ss_ 0 0 A) (F0 mm_ 0 ls [])) := by
    intro n
    induction n with
    | zero => exact fun _ _ _ _ _ _ _ _ hF => absurd hF (fun e => by cases e)
    | succ n ih =>
      intro p_size p_codeSize p_outs p_used w0 w1 w2 w3 hB H locs hP hD hS ls hl
      replace hB := Eq.trans (L_X4_reset_e0 K  n p_size p_codeSize p_outs p_used).symm hB
      unfold B_X4_reset_0 at hB
      refine lv_aload_n hx hb dX4_reset_0 rfl (lv_at hl 0 rfl) ?_
      refine lv_iconst (v := 0) hx hb dX4_reset_1 (by decide) ?_
      refine va_put (D := (dC, dI)) (ci := 4) (v := .int 0) (ty := .int) (C := RX4) (T := TX4) (N := 6) hx hb hts hiX4 tyX4 tyX4_ok nmX4 hown hK hP hD hS 0 rfl rfl 2 (by decide) (hts (.fieldLink RX4 22 "WatchedPrograms$Program" "size" "I") (by decide +kernel)) (fun _ h9 => h9) rfl (by decide +kernel) rfl rfl (Nat.le_of_ble_eq_true rfl) dX4_reset_2 (fun H locs hP hD hS => ?_)
      have hP : va_P (dC, dI) vwCl [(p, .inr (4, [.ref ps, .ref pc, .int 0, .int p_codeSize, .int p_outs, .int p_used])), (ps, aR cS 30 pg), (pc, aI cI 300 pk)] H := hP
      have hD : va_D A [(p, .inr (4, [.ref ps, .ref pc, .int 0, .int p_codeSize, .int p_outs, .int p_used])), (ps, aR cS 30 pg), (pc, aI cI 300 pk)] := hD
      refine lv_aload_n hx hb dX4_reset_5 rfl (lv_at hl 0 rfl) ?_
      refine lv_iconst (v := 0) hx hb dX4_reset_6 (by decide) ?_
      refine va_put (D := (dC, dI)) (ci := 4) (v := .int 0) (ty := .int) (C := RX4) (T := TX4) (N := 6) hx hb hts hiX4 tyX4 tyX4_ok nmX4 hown hK hP hD hS 0 rfl rfl 3 (by decide) (hts (.fieldLink RX4 26 "WatchedPrograms$Program" "codeSize" "I") (by decide +kernel)) (fun _ h9 => h9) rfl (by decide +kernel) rfl rfl (Nat.le_of_ble_eq_true rfl) dX4_reset_7 (fun H locs hP hD hS => ?_)
      have hP : va_P (dC, dI) vwCl [(p, .inr (4, [.ref ps, .ref pc, .int 0, .int 0, .int p_outs, .int p_used])), (ps, aR cS 30 pg), (pc, aI cI 300 pk)] H := hP
      have hD : va_D A [(p, .inr (4, [.ref ps, .ref pc, .int 0, .int 0, .int p_outs, .int p_used])), (ps, aR cS 30 pg), (pc, aI cI 300 pk)] := hD
      refine lv_aload_n hx hb dX4_reset_10 rfl (lv_at hl 0 rfl) ?_
      refine lv_iconst (v := 0) hx hb dX4_reset_11 (by decide) ?_
      refine va_put (D := (dC, dI)) (ci := 4) (v := .int 0) (ty := .int) (C := RX4) (T := TX4) (N := 6) hx hb hts hiX4 tyX4 tyX4_ok nmX4 hown hK hP hD hS 0 rfl rfl 4 (by decide) (hts (.fieldLink RX4 29 "WatchedPrograms$Program" "outs" "I") (by decide +kernel)) (fun _ h9 => h9) rfl (by decide +kernel) rfl rfl (Nat.le_of_ble_eq_true rfl) dX4_reset_12 (fun H locs hP hD hS => ?_)
      have hP : va_P (dC, dI) vwCl [(p, .inr (4, [.ref ps, .ref pc, .int 0, .int 0, .int 0, .int p_used])), (ps, aR cS 30 pg), (pc, aI cI 300 pk)] H := hP
      have hD : va_D A [(p, .inr (4, [.ref ps, .ref pc, .int 0, .int 0, .int 0, .int p_used])), (ps, aR cS 30 pg), (pc, aI cI 300 pk)] := hD
      refine lv_aload_n hx hb dX4_reset_15 rfl (lv_at hl 0 rfl) ?_
      refine lv_iconst (v := 0) hx hb dX4_reset_16 (by decide) ?_
      refine va_put (D := (dC, dI)) (ci := 4) (v := .int 0) (ty := .int) (C := RX4) (T := TX4) (N := 6) hx hb hts hiX4 tyX4 tyX4_ok nmX4 hown hK hP hD hS 0 rfl rfl 5 (by decide) (hts (.fieldLink RX4 32 "WatchedPrograms$Program" "used" "I") (by decide +kernel)) (fun _ h9 => h9) rfl (by decide +kernel) rfl rfl (Nat.le_of_ble_eq_true rfl) dX4_reset_17 (fun H locs hP hD hS => ?_)
      have hP : va_P (dC, dI) vwCl [(p, .inr (4, [.ref ps, .ref pc, .int 0, .int 0, .int 0, .int 0])), (ps, aR cS 30 pg), (pc, aI cI 300 pk)] H := hP
      have hD : va_D A [(p, .inr (4, [.ref ps, .ref pc, .int 0, .int 0, .int 0, .int 0])), (ps, aR cS 30 pg), (pc, aI cI 300 pk)] := hD
      simp only [Option.some.injEq, Prod.mk.injEq] at hB
      obtain ⟨rfl, rfl, rfl, rfl⟩ := hB
      have hP9 := (hP.sub (ws' := [(p, .inr (4, [.ref ps, .ref pc, .int 0, .int 0, .int 0, .int 0])), (ps, aR cS 30 pg), (pc, aI cI 300 pk)]) [0, 1, 2] rfl)
      have hD9 := (hD.sub (ws' := [(p, .inr (4, [.ref ps, .ref pc, .int 0, .int 0, .int 0, .int 0])), (ps, aR cS 30 pg), (pc, aI cI 300 pk)]) [0, 1, 2] (by decide) rfl)
      exact W.vret hx hb hr (fun tt_ ht hW => ⟨⟨(), rfl, trivial, by rw [ht]; exact hP9, hD9⟩, hS.F ht⟩) hS.2.2 dX4_reset_20
  exact (key K) p_size p_codeSize p_outs p_used w0 w1 w2 w3 hF _ _ hP hD hS ls hl
def B_X4_isFull_0 (K : Nat)  (rec : Nat → Int32 → Option (Int32)) (p_size : Int32) : Option (Int32) := if p_size < 30 then (some (0)) else (some (1))
def L_X4_isFull (K : Nat)  : Nat → Nat → Int32 → Option (Int32)
  | 0 => fun _ _ => none
  | n + 1 => fun c p_size => match c with | 0 => B_X4_isFull_0 K  (L_X4_isFull K  n) p_size | _ => none
theorem L_X4_isFull_e0 (K : Nat)  (n : Nat) (p_size : Int32) : L_X4_isFull K  (n + 1) 0 p_size = B_X4_isFull_0 K  (L_X4_isFull K  n) p_size := rfl
def F_X4_isFull (K : Nat)  (p_size : Int32) : Option (Int32) := L_X4_isFull K K 0 p_size
set_option maxHeartbeats 2000000 in
set_option maxRecDepth 100000 in
theorem c_X4_isFull (l : Launch) (dC : Nat → ClassId) (dI : Nat → Nat → Nat) (cI cJ cS : ClassId) (sz K : Nat) (p : Nat) (ps : Nat) (pc : Nat) (p_size : Int32) (p_codeSize : Int32) (p_outs : Int32) (p_used : Int32) (pg : Nat → Option Nat) (pk : Nat → Int32) (r : Int32) (hF : F_X4_isFull K p_size = some (r)) : Met l yX4_isFull wsX4_isFull ({ frames := 0, cells := 0, slots := 0, locals := 0 }) (va_Pc [.ref p] (PE dC dI cI cJ cS [(p, .inr (4, [.ref ps, .ref pc, .int p_size, .int p_codeSize, .int p_outs, .int p_used])), (ps, aR cS 30 pg), (pc, aI cI 300 pk)] sz)) (va_Qi (fun (r_ : Int32) (_ : Unit) => r_ = r) (BE dC dI (va_A [(p, .inr (4, [.ref ps, .ref pc, .int p_size, .int p_codeSize, .int p_outs, .int p_used])), (ps, aR cS 30 pg), (pc, aI cI 300 pk)] sz) (fun _ => [(p, .inr (4, [.ref ps, .ref pc, .int p_size, .int p_codeSize, .int p_outs, .int p_used])), (ps, aR cS 30 pg), (pc, aI cI 300 pk)])) (va_A [(p, .inr (4, [.ref ps, .ref pc, .int p_size, .int p_codeSize, .int p_outs, .int p_used])), (ps, aR cS 30 pg), (pc, aI cI 300 pk)] sz)) 0 0 (va_A [(p, .inr (4, [.ref ps, .ref pc, .int p_size, .int p_codeSize, .int p_outs, .int p_used])), (ps, aR cS 30 pg), (pc, aI cI 300 pk)] sz) := by
  refine Met.ofW (cc := cX4_isFull) (maxL := 1) (ret := (some .boolean)) (by decide) rfl ?_
  intro pp_ ee_ ss_ mm_ args below meth cc_ s₁ B hml hv
  obtain ⟨rfl, hsz, hP, hE, hD0⟩ := hv
  have hx := B.exec
  have hb := B.bytes
  have hr := B.returns
  have hts := atoms_spec (ws := wsX4_isFull) B.pre
  have hown : ss_.vm.findClass RX4 = some mm_.cls := findClass_of_methodNamed B.named
  have hlocks := B.notSynchronized
  have hK := hE.1
  have hiX4 : ∀ w ∈ wsX40, w ∈ wsX4_isFull := fun _ h => (List.mem_cons_of_mem _ (List.mem_append_right _ h))
  subst hsz
  have hD := hD0.self (sz := ss_.heap.size)
  generalize hAe : va_A [(p, .inr (4, [.ref ps, .ref pc, .int p_size, .int p_codeSize, .int p_outs, .int p_used])), (ps, aR cS 30 pg), (pc, aI cI 300 pk)] ss_.heap.size = A at hD ⊢
  have hA : ∀ q : Nat, ss_.heap.size ≤ q → A q := fun q h => by rw [← hAe]; exact Or.inr h
  have hS : va_S A ss_.heap ss_.heap [] := va_S.rf
  have hl := lv_entry ([.ref p]) (n := 1) (Nat.le_of_ble_eq_true rfl)
  rw [lg_entry_eq]
  generalize (lg_sl ([.ref p]) ++ List.replicate (1 - (lg_sl ([.ref p])).length) Slot.unset).toArray = ls at hl ⊢
  have hl : lv_has ls 1 [(0, .ref p)] := hl
  have key : ∀ n : Nat, (∀ (p_size : Int32) (r : Int32), L_X4_isFull K  n 0 p_size = some (r) → ∀ (H : Heap) (locs : List Loc), va_P (dC, dI) vwCl [(p, .inr (4, [.ref ps, .ref pc, .int p_size, .int p_codeSize, .int p_outs, .int p_used])), (ps, aR cS 30 pg), (pc, aI cI 300 pk)] H → va_D A [(p, .inr (4, [.ref ps, .ref pc, .int p_size, .int p_codeSize, .int p_outs, .int p_used])), (ps, aR cS 30 pg), (pc, aI cI 300 pk)] → va_S A ss_.heap H locs → ∀ ls : Array Slot, lv_has ls 1 [(0, .ref p)] → W pp_ l ee_ (headSpec wsX4_isFull ({ frames := 0, cells := 0, slots := 0, locals := 0 })).room ss_ mm_ #[.ref p] below meth cc_ H locs 0 0 (MQ below (va_Qi (fun (r_ : Int32) (_ : Unit) => r_ = r) (BE dC dI A (fun _ => [(p, .inr (4, [.ref ps, .ref pc, .int p_size, .int p_codeSize, .int p_outs, .int p_used])), (ps, aR cS 30 pg), (pc, aI cI 300 pk)])) A) #[.ref p] ss_ 0 0 A) (F0 mm_ 0 ls [])) := by
    intro n
    induction n with
    | zero => exact fun _ _ hF => absurd hF (fun e => by cases e)
    | succ n ih =>
      intro p_size r hB H locs hP hD hS ls hl
      replace hB := Eq.trans (L_X4_isFull_e0 K  n p_size).symm hB
      unfold B_X4_isFull_0 at hB
      refine lv_aload_n hx hb dX4_isFull_0 rfl (lv_at hl 0 rfl) ?_
      refine va_get (D := (dC, dI)) (ci := 4) (v := .int p_size) (C := RX4) (T := TX4) (N := 6) hx hb hts hiX4 hown hK hP 0 rfl rfl 2 (by decide) (hts (.fieldLink RX4 22 "WatchedPrograms$Program" "size" "I") (by decide +kernel)) (fun _ h9 => h9) rfl dX4_isFull_1 ?_
      refine lv_bipush (v := 30) hx hb dX4_isFull_4 (by decide) ?_
      refine lv_icmp_lt (tgt := 13) hx hb dX4_isFull_6 (by decide) (fun c_1 => ?_) (fun c_1 => ?_)
      · rw [if_pos c_1] at hB
        refine lv_iconst (v := 0) hx hb dX4_isFull_13 (by decide) ?_
        obtain rfl := Option.some.inj hB
        have hP9 := (hP.sub (ws' := [(p, .inr (4, [.ref ps, .ref pc, .int p_size, .int p_codeSize, .int p_outs, .int p_used])), (ps, aR cS 30 pg), (pc, aI cI 300 pk)]) [0, 1, 2] rfl)
        have hD9 := (hD.sub (ws' := [(p, .inr (4, [.ref ps, .ref pc, .int p_size, .int p_codeSize, .int p_outs, .int p_used])), (ps, aR cS 30 pg), (pc, aI cI 300 pk)]) [0, 1, 2] (by decide) rfl)
        exact W.zret (v := 0) hx hb hr (by decide) (fun tt_ ht hW => ⟨⟨_, (), rfl, rfl, by rw [ht]; exact hP9, hD9⟩, hS.F ht⟩) hS.2.2 dX4_isFull_14
      · rw [if_neg c_1] at hB
        refine lv_iconst (v := 1) hx hb dX4_isFull_9 (by decide) ?_
        refine lv_goto (tgt := 14) hx hb dX4_isFull_10 (by decide) ?_
        obtain rfl := Option.some.inj hB
        have hP9 := (hP.sub (ws' := [(p, .inr (4, [.ref ps, .ref pc, .int p_size, .int p_codeSize, .int p_outs, .int p_used])), (ps, aR cS 30 pg), (pc, aI cI 300 pk)]) [0, 1, 2] rfl)
        have hD9 := (hD.sub (ws' := [(p, .inr (4, [.ref ps, .ref pc, .int p_size, .int p_codeSize, .int p_outs, .int p_used])), (ps, aR cS 30 pg), (pc, aI cI 300 pk)]) [0, 1, 2] (by decide) rfl)
        exact W.zret (v := 1) hx hb hr (by decide) (fun tt_ ht hW => ⟨⟨_, (), rfl, rfl, by rw [ht]; exact hP9, hD9⟩, hS.F ht⟩) hS.2.2 dX4_isFull_14
  exact (key K) p_size r hF _ _ hP hD hS ls hl
def B_X4_emit_0 (K : Nat)  (rec : Nat → Int32 → Int32 → (Nat → Int32) → Option (Int32 × (Nat → Int32))) (l1 : Int32) (p_codeSize : Int32) (pk : Nat → Int32) : Option (Int32 × (Nat → Int32)) := if (300 : Int32) ≤ p_codeSize then (some (p_codeSize, pk)) else (if okIx p_codeSize 300 = true then (some ((p_codeSize + 1), (upd pk (p_codeSize).toNatClampNeg l1))) else none)
def L_X4_emit (K : Nat)  : Nat → Nat → Int32 → Int32 → (Nat → Int32) → Option (Int32 × (Nat → Int32))
  | 0 => fun _ _ _ _ => none
  | n + 1 => fun c l1 p_codeSize pk => match c with | 0 => B_X4_emit_0 K  (L_X4_emit K  n) l1 p_codeSize pk | _ => none
theorem L_X4_emit_e0 (K : Nat)  (n : Nat) (l1 : Int32) (p_codeSize : Int32) (pk : Nat → Int32) : L_X4_emit K  (n + 1) 0 l1 p_codeSize pk = B_X4_emit_0 K  (L_X4_emit K  n) l1 p_codeSize pk := rfl
def F_X4_emit (K : Nat) (l1 : Int32) (p_codeSize : Int32) (pk : Nat → Int32) : Option (Int32 × (Nat → Int32)) := L_X4_emit K K 0 l1 p_codeSize pk
set_option maxHeartbeats 2000000 in
set_option maxRecDepth 100000 in
theorem c_X4_emit (l : Launch) (dC : Nat → ClassId) (dI : Nat → Nat → Nat) (cI cJ cS : ClassId) (sz K : Nat) (p : Nat) (y1 : Int32) (ps : Nat) (pc : Nat) (p_size : Int32) (p_codeSize : Int32) (p_outs : Int32) (p_used : Int32) (pg : Nat → Option Nat) (pk : Nat → Int32) (w0 : Int32) (w1 : Nat → Int32) (hF : F_X4_emit K y1 p_codeSize pk = some (w0, w1)) : Met l yX4_emit wsX4_emit ({ frames := 0, cells := 0, slots := 0, locals := 0 }) (va_Pc [.ref p, .int y1] (PE dC dI cI cJ cS [(p, .inr (4, [.ref ps, .ref pc, .int p_size, .int p_codeSize, .int p_outs, .int p_used])), (ps, aR cS 30 pg), (pc, aI cI 300 pk)] sz)) (va_Qv (fun (_ : Unit) => True) (BE dC dI (va_A [(p, .inr (4, [.ref ps, .ref pc, .int p_size, .int p_codeSize, .int p_outs, .int p_used])), (ps, aR cS 30 pg), (pc, aI cI 300 pk)] sz) (fun _ => [(p, .inr (4, [.ref ps, .ref pc, .int p_size, .int w0, .int p_outs, .int p_used])), (ps, aR cS 30 pg), (pc, aI cI 300 w1)])) (va_A [(p, .inr (4, [.ref ps, .ref pc, .int p_size, .int p_codeSize, .int p_outs, .int p_used])), (ps, aR cS 30 pg), (pc, aI cI 300 pk)] sz)) 0 0 (va_A [(p, .inr (4, [.ref ps, .ref pc, .int p_size, .int p_codeSize, .int p_outs, .int p_used])), (ps, aR cS 30 pg), (pc, aI cI 300 pk)] sz) := by
  refine Met.ofW (cc := cX4_emit) (maxL := 2) (ret := none) (by decide) rfl ?_
  intro pp_ ee_ ss_ mm_ args below meth cc_ s₁ B hml hv
  obtain ⟨rfl, hsz, hP, hE, hD0⟩ := hv
  have hx := B.exec
  have hb := B.bytes
  have hr := B.returns
  have hts := atoms_spec (ws := wsX4_emit) B.pre
  have hown : ss_.vm.findClass RX4 = some mm_.cls := findClass_of_methodNamed B.named
  have hlocks := B.notSynchronized
  have hK := hE.1
  have hiX4 : ∀ w ∈ wsX40, w ∈ wsX4_emit := fun _ h => (List.mem_cons_of_mem _ (List.mem_append_right _ h))
  subst hsz
  have hD := hD0.self (sz := ss_.heap.size)
  generalize hAe : va_A [(p, .inr (4, [.ref ps, .ref pc, .int p_size, .int p_codeSize, .int p_outs, .int p_used])), (ps, aR cS 30 pg), (pc, aI cI 300 pk)] ss_.heap.size = A at hD ⊢
  have hA : ∀ q : Nat, ss_.heap.size ≤ q → A q := fun q h => by rw [← hAe]; exact Or.inr h
  have hS : va_S A ss_.heap ss_.heap [] := va_S.rf
  have hl := lv_entry ([.ref p, .int y1]) (n := 2) (Nat.le_of_ble_eq_true rfl)
  rw [lg_entry_eq]
  generalize (lg_sl ([.ref p, .int y1]) ++ List.replicate (2 - (lg_sl ([.ref p, .int y1])).length) Slot.unset).toArray = ls at hl ⊢
  have hl : lv_has ls 2 [(0, .ref p), (1, .int y1)] := hl
  have key : ∀ n : Nat, (∀ (l1 : Int32) (p_codeSize : Int32) (pk : Nat → Int32) (w0 : Int32) (w1 : Nat → Int32), L_X4_emit K  n 0 l1 p_codeSize pk = some (w0, w1) → ∀ (H : Heap) (locs : List Loc), va_P (dC, dI) vwCl [(p, .inr (4, [.ref ps, .ref pc, .int p_size, .int p_codeSize, .int p_outs, .int p_used])), (ps, aR cS 30 pg), (pc, aI cI 300 pk)] H → va_D A [(p, .inr (4, [.ref ps, .ref pc, .int p_size, .int p_codeSize, .int p_outs, .int p_used])), (ps, aR cS 30 pg), (pc, aI cI 300 pk)] → va_S A ss_.heap H locs → ∀ ls : Array Slot, lv_has ls 2 [(0, .ref p), (1, .int l1)] → W pp_ l ee_ (headSpec wsX4_emit ({ frames := 0, cells := 0, slots := 0, locals := 0 })).room ss_ mm_ #[.ref p, .int y1] below meth cc_ H locs 0 0 (MQ below (va_Qv (fun (_ : Unit) => True) (BE dC dI A (fun _ => [(p, .inr (4, [.ref ps, .ref pc, .int p_size, .int w0, .int p_outs, .int p_used])), (ps, aR cS 30 pg), (pc, aI cI 300 w1)])) A) #[.ref p, .int y1] ss_ 0 0 A) (F0 mm_ 0 ls [])) := by
    intro n
    induction n with
    | zero => exact fun _ _ _ _ _ hF => absurd hF (fun e => by cases e)
    | succ n ih =>
      intro l1 p_codeSize pk w0 w1 hB H locs hP hD hS ls hl
      replace hB := Eq.trans (L_X4_emit_e0 K  n l1 p_codeSize pk).symm hB
      unfold B_X4_emit_0 at hB
      refine lv_aload_n hx hb dX4_emit_0 rfl (lv_at hl 0 rfl) ?_
      refine va_get (D := (dC, dI)) (ci := 4) (v := .int p_codeSize) (C := RX4) (T := TX4) (N := 6) hx hb hts hiX4 hown hK hP 0 rfl rfl 3 (by decide) (hts (.fieldLink RX4 26 "WatchedPrograms$Program" "codeSize" "I") (by decide +kernel)) (fun _ h9 => h9) rfl dX4_emit_1 ?_
      refine lv_aload_n hx hb dX4_emit_4 rfl (lv_at hl 0 rfl) ?_
      refine va_get (D := (dC, dI)) (ci := 4) (v := .ref pc) (C := RX4) (T := TX4) (N := 6) hx hb hts hiX4 hown hK hP 0 rfl rfl 1 (by decide) (hts (.fieldLink RX4 17 "WatchedPrograms$Program" "code" "[I") (by decide +kernel)) (fun _ h9 => h9) rfl dX4_emit_5 ?_
      refine va_alen hx hb hK hP 2 0 rfl rfl (v := 300) rfl dX4_emit_8 ?_
      refine lv_icmp_ge (tgt := 29) hx hb dX4_emit_9 (by decide) (fun c_1 => ?_) (fun c_1 => ?_)
      · rw [if_pos c_1] at hB
        simp only [Option.some.injEq, Prod.mk.injEq] at hB
        obtain ⟨rfl, rfl⟩ := hB
        have hP9 := (hP.sub (ws' := [(p, .inr (4, [.ref ps, .ref pc, .int p_size, .int p_codeSize, .int p_outs, .int p_used])), (ps, aR cS 30 pg), (pc, aI cI 300 pk)]) [0, 1, 2] rfl)
        have hD9 := (hD.sub (ws' := [(p, .inr (4, [.ref ps, .ref pc, .int p_size, .int p_codeSize, .int p_outs, .int p_used])), (ps, aR cS 30 pg), (pc, aI cI 300 pk)]) [0, 1, 2] (by decide) rfl)
        exact W.vret hx hb hr (fun tt_ ht hW => ⟨⟨(), rfl, trivial, by rw [ht]; exact hP9, hD9⟩, hS.F ht⟩) hS.2.2 dX4_emit_29
      · rw [if_neg c_1] at hB
        refine lv_aload_n hx hb dX4_emit_12 rfl (lv_at hl 0 rfl) ?_
        refine va_get (D := (dC, dI)) (ci := 4) (v := .ref pc) (C := RX4) (T := TX4) (N := 6) hx hb hts hiX4 hown hK hP 0 rfl rfl 1 (by decide) (hts (.fieldLink RX4 17 "WatchedPrograms$Program" "code" "[I") (by decide +kernel)) (fun _ h9 => h9) rfl dX4_emit_13 ?_
        refine lv_aload_n hx hb dX4_emit_16 rfl (lv_at hl 0 rfl) ?_
        refine lv_dup hx hb dX4_emit_17 rfl ?_
        refine va_get (D := (dC, dI)) (ci := 4) (v := .int p_codeSize) (C := RX4) (T := TX4) (N := 6) hx hb hts hiX4 hown hK hP 0 rfl rfl 3 (by decide) (hts (.fieldLink RX4 26 "WatchedPrograms$Program" "codeSize" "I") (by decide +kernel)) (fun _ h9 => h9) rfl dX4_emit_18 ?_
        refine lv_dup_x1 hx hb dX4_emit_21 rfl rfl ?_
        refine lv_iconst (v := 1) hx hb dX4_emit_22 (by decide) ?_
        refine lv_iadd hx hb dX4_emit_23 ?_
        refine va_put (D := (dC, dI)) (ci := 4) (v := .int (p_codeSize + 1)) (ty := .int) (C := RX4) (T := TX4) (N := 6) hx hb hts hiX4 tyX4 tyX4_ok nmX4 hown hK hP hD hS 0 rfl rfl 3 (by decide) (hts (.fieldLink RX4 26 "WatchedPrograms$Program" "codeSize" "I") (by decide +kernel)) (fun _ h9 => h9) rfl (by decide +kernel) rfl rfl (Nat.le_of_ble_eq_true rfl) dX4_emit_24 (fun H locs hP hD hS => ?_)
        have hP : va_P (dC, dI) vwCl [(p, .inr (4, [.ref ps, .ref pc, .int p_size, .int (p_codeSize + 1), .int p_outs, .int p_used])), (ps, aR cS 30 pg), (pc, aI cI 300 pk)] H := hP
        have hD : va_D A [(p, .inr (4, [.ref ps, .ref pc, .int p_size, .int (p_codeSize + 1), .int p_outs, .int p_used])), (ps, aR cS 30 pg), (pc, aI cI 300 pk)] := hD
        refine lv_iload_n hx hb dX4_emit_27 rfl (lv_at hl 1 rfl) ?_
        by_cases k_2 : okIx p_codeSize 300 = true
        case neg => rw [if_neg k_2] at hB; cases hB
        rw [if_pos k_2] at hB
        refine va_iast hx hb hK hP hD hS 2 0 rfl rfl (okIx_in k_2) dX4_emit_28 (fun H locs hP hD hS => ?_)
        have hP : va_P (dC, dI) vwCl [(p, .inr (4, [.ref ps, .ref pc, .int p_size, .int (p_codeSize + 1), .int p_outs, .int p_used])), (ps, aR cS 30 pg), (pc, aI cI 300 (upd pk (p_codeSize).toNatClampNeg l1))] H := hP
        have hD : va_D A [(p, .inr (4, [.ref ps, .ref pc, .int p_size, .int (p_codeSize + 1), .int p_outs, .int p_used])), (ps, aR cS 30 pg), (pc, aI cI 300 (upd pk (p_codeSize).toNatClampNeg l1))] := hD
        simp only [Option.some.injEq, Prod.mk.injEq] at hB
        obtain ⟨rfl, rfl⟩ := hB
        have hP9 := (hP.sub (ws' := [(p, .inr (4, [.ref ps, .ref pc, .int p_size, .int (p_codeSize + 1), .int p_outs, .int p_used])), (ps, aR cS 30 pg), (pc, aI cI 300 (upd pk (p_codeSize).toNatClampNeg l1))]) [0, 1, 2] rfl)
        have hD9 := (hD.sub (ws' := [(p, .inr (4, [.ref ps, .ref pc, .int p_size, .int (p_codeSize + 1), .int p_outs, .int p_used])), (ps, aR cS 30 pg), (pc, aI cI 300 (upd pk (p_codeSize).toNatClampNeg l1))]) [0, 1, 2] (by decide) rfl)
        exact W.vret hx hb hr (fun tt_ ht hW => ⟨⟨(), rfl, trivial, by rw [ht]; exact hP9, hD9⟩, hS.F ht⟩) hS.2.2 dX4_emit_29
  exact (key K) y1 p_codeSize pk w0 w1 hF _ _ hP hD hS ls hl
def B_X4_append_0 (K : Nat)  (rec : Nat → Int32 → (List Nat) → (Nat → Nat → Int32) → Int32 → (Nat → Option Nat) → Option (Nat × (Nat → Nat → Int32) × Int32)) (l1 : Int32) (LL : List Nat) (sv : Nat → Nat → Int32) (p_size : Int32) (pg : Nat → Option Nat) : Option (Nat × (Nat → Nat → Int32) × Int32) := if okIx (if 29 < p_size then 29 else p_size) 30 = true then ((pg ((if 29 < p_size then 29 else p_size)).toNatClampNeg).bind (fun ad_2 => if ad_2 ∈ LL then ((F_X5_reset K ad_2 l1 LL sv).bind (fun o_5 => if okIx (if 29 < p_size then 29 else p_size) 30 = true then ((pg ((if 29 < p_size then 29 else p_size)).toNatClampNeg).bind (fun ad_2 => if ad_2 ∈ LL then (some (ad_2, o_5, ((if 29 < p_size then 29 else p_size) + 1))) else none)) else none)) else none)) else none
def L_X4_append (K : Nat)  : Nat → Nat → Int32 → (List Nat) → (Nat → Nat → Int32) → Int32 → (Nat → Option Nat) → Option (Nat × (Nat → Nat → Int32) × Int32)
  | 0 => fun _ _ _ _ _ _ => none
  | n + 1 => fun c l1 LL sv p_size pg => match c with | 0 => B_X4_append_0 K  (L_X4_append K  n) l1 LL sv p_size pg | _ => none
theorem L_X4_append_e0 (K : Nat)  (n : Nat) (l1 : Int32) (LL : List Nat) (sv : Nat → Nat → Int32) (p_size : Int32) (pg : Nat → Option Nat) : L_X4_append K  (n + 1) 0 l1 LL sv p_size pg = B_X4_append_0 K  (L_X4_append K  n) l1 LL sv p_size pg := rfl
def F_X4_append (K : Nat) (l1 : Int32) (LL : List Nat) (sv : Nat → Nat → Int32) (p_size : Int32) (pg : Nat → Option Nat) : Option (Nat × (Nat → Nat → Int32) × Int32) := L_X4_append K K 0 l1 LL sv p_size pg
set_option maxHeartbeats 2000000 in
set_option maxRecDepth 100000 in
theorem c_X4_append (l : Launch) (dC : Nat → ClassId) (dI : Nat → Nat → Nat) (cI cJ cS : ClassId) (sz K : Nat) (p : Nat) (y1 : Int32) (ps : Nat) (pc : Nat) (p_size : Int32) (p_codeSize : Int32) (p_outs : Int32) (p_used : Int32) (pg : Nat → Option Nat) (pk : Nat → Int32) (LL : List Nat) (sv : Nat → Nat → Int32) (r : Nat) (w0 : Nat → Nat → Int32) (w1 : Int32) (hF : F_X4_append K y1 LL sv p_size pg = some (r, w0, w1)) : Met l yX4_append wsX4_append ({ frames := 1, cells := 0, slots := 0, locals := 21 }) (va_Pc [.ref p, .int y1] (PE dC dI cI cJ cS ([(p, .inr (4, [.ref ps, .ref pc, .int p_size, .int p_codeSize, .int p_outs, .int p_used])), (ps, aR cS 30 pg), (pc, aI cI 300 pk)] ++ va_pl LL (sE sv)) sz)) (va_Qr (fun (_ : Unit) => True) (fun u b t => b = r ∧ BE dC dI (va_A ([(p, .inr (4, [.ref ps, .ref pc, .int p_size, .int p_codeSize, .int p_outs, .int p_used])), (ps, aR cS 30 pg), (pc, aI cI 300 pk)] ++ va_pl LL (sE sv)) sz) (fun _ => ([(p, .inr (4, [.ref ps, .ref pc, .int w1, .int p_codeSize, .int p_outs, .int p_used])), (ps, aR cS 30 pg), (pc, aI cI 300 pk)] ++ va_pl LL (sE w0))) u t) (va_A ([(p, .inr (4, [.ref ps, .ref pc, .int p_size, .int p_codeSize, .int p_outs, .int p_used])), (ps, aR cS 30 pg), (pc, aI cI 300 pk)] ++ va_pl LL (sE sv)) sz)) 0 0 (va_A ([(p, .inr (4, [.ref ps, .ref pc, .int p_size, .int p_codeSize, .int p_outs, .int p_used])), (ps, aR cS 30 pg), (pc, aI cI 300 pk)] ++ va_pl LL (sE sv)) sz) := by
  refine Met.ofW (cc := cX4_append) (maxL := 3) (ret := (some (.object "WatchedPrograms$Statement"))) (by decide) rfl ?_
  intro pp_ ee_ ss_ mm_ args below meth cc_ s₁ B hml hv
  obtain ⟨rfl, hsz, hP, hE, hD0⟩ := hv
  have hx := B.exec
  have hb := B.bytes
  have hr := B.returns
  have hts := atoms_spec (ws := wsX4_append) B.pre
  have hown : ss_.vm.findClass RX4 = some mm_.cls := findClass_of_methodNamed B.named
  have hlocks := B.notSynchronized
  have hK := hE.1
  have hiX4 : ∀ w ∈ wsX40, w ∈ wsX4_append := fun _ h => (List.mem_cons_of_mem _ (List.mem_append_left _ (List.mem_append_right _ h)))
  subst hsz
  have hD := hD0.self (sz := ss_.heap.size)
  generalize hAe : va_A ([(p, .inr (4, [.ref ps, .ref pc, .int p_size, .int p_codeSize, .int p_outs, .int p_used])), (ps, aR cS 30 pg), (pc, aI cI 300 pk)] ++ va_pl LL (sE sv)) ss_.heap.size = A at hD ⊢
  have hA : ∀ q : Nat, ss_.heap.size ≤ q → A q := fun q h => by rw [← hAe]; exact Or.inr h
  have hS : va_S A ss_.heap ss_.heap [] := va_S.rf
  have hl := lv_entry ([.ref p, .int y1]) (n := 3) (Nat.le_of_ble_eq_true rfl)
  rw [lg_entry_eq]
  generalize (lg_sl ([.ref p, .int y1]) ++ List.replicate (3 - (lg_sl ([.ref p, .int y1])).length) Slot.unset).toArray = ls at hl ⊢
  have hl : lv_has ls 3 [(0, .ref p), (1, .int y1)] := hl
  have key : ∀ n : Nat, (∀ (l1 : Int32) (LL : List Nat) (sv : Nat → Nat → Int32) (p_size : Int32) (pg : Nat → Option Nat) (r : Nat) (w0 : Nat → Nat → Int32) (w1 : Int32), L_X4_append K  n 0 l1 LL sv p_size pg = some (r, w0, w1) → ∀ (H : Heap) (locs : List Loc), va_P (dC, dI) vwCl ([(p, .inr (4, [.ref ps, .ref pc, .int p_size, .int p_codeSize, .int p_outs, .int p_used])), (ps, aR cS 30 pg), (pc, aI cI 300 pk)] ++ va_pl LL (sE sv)) H → va_D A ([(p, .inr (4, [.ref ps, .ref pc, .int p_size, .int p_codeSize, .int p_outs, .int p_used])), (ps, aR cS 30 pg), (pc, aI cI 300 pk)] ++ va_pl LL (sE sv)) → va_S A ss_.heap H locs → ∀ ls : Array Slot, lv_has ls 3 [(0, .ref p), (1, .int l1)] → W pp_ l ee_ (headSpec wsX4_append ({ frames := 1, cells := 0, slots := 0, locals := 21 })).room ss_ mm_ #[.ref p, .int y1] below meth cc_ H locs 0 0 (MQ below (va_Qr (fun (_ : Unit) => True) (fun u b t => b = r ∧ BE dC dI A (fun _ => ([(p, .inr (4, [.ref ps, .ref pc, .int w1, .int p_codeSize, .int p_outs, .int p_used])), (ps, aR cS 30 pg), (pc, aI cI 300 pk)] ++ va_pl LL (sE w0))) u t) A) #[.ref p, .int y1] ss_ 0 0 A) (F0 mm_ 0 ls [])) := by
    intro n
    induction n with
    | zero => exact fun _ _ _ _ _ _ _ _ hF => absurd hF (fun e => by cases e)
    | succ n ih =>
      intro l1 LL sv p_size pg r w0 w1 hB H locs hP hD hS ls hl
      replace hB := Eq.trans (L_X4_append_e0 K  n l1 LL sv p_size pg).symm hB
      unfold B_X4_append_0 at hB
      refine lv_aload_n hx hb dX4_append_0 rfl (lv_at hl 0 rfl) ?_
      refine va_get (D := (dC, dI)) (ci := 4) (v := .int p_size) (C := RX4) (T := TX4) (N := 6) hx hb hts hiX4 hown hK hP 0 rfl rfl 2 (by decide) (hts (.fieldLink RX4 22 "WatchedPrograms$Program" "size" "I") (by decide +kernel)) (fun _ h9 => h9) rfl dX4_append_1 ?_
      refine lv_bipush (v := 29) hx hb dX4_append_4 (by decide) ?_
      refine va_mmin hx hb (hml.trans hl.1.symm) hown (hts (.methodLink RX4 35 Lib.Math.min.name) (by decide +kernel)) (hts (.static Lib.Math.min.name) (by decide +kernel)) (hts (.initialized "java/lang/Math") (by decide +kernel)) (hts (.code Lib.Math.min.name Lib.Math.min.code 2 (some .int)) (by decide +kernel)) (Nat.le_of_ble_eq_true rfl) (Nat.le_of_ble_eq_true rfl) (Nat.le_of_ble_eq_true rfl) (Nat.le_of_ble_eq_true rfl) dX4_append_6 ?_
      refine lv_istore_n (lv' := [(2, .int (if 29 < p_size then 29 else p_size)), (0, .ref p), (1, .int l1)]) hx hb dX4_append_9 rfl hl (by decide) rfl (fun ls hl => ?_)
      refine lv_aload_n hx hb dX4_append_10 rfl (lv_at hl 1 rfl) ?_
      refine lv_iload_n hx hb dX4_append_11 rfl (lv_at hl 0 rfl) ?_
      refine lv_iconst (v := 1) hx hb dX4_append_12 (by decide) ?_
      refine lv_iadd hx hb dX4_append_13 ?_
      refine va_put (D := (dC, dI)) (ci := 4) (v := .int ((if 29 < p_size then 29 else p_size) + 1)) (ty := .int) (C := RX4) (T := TX4) (N := 6) hx hb hts hiX4 tyX4 tyX4_ok nmX4 hown hK hP hD hS 0 rfl rfl 2 (by decide) (hts (.fieldLink RX4 22 "WatchedPrograms$Program" "size" "I") (by decide +kernel)) (fun _ h9 => h9) rfl (by decide +kernel) rfl rfl (Nat.le_of_ble_eq_true rfl) dX4_append_14 (fun H locs hP hD hS => ?_)
      have hP : va_P (dC, dI) vwCl ([(p, .inr (4, [.ref ps, .ref pc, .int ((if 29 < p_size then 29 else p_size) + 1), .int p_codeSize, .int p_outs, .int p_used])), (ps, aR cS 30 pg), (pc, aI cI 300 pk)] ++ va_pl LL (sE sv)) H := hP
      have hD : va_D A ([(p, .inr (4, [.ref ps, .ref pc, .int ((if 29 < p_size then 29 else p_size) + 1), .int p_codeSize, .int p_outs, .int p_used])), (ps, aR cS 30 pg), (pc, aI cI 300 pk)] ++ va_pl LL (sE sv)) := hD
      refine lv_aload_n hx hb dX4_append_17 rfl (lv_at hl 1 rfl) ?_
      refine va_get (D := (dC, dI)) (ci := 4) (v := .ref ps) (C := RX4) (T := TX4) (N := 6) hx hb hts hiX4 hown hK hP 0 rfl rfl 0 (by decide) (hts (.fieldLink RX4 11 "WatchedPrograms$Program" "statements" "[LWatchedPrograms$Statement;") (by decide +kernel)) (fun _ h9 => h9) rfl dX4_append_18 ?_
      refine lv_iload_n hx hb dX4_append_21 rfl (lv_at hl 0 rfl) ?_
      by_cases k_1 : okIx (if 29 < p_size then 29 else p_size) 30 = true
      case neg => rw [if_neg k_1] at hB; cases hB
      rw [if_pos k_1] at hB
      rcases hg_3 : pg ((if 29 < p_size then 29 else p_size)).toNatClampNeg with _ | ad_2
      · rw [hg_3] at hB; cases hB
      rw [hg_3] at hB; simp only [Option.bind_some] at hB
      by_cases hm_4 : ad_2 ∈ LL
      case neg => rw [if_neg hm_4] at hB; cases hB
      rw [if_pos hm_4] at hB
      refine va_aldq hx hb hK hP 1 2 rfl rfl (okIx_in k_1) dX4_append_22 ?_
      refine W.eq (g2 := F0 mm_ 23 ls [.ref ad_2]) (by rw [show (_ : Option Nat) = some ad_2 from hg_3]; rfl) ?_
      refine lv_iload_n hx hb dX4_append_23 rfl (lv_at hl 2 rfl) ?_
      rcases hc_6 : F_X5_reset K ad_2 l1 LL sv with _ | x_7
      · rw [hc_6] at hB; cases hB
      rw [hc_6] at hB
      simp only [Option.bind_some] at hB
      obtain ⟨kq_8, hkq_8⟩ := va_pl_get (X := []) (f := sE sv) hm_4
      have hFc := zq_freeP (cx := []) hD hS hA [] (by decide) rfl
      refine zPv (wr := [(p, .inr (4, [.ref ps, .ref pc, .int ((if 29 < p_size then 29 else p_size) + 1), .int p_codeSize, .int p_outs, .int p_used])), (ps, aR cS 30 pg), (pc, aI cI 300 pk)]) hP hD hS hFc [] [0, 1, 2] rfl rfl (by decide) (by decide) (va_runV (As := [.int l1]) (rest := []) ⟨hx, hb, hml, hown, hts⟩ (c_X5_reset l dC dI cI cJ cS H.size K ad_2 l1 LL sv x_7 hc_6) (cwV 1 hts gX4_append_X5_reset rfl rfl rfl (by decide +kernel) ⟨Nat.le_of_ble_eq_true rfl, Nat.le_of_ble_eq_true rfl⟩) (preEV (hP.part (cx := []) [] rfl) hE (hD.part (cx := []) [] (by decide) rfl) kq_8 (ci := 5) rfl hkq_8) rfl rfl hl.1 rfl (lv_room (Nat.le_of_ble_eq_true rfl)) dX4_append_24 ⟨Nat.le_refl _, Nat.le_refl _⟩) (fun H locs hP hD hS => ?_)
      have hP : va_P (dC, dI) vwCl ([(p, .inr (4, [.ref ps, .ref pc, .int ((if 29 < p_size then 29 else p_size) + 1), .int p_codeSize, .int p_outs, .int p_used])), (ps, aR cS 30 pg), (pc, aI cI 300 pk)] ++ va_pl LL (sE x_7)) H := hP
      have hD : va_D A ([(p, .inr (4, [.ref ps, .ref pc, .int ((if 29 < p_size then 29 else p_size) + 1), .int p_codeSize, .int p_outs, .int p_used])), (ps, aR cS 30 pg), (pc, aI cI 300 pk)] ++ va_pl LL (sE x_7)) := hD
      refine lv_aload_n hx hb dX4_append_27 rfl (lv_at hl 1 rfl) ?_
      refine va_get (D := (dC, dI)) (ci := 4) (v := .ref ps) (C := RX4) (T := TX4) (N := 6) hx hb hts hiX4 hown hK hP 0 rfl rfl 0 (by decide) (hts (.fieldLink RX4 11 "WatchedPrograms$Program" "statements" "[LWatchedPrograms$Statement;") (by decide +kernel)) (fun _ h9 => h9) rfl dX4_append_28 ?_
      refine lv_iload_n hx hb dX4_append_31 rfl (lv_at hl 0 rfl) ?_
      by_cases k_11 : okIx (if 29 < p_size then 29 else p_size) 30 = true
      case neg => rw [if_neg k_11] at hB; cases hB
      rw [if_pos k_11] at hB
      rw [if_pos hm_4] at hB
      refine va_aldq hx hb hK hP 1 2 rfl rfl (okIx_in k_11) dX4_append_32 ?_
      refine W.eq (g2 := F0 mm_ 33 ls [.ref ad_2]) (by rw [show (_ : Option Nat) = some ad_2 from hg_3]; rfl) ?_
      simp only [Option.some.injEq, Prod.mk.injEq] at hB
      obtain ⟨rfl, rfl, rfl⟩ := hB
      have hP9 := (hP.part (cx := [(p, .inr (4, [.ref ps, .ref pc, .int ((if 29 < p_size then 29 else p_size) + 1), .int p_codeSize, .int p_outs, .int p_used])), (ps, aR cS 30 pg), (pc, aI cI 300 pk)]) [0, 1, 2] rfl)
      have hD9 := (hD.part (cx := [(p, .inr (4, [.ref ps, .ref pc, .int ((if 29 < p_size then 29 else p_size) + 1), .int p_codeSize, .int p_outs, .int p_used])), (ps, aR cS 30 pg), (pc, aI cI 300 pk)]) [0, 1, 2] (by decide) rfl)
      exact W.aret (v := .ref ad_2) hx hb hr (Or.inl ⟨_, rfl⟩) (Or.inr ⟨_, rfl⟩) (fun tt_ ht hW => ⟨⟨(), _, rfl, trivial, rfl, by rw [ht]; exact hP9, hD9⟩, hS.F ht⟩) hS.2.2 dX4_append_33
  exact (key K) y1 LL sv p_size pg r w0 w1 hF _ _ hP hD hS ls hl
def B_X2_kept_0 (K : Nat)  (rec : Nat → Int32 → Option (Int32)) (m_cameOut : Int32) : Option (Int32) := some ((if 20 < m_cameOut then 20 else m_cameOut))
def L_X2_kept (K : Nat)  : Nat → Nat → Int32 → Option (Int32)
  | 0 => fun _ _ => none
  | n + 1 => fun c m_cameOut => match c with | 0 => B_X2_kept_0 K  (L_X2_kept K  n) m_cameOut | _ => none
theorem L_X2_kept_e0 (K : Nat)  (n : Nat) (m_cameOut : Int32) : L_X2_kept K  (n + 1) 0 m_cameOut = B_X2_kept_0 K  (L_X2_kept K  n) m_cameOut := rfl
def F_X2_kept (K : Nat)  (m_cameOut : Int32) : Option (Int32) := L_X2_kept K K 0 m_cameOut
set_option maxHeartbeats 2000000 in
set_option maxRecDepth 100000 in
theorem c_X2_kept (l : Launch) (dC : Nat → ClassId) (dI : Nat → Nat → Nat) (cI cJ cS : ClassId) (sz K : Nat) (m : Nat) (mn : Nat) (ml : Nat) (m_numbers : Int32) (m_steps : Int32) (m_cameOut : Int32) (mfn : Nat → Int32) (mfl : Nat → Int32) (r : Int32) (hF : F_X2_kept K m_cameOut = some (r)) : Met l yX2_kept wsX2_kept ({ frames := 1, cells := 0, slots := 0, locals := 13 }) (va_Pc [.ref m] (PE dC dI cI cJ cS [(m, .inr (2, [.ref mn, .ref ml, .int m_numbers, .int m_steps, .int m_cameOut])), (mn, aI cI 20 mfn), (ml, aI cI 20 mfl)] sz)) (va_Qi (fun (r_ : Int32) (_ : Unit) => r_ = r) (BE dC dI (va_A [(m, .inr (2, [.ref mn, .ref ml, .int m_numbers, .int m_steps, .int m_cameOut])), (mn, aI cI 20 mfn), (ml, aI cI 20 mfl)] sz) (fun _ => [(m, .inr (2, [.ref mn, .ref ml, .int m_numbers, .int m_steps, .int m_cameOut])), (mn, aI cI 20 mfn), (ml, aI cI 20 mfl)])) (va_A [(m, .inr (2, [.ref mn, .ref ml, .int m_numbers, .int m_steps, .int m_cameOut])), (mn, aI cI 20 mfn), (ml, aI cI 20 mfl)] sz)) 0 0 (va_A [(m, .inr (2, [.ref mn, .ref ml, .int m_numbers, .int m_steps, .int m_cameOut])), (mn, aI cI 20 mfn), (ml, aI cI 20 mfl)] sz) := by
  refine Met.ofW (cc := cX2_kept) (maxL := 1) (ret := (some .int)) (by decide) rfl ?_
  intro pp_ ee_ ss_ mm_ args below meth cc_ s₁ B hml hv
  obtain ⟨rfl, hsz, hP, hE, hD0⟩ := hv
  have hx := B.exec
  have hb := B.bytes
  have hr := B.returns
  have hts := atoms_spec (ws := wsX2_kept) B.pre
  have hown : ss_.vm.findClass RX2 = some mm_.cls := findClass_of_methodNamed B.named
  have hlocks := B.notSynchronized
  have hK := hE.1
  have hiX2 : ∀ w ∈ wsX20, w ∈ wsX2_kept := fun _ h => (List.mem_cons_of_mem _ (List.mem_append_right _ h))
  subst hsz
  have hD := hD0.self (sz := ss_.heap.size)
  generalize hAe : va_A [(m, .inr (2, [.ref mn, .ref ml, .int m_numbers, .int m_steps, .int m_cameOut])), (mn, aI cI 20 mfn), (ml, aI cI 20 mfl)] ss_.heap.size = A at hD ⊢
  have hA : ∀ q : Nat, ss_.heap.size ≤ q → A q := fun q h => by rw [← hAe]; exact Or.inr h
  have hS : va_S A ss_.heap ss_.heap [] := va_S.rf
  have hl := lv_entry ([.ref m]) (n := 1) (Nat.le_of_ble_eq_true rfl)
  rw [lg_entry_eq]
  generalize (lg_sl ([.ref m]) ++ List.replicate (1 - (lg_sl ([.ref m])).length) Slot.unset).toArray = ls at hl ⊢
  have hl : lv_has ls 1 [(0, .ref m)] := hl
  have key : ∀ n : Nat, (∀ (m_cameOut : Int32) (r : Int32), L_X2_kept K  n 0 m_cameOut = some (r) → ∀ (H : Heap) (locs : List Loc), va_P (dC, dI) vwCl [(m, .inr (2, [.ref mn, .ref ml, .int m_numbers, .int m_steps, .int m_cameOut])), (mn, aI cI 20 mfn), (ml, aI cI 20 mfl)] H → va_D A [(m, .inr (2, [.ref mn, .ref ml, .int m_numbers, .int m_steps, .int m_cameOut])), (mn, aI cI 20 mfn), (ml, aI cI 20 mfl)] → va_S A ss_.heap H locs → ∀ ls : Array Slot, lv_has ls 1 [(0, .ref m)] → W pp_ l ee_ (headSpec wsX2_kept ({ frames := 1, cells := 0, slots := 0, locals := 13 })).room ss_ mm_ #[.ref m] below meth cc_ H locs 0 0 (MQ below (va_Qi (fun (r_ : Int32) (_ : Unit) => r_ = r) (BE dC dI A (fun _ => [(m, .inr (2, [.ref mn, .ref ml, .int m_numbers, .int m_steps, .int m_cameOut])), (mn, aI cI 20 mfn), (ml, aI cI 20 mfl)])) A) #[.ref m] ss_ 0 0 A) (F0 mm_ 0 ls [])) := by
    intro n
    induction n with
    | zero => exact fun _ _ hF => absurd hF (fun e => by cases e)
    | succ n ih =>
      intro m_cameOut r hB H locs hP hD hS ls hl
      replace hB := Eq.trans (L_X2_kept_e0 K  n m_cameOut).symm hB
      unfold B_X2_kept_0 at hB
      refine lv_aload_n hx hb dX2_kept_0 rfl (lv_at hl 0 rfl) ?_
      refine va_get (D := (dC, dI)) (ci := 2) (v := .int m_cameOut) (C := RX2) (T := TX2) (N := 5) hx hb hts hiX2 hown hK hP 0 rfl rfl 4 (by decide) (hts (.fieldLink RX2 25 "WatchedPrograms$Machine" "cameOut" "I") (by decide +kernel)) (fun _ h9 => h9) rfl dX2_kept_1 ?_
      refine lv_bipush (v := 20) hx hb dX2_kept_4 (by decide) ?_
      refine va_mmin hx hb (hml.trans hl.1.symm) hown (hts (.methodLink RX2 37 Lib.Math.min.name) (by decide +kernel)) (hts (.static Lib.Math.min.name) (by decide +kernel)) (hts (.initialized "java/lang/Math") (by decide +kernel)) (hts (.code Lib.Math.min.name Lib.Math.min.code 2 (some .int)) (by decide +kernel)) (Nat.le_of_ble_eq_true rfl) (Nat.le_of_ble_eq_true rfl) (Nat.le_of_ble_eq_true rfl) (Nat.le_of_ble_eq_true rfl) dX2_kept_6 ?_
      obtain rfl := Option.some.inj hB
      have hP9 := (hP.sub (ws' := [(m, .inr (2, [.ref mn, .ref ml, .int m_numbers, .int m_steps, .int m_cameOut])), (mn, aI cI 20 mfn), (ml, aI cI 20 mfl)]) [0, 1, 2] rfl)
      have hD9 := (hD.sub (ws' := [(m, .inr (2, [.ref mn, .ref ml, .int m_numbers, .int m_steps, .int m_cameOut])), (mn, aI cI 20 mfn), (ml, aI cI 20 mfl)]) [0, 1, 2] (by decide) rfl)
      exact W.iret (v := (if 20 < m_cameOut then 20 else m_cameOut)) hx hb hr (fun tt_ ht hW => ⟨⟨_, (), rfl, rfl, by rw [ht]; exact hP9, hD9⟩, hS.F ht⟩) hS.2.2 dX2_kept_9
  exact (key K) m_cameOut r hF _ _ hP hD hS ls hl
def B_X2_assign_0 (K : Nat)  (rec : Nat → Int32 → Int32 → Int32 → Option (Int32)) (l1 : Int32) (l2 : Int32) (m_numbers : Int32) : Option (Int32) := some (((m_numbers &&& ((3 <<< ((2 * l1) &&& 31)) ^^^ (-1))) ||| (l2 <<< ((2 * l1) &&& 31))))
def L_X2_assign (K : Nat)  : Nat → Nat → Int32 → Int32 → Int32 → Option (Int32)
  | 0 => fun _ _ _ _ => none
  | n + 1 => fun c l1 l2 m_numbers => match c with | 0 => B_X2_assign_0 K  (L_X2_assign K  n) l1 l2 m_numbers | _ => none
theorem L_X2_assign_e0 (K : Nat)  (n : Nat) (l1 : Int32) (l2 : Int32) (m_numbers : Int32) : L_X2_assign K  (n + 1) 0 l1 l2 m_numbers = B_X2_assign_0 K  (L_X2_assign K  n) l1 l2 m_numbers := rfl
def F_X2_assign (K : Nat) (l1 : Int32) (l2 : Int32) (m_numbers : Int32) : Option (Int32) := L_X2_assign K K 0 l1 l2 m_numbers
set_option maxHeartbeats 2000000 in
set_option maxRecDepth 100000 in
theorem c_X2_assign (l : Launch) (dC : Nat → ClassId) (dI : Nat → Nat → Nat) (cI cJ cS : ClassId) (sz K : Nat) (m : Nat) (y1 : Int32) (y2 : Int32) (mn : Nat) (ml : Nat) (m_numbers : Int32) (m_steps : Int32) (m_cameOut : Int32) (mfn : Nat → Int32) (mfl : Nat → Int32) (w0 : Int32) (hF : F_X2_assign K y1 y2 m_numbers = some (w0)) : Met l yX2_assign wsX2_assign ({ frames := 0, cells := 0, slots := 0, locals := 0 }) (va_Pc [.ref m, .int y1, .int y2] (PE dC dI cI cJ cS [(m, .inr (2, [.ref mn, .ref ml, .int m_numbers, .int m_steps, .int m_cameOut])), (mn, aI cI 20 mfn), (ml, aI cI 20 mfl)] sz)) (va_Qv (fun (_ : Unit) => True) (BE dC dI (va_A [(m, .inr (2, [.ref mn, .ref ml, .int m_numbers, .int m_steps, .int m_cameOut])), (mn, aI cI 20 mfn), (ml, aI cI 20 mfl)] sz) (fun _ => [(m, .inr (2, [.ref mn, .ref ml, .int w0, .int m_steps, .int m_cameOut])), (mn, aI cI 20 mfn), (ml, aI cI 20 mfl)])) (va_A [(m, .inr (2, [.ref mn, .ref ml, .int m_numbers, .int m_steps, .int m_cameOut])), (mn, aI cI 20 mfn), (ml, aI cI 20 mfl)] sz)) 0 0 (va_A [(m, .inr (2, [.ref mn, .ref ml, .int m_numbers, .int m_steps, .int m_cameOut])), (mn, aI cI 20 mfn), (ml, aI cI 20 mfl)] sz) := by
  refine Met.ofW (cc := cX2_assign) (maxL := 4) (ret := none) (by decide) rfl ?_
  intro pp_ ee_ ss_ mm_ args below meth cc_ s₁ B hml hv
  obtain ⟨rfl, hsz, hP, hE, hD0⟩ := hv
  have hx := B.exec
  have hb := B.bytes
  have hr := B.returns
  have hts := atoms_spec (ws := wsX2_assign) B.pre
  have hown : ss_.vm.findClass RX2 = some mm_.cls := findClass_of_methodNamed B.named
  have hlocks := B.notSynchronized
  have hK := hE.1
  have hiX2 : ∀ w ∈ wsX20, w ∈ wsX2_assign := fun _ h => (List.mem_cons_of_mem _ (List.mem_append_right _ h))
  subst hsz
  have hD := hD0.self (sz := ss_.heap.size)
  generalize hAe : va_A [(m, .inr (2, [.ref mn, .ref ml, .int m_numbers, .int m_steps, .int m_cameOut])), (mn, aI cI 20 mfn), (ml, aI cI 20 mfl)] ss_.heap.size = A at hD ⊢
  have hA : ∀ q : Nat, ss_.heap.size ≤ q → A q := fun q h => by rw [← hAe]; exact Or.inr h
  have hS : va_S A ss_.heap ss_.heap [] := va_S.rf
  have hl := lv_entry ([.ref m, .int y1, .int y2]) (n := 4) (Nat.le_of_ble_eq_true rfl)
  rw [lg_entry_eq]
  generalize (lg_sl ([.ref m, .int y1, .int y2]) ++ List.replicate (4 - (lg_sl ([.ref m, .int y1, .int y2])).length) Slot.unset).toArray = ls at hl ⊢
  have hl : lv_has ls 4 [(0, .ref m), (1, .int y1), (2, .int y2)] := hl
  have key : ∀ n : Nat, (∀ (l1 : Int32) (l2 : Int32) (m_numbers : Int32) (w0 : Int32), L_X2_assign K  n 0 l1 l2 m_numbers = some (w0) → ∀ (H : Heap) (locs : List Loc), va_P (dC, dI) vwCl [(m, .inr (2, [.ref mn, .ref ml, .int m_numbers, .int m_steps, .int m_cameOut])), (mn, aI cI 20 mfn), (ml, aI cI 20 mfl)] H → va_D A [(m, .inr (2, [.ref mn, .ref ml, .int m_numbers, .int m_steps, .int m_cameOut])), (mn, aI cI 20 mfn), (ml, aI cI 20 mfl)] → va_S A ss_.heap H locs → ∀ ls : Array Slot, lv_has ls 4 [(0, .ref m), (1, .int l1), (2, .int l2)] → W pp_ l ee_ (headSpec wsX2_assign ({ frames := 0, cells := 0, slots := 0, locals := 0 })).room ss_ mm_ #[.ref m, .int y1, .int y2] below meth cc_ H locs 0 0 (MQ below (va_Qv (fun (_ : Unit) => True) (BE dC dI A (fun _ => [(m, .inr (2, [.ref mn, .ref ml, .int w0, .int m_steps, .int m_cameOut])), (mn, aI cI 20 mfn), (ml, aI cI 20 mfl)])) A) #[.ref m, .int y1, .int y2] ss_ 0 0 A) (F0 mm_ 0 ls [])) := by
    intro n
    induction n with
    | zero => exact fun _ _ _ _ hF => absurd hF (fun e => by cases e)
    | succ n ih =>
      intro l1 l2 m_numbers w0 hB H locs hP hD hS ls hl
      replace hB := Eq.trans (L_X2_assign_e0 K  n l1 l2 m_numbers).symm hB
      unfold B_X2_assign_0 at hB
      refine lv_iconst (v := 2) hx hb dX2_assign_0 (by decide) ?_
      refine lv_iload_n hx hb dX2_assign_1 rfl (lv_at hl 1 rfl) ?_
      refine lv_imul hx hb dX2_assign_2 ?_
      refine lv_istore_n (lv' := [(3, .int (2 * l1)), (0, .ref m), (1, .int l1), (2, .int l2)]) hx hb dX2_assign_3 rfl hl (by decide) rfl (fun ls hl => ?_)
      refine lv_aload_n hx hb dX2_assign_4 rfl (lv_at hl 1 rfl) ?_
      refine lv_aload_n hx hb dX2_assign_5 rfl (lv_at hl 1 rfl) ?_
      refine va_get (D := (dC, dI)) (ci := 2) (v := .int m_numbers) (C := RX2) (T := TX2) (N := 5) hx hb hts hiX2 hown hK hP 0 rfl rfl 2 (by decide) (hts (.fieldLink RX2 18 "WatchedPrograms$Machine" "numbers" "I") (by decide +kernel)) (fun _ h9 => h9) rfl dX2_assign_6 ?_
      refine lv_iconst (v := 3) hx hb dX2_assign_9 (by decide) ?_
      refine lv_iload_n hx hb dX2_assign_10 rfl (lv_at hl 0 rfl) ?_
      refine lv_ishl hx hb dX2_assign_11 ?_
      refine lv_iconst (v := (-1)) hx hb dX2_assign_12 (by decide) ?_
      refine lv_ixor hx hb dX2_assign_13 ?_
      refine lv_iand hx hb dX2_assign_14 ?_
      refine lv_iload_n hx hb dX2_assign_15 rfl (lv_at hl 3 rfl) ?_
      refine lv_iload_n hx hb dX2_assign_16 rfl (lv_at hl 0 rfl) ?_
      refine lv_ishl hx hb dX2_assign_17 ?_
      refine lv_ior hx hb dX2_assign_18 ?_
      refine va_put (D := (dC, dI)) (ci := 2) (v := .int ((m_numbers &&& ((3 <<< ((2 * l1) &&& 31)) ^^^ (-1))) ||| (l2 <<< ((2 * l1) &&& 31)))) (ty := .int) (C := RX2) (T := TX2) (N := 5) hx hb hts hiX2 tyX2 tyX2_ok nmX2 hown hK hP hD hS 0 rfl rfl 2 (by decide) (hts (.fieldLink RX2 18 "WatchedPrograms$Machine" "numbers" "I") (by decide +kernel)) (fun _ h9 => h9) rfl (by decide +kernel) rfl rfl (Nat.le_of_ble_eq_true rfl) dX2_assign_19 (fun H locs hP hD hS => ?_)
      have hP : va_P (dC, dI) vwCl [(m, .inr (2, [.ref mn, .ref ml, .int ((m_numbers &&& ((3 <<< ((2 * l1) &&& 31)) ^^^ (-1))) ||| (l2 <<< ((2 * l1) &&& 31))), .int m_steps, .int m_cameOut])), (mn, aI cI 20 mfn), (ml, aI cI 20 mfl)] H := hP
      have hD : va_D A [(m, .inr (2, [.ref mn, .ref ml, .int ((m_numbers &&& ((3 <<< ((2 * l1) &&& 31)) ^^^ (-1))) ||| (l2 <<< ((2 * l1) &&& 31))), .int m_steps, .int m_cameOut])), (mn, aI cI 20 mfn), (ml, aI cI 20 mfl)] := hD
      obtain rfl := Option.some.inj hB
      have hP9 := (hP.sub (ws' := [(m, .inr (2, [.ref mn, .ref ml, .int ((m_numbers &&& ((3 <<< ((2 * l1) &&& 31)) ^^^ (-1))) ||| (l2 <<< ((2 * l1) &&& 31))), .int m_steps, .int m_cameOut])), (mn, aI cI 20 mfn), (ml, aI cI 20 mfl)]) [0, 1, 2] rfl)
      have hD9 := (hD.sub (ws' := [(m, .inr (2, [.ref mn, .ref ml, .int ((m_numbers &&& ((3 <<< ((2 * l1) &&& 31)) ^^^ (-1))) ||| (l2 <<< ((2 * l1) &&& 31))), .int m_steps, .int m_cameOut])), (mn, aI cI 20 mfn), (ml, aI cI 20 mfl)]) [0, 1, 2] (by decide) rfl)
      exact W.vret hx hb hr (fun tt_ ht hW => ⟨⟨(), rfl, trivial, by rw [ht]; exact hP9, hD9⟩, hS.F ht⟩) hS.2.2 dX2_assign_22
  exact (key K) y1 y2 m_numbers w0 hF _ _ hP hD hS ls hl
def B_X2_putOut_0 (K : Nat)  (rec : Nat → Int32 → Int32 → Int32 → (Nat → Int32) → (Nat → Int32) → Option (Int32 × (Nat → Int32) × (Nat → Int32))) (l1 : Int32) (l2 : Int32) (m_cameOut : Int32) (mfn : Nat → Int32) (mfl : Nat → Int32) : Option (Int32 × (Nat → Int32) × (Nat → Int32)) := if (20 : Int32) ≤ m_cameOut then (rec 1 l1 l2 m_cameOut mfn mfl) else (if okIx m_cameOut 20 = true then (if okIx m_cameOut 20 = true then (rec 1 l1 l2 m_cameOut (upd mfn (m_cameOut).toNatClampNeg l1) (upd mfl (m_cameOut).toNatClampNeg l2)) else none) else none)
def B_X2_putOut_1 (K : Nat)  (rec : Nat → Int32 → Int32 → Int32 → (Nat → Int32) → (Nat → Int32) → Option (Int32 × (Nat → Int32) × (Nat → Int32))) (l1 : Int32) (l2 : Int32) (m_cameOut : Int32) (mfn : Nat → Int32) (mfl : Nat → Int32) : Option (Int32 × (Nat → Int32) × (Nat → Int32)) := some ((m_cameOut + 1), mfn, mfl)
def L_X2_putOut (K : Nat)  : Nat → Nat → Int32 → Int32 → Int32 → (Nat → Int32) → (Nat → Int32) → Option (Int32 × (Nat → Int32) × (Nat → Int32))
  | 0 => fun _ _ _ _ _ _ => none
  | n + 1 => fun c l1 l2 m_cameOut mfn mfl => match c with | 0 => B_X2_putOut_0 K  (L_X2_putOut K  n) l1 l2 m_cameOut mfn mfl | 1 => B_X2_putOut_1 K  (L_X2_putOut K  n) l1 l2 m_cameOut mfn mfl | _ => none
theorem L_X2_putOut_e0 (K : Nat)  (n : Nat) (l1 : Int32) (l2 : Int32) (m_cameOut : Int32) (mfn : Nat → Int32) (mfl : Nat → Int32) : L_X2_putOut K  (n + 1) 0 l1 l2 m_cameOut mfn mfl = B_X2_putOut_0 K  (L_X2_putOut K  n) l1 l2 m_cameOut mfn mfl := rfl
theorem L_X2_putOut_e1 (K : Nat)  (n : Nat) (l1 : Int32) (l2 : Int32) (m_cameOut : Int32) (mfn : Nat → Int32) (mfl : Nat → Int32) : L_X2_putOut K  (n + 1) 1 l1 l2 m_cameOut mfn mfl = B_X2_putOut_1 K  (L_X2_putOut K  n) l1 l2 m_cameOut mfn mfl := rfl
def F_X2_putOut (K : Nat) (l1 : Int32) (l2 : Int32) (m_cameOut : Int32) (mfn : Nat → Int32) (mfl : Nat → Int32) : Option (Int32 × (Nat → Int32) × (Nat → Int32)) := L_X2_putOut K K 0 l1 l2 m_cameOut mfn mfl
set_option maxHeartbeats 2000000 in
set_option maxRecDepth 100000 in
theorem c_X2_putOut (l : Launch) (dC : Nat → ClassId) (dI : Nat → Nat → Nat) (cI cJ cS : ClassId) (sz K : Nat) (m : Nat) (y1 : Int32) (y2 : Int32) (mn : Nat) (ml : Nat) (m_numbers : Int32) (m_steps : Int32) (m_cameOut : Int32) (mfn : Nat → Int32) (mfl : Nat → Int32) (w0 : Int32) (w1 : Nat → Int32) (w2 : Nat → Int32) (hF : F_X2_putOut K y1 y2 m_cameOut mfn mfl = some (w0, w1, w2)) : Met l yX2_putOut wsX2_putOut ({ frames := 0, cells := 0, slots := 0, locals := 0 }) (va_Pc [.ref m, .int y1, .int y2] (PE dC dI cI cJ cS [(m, .inr (2, [.ref mn, .ref ml, .int m_numbers, .int m_steps, .int m_cameOut])), (mn, aI cI 20 mfn), (ml, aI cI 20 mfl)] sz)) (va_Qv (fun (_ : Unit) => True) (BE dC dI (va_A [(m, .inr (2, [.ref mn, .ref ml, .int m_numbers, .int m_steps, .int m_cameOut])), (mn, aI cI 20 mfn), (ml, aI cI 20 mfl)] sz) (fun _ => [(m, .inr (2, [.ref mn, .ref ml, .int m_numbers, .int m_steps, .int w0])), (mn, aI cI 20 w1), (ml, aI cI 20 w2)])) (va_A [(m, .inr (2, [.ref mn, .ref ml, .int m_numbers, .int m_steps, .int m_cameOut])), (mn, aI cI 20 mfn), (ml, aI cI 20 mfl)] sz)) 0 0 (va_A [(m, .inr (2, [.ref mn, .ref ml, .int m_numbers, .int m_steps, .int m_cameOut])), (mn, aI cI 20 mfn), (ml, aI cI 20 mfl)] sz) := by
  refine Met.ofW (cc := cX2_putOut) (maxL := 3) (ret := none) (by decide) rfl ?_
  intro pp_ ee_ ss_ mm_ args below meth cc_ s₁ B hml hv
  obtain ⟨rfl, hsz, hP, hE, hD0⟩ := hv
  have hx := B.exec
  have hb := B.bytes
  have hr := B.returns
  have hts := atoms_spec (ws := wsX2_putOut) B.pre
  have hown : ss_.vm.findClass RX2 = some mm_.cls := findClass_of_methodNamed B.named
  have hlocks := B.notSynchronized
  have hK := hE.1
  have hiX2 : ∀ w ∈ wsX20, w ∈ wsX2_putOut := fun _ h => (List.mem_cons_of_mem _ (List.mem_append_right _ h))
  subst hsz
  have hD := hD0.self (sz := ss_.heap.size)
  generalize hAe : va_A [(m, .inr (2, [.ref mn, .ref ml, .int m_numbers, .int m_steps, .int m_cameOut])), (mn, aI cI 20 mfn), (ml, aI cI 20 mfl)] ss_.heap.size = A at hD ⊢
  have hA : ∀ q : Nat, ss_.heap.size ≤ q → A q := fun q h => by rw [← hAe]; exact Or.inr h
  have hS : va_S A ss_.heap ss_.heap [] := va_S.rf
  have hl := lv_entry ([.ref m, .int y1, .int y2]) (n := 3) (Nat.le_of_ble_eq_true rfl)
  rw [lg_entry_eq]
  generalize (lg_sl ([.ref m, .int y1, .int y2]) ++ List.replicate (3 - (lg_sl ([.ref m, .int y1, .int y2])).length) Slot.unset).toArray = ls at hl ⊢
  have hl : lv_has ls 3 [(0, .ref m), (1, .int y1), (2, .int y2)] := hl
  have key : ∀ n : Nat, (∀ (l1 : Int32) (l2 : Int32) (m_cameOut : Int32) (mfn : Nat → Int32) (mfl : Nat → Int32) (w0 : Int32) (w1 : Nat → Int32) (w2 : Nat → Int32), L_X2_putOut K  n 0 l1 l2 m_cameOut mfn mfl = some (w0, w1, w2) → ∀ (H : Heap) (locs : List Loc), va_P (dC, dI) vwCl [(m, .inr (2, [.ref mn, .ref ml, .int m_numbers, .int m_steps, .int m_cameOut])), (mn, aI cI 20 mfn), (ml, aI cI 20 mfl)] H → va_D A [(m, .inr (2, [.ref mn, .ref ml, .int m_numbers, .int m_steps, .int m_cameOut])), (mn, aI cI 20 mfn), (ml, aI cI 20 mfl)] → va_S A ss_.heap H locs → ∀ ls : Array Slot, lv_has ls 3 [(0, .ref m), (1, .int l1), (2, .int l2)] → W pp_ l ee_ (headSpec wsX2_putOut ({ frames := 0, cells := 0, slots := 0, locals := 0 })).room ss_ mm_ #[.ref m, .int y1, .int y2] below meth cc_ H locs 0 0 (MQ below (va_Qv (fun (_ : Unit) => True) (BE dC dI A (fun _ => [(m, .inr (2, [.ref mn, .ref ml, .int m_numbers, .int m_steps, .int w0])), (mn, aI cI 20 w1), (ml, aI cI 20 w2)])) A) #[.ref m, .int y1, .int y2] ss_ 0 0 A) (F0 mm_ 0 ls [])) ∧ (∀ (l1 : Int32) (l2 : Int32) (m_cameOut : Int32) (mfn : Nat → Int32) (mfl : Nat → Int32) (w0 : Int32) (w1 : Nat → Int32) (w2 : Nat → Int32), L_X2_putOut K  n 1 l1 l2 m_cameOut mfn mfl = some (w0, w1, w2) → ∀ (H : Heap) (locs : List Loc), va_P (dC, dI) vwCl [(m, .inr (2, [.ref mn, .ref ml, .int m_numbers, .int m_steps, .int m_cameOut])), (mn, aI cI 20 mfn), (ml, aI cI 20 mfl)] H → va_D A [(m, .inr (2, [.ref mn, .ref ml, .int m_numbers, .int m_steps, .int m_cameOut])), (mn, aI cI 20 mfn), (ml, aI cI 20 mfl)] → va_S A ss_.heap H locs → ∀ ls : Array Slot, lv_has ls 3 [(0, .ref m), (1, .int l1), (2, .int l2)] → W pp_ l ee_ (headSpec wsX2_putOut ({ frames := 0, cells := 0, slots := 0, locals := 0 })).room ss_ mm_ #[.ref m, .int y1, .int y2] below meth cc_ H locs 0 0 (MQ below (va_Qv (fun (_ : Unit) => True) (BE dC dI A (fun _ => [(m, .inr (2, [.ref mn, .ref ml, .int m_numbers, .int m_steps, .int w0])), (mn, aI cI 20 w1), (ml, aI cI 20 w2)])) A) #[.ref m, .int y1, .int y2] ss_ 0 0 A) (F0 mm_ 29 ls [])) := by
    intro n
    induction n with
    | zero => exact ⟨(fun _ _ _ _ _ _ _ _ hF => absurd hF (fun e => by cases e)), (fun _ _ _ _ _ _ _ _ hF => absurd hF (fun e => by cases e))⟩
    | succ n ih =>
      obtain ⟨ih0, ih1⟩ := ih
      refine ⟨?_, ?_⟩
      · intro l1 l2 m_cameOut mfn mfl w0 w1 w2 hB H locs hP hD hS ls hl
        replace hB := Eq.trans (L_X2_putOut_e0 K  n l1 l2 m_cameOut mfn mfl).symm hB
        unfold B_X2_putOut_0 at hB
        refine lv_aload_n hx hb dX2_putOut_0 rfl (lv_at hl 0 rfl) ?_
        refine va_get (D := (dC, dI)) (ci := 2) (v := .int m_cameOut) (C := RX2) (T := TX2) (N := 5) hx hb hts hiX2 hown hK hP 0 rfl rfl 4 (by decide) (hts (.fieldLink RX2 25 "WatchedPrograms$Machine" "cameOut" "I") (by decide +kernel)) (fun _ h9 => h9) rfl dX2_putOut_1 ?_
        refine lv_bipush (v := 20) hx hb dX2_putOut_4 (by decide) ?_
        refine lv_icmp_ge (tgt := 29) hx hb dX2_putOut_6 (by decide) (fun c_1 => ?_) (fun c_1 => ?_)
        · rw [if_pos c_1] at hB
          exact ih1 l1 l2 m_cameOut mfn mfl _ _ _ hB _ _ (hP.sub (ws' := [(m, .inr (2, [.ref mn, .ref ml, .int m_numbers, .int m_steps, .int m_cameOut])), (mn, aI cI 20 mfn), (ml, aI cI 20 mfl)]) [0, 1, 2] rfl) (hD.sub (ws' := [(m, .inr (2, [.ref mn, .ref ml, .int m_numbers, .int m_steps, .int m_cameOut])), (mn, aI cI 20 mfn), (ml, aI cI 20 mfl)]) [0, 1, 2] (by decide) rfl) hS ls (lv_sub hl [0, 1, 2] rfl)
        · rw [if_neg c_1] at hB
          refine lv_aload_n hx hb dX2_putOut_9 rfl (lv_at hl 0 rfl) ?_
          refine va_get (D := (dC, dI)) (ci := 2) (v := .ref mn) (C := RX2) (T := TX2) (N := 5) hx hb hts hiX2 hown hK hP 0 rfl rfl 0 (by decide) (hts (.fieldLink RX2 9 "WatchedPrograms$Machine" "tapeNumbers" "[I") (by decide +kernel)) (fun _ h9 => h9) rfl dX2_putOut_10 ?_
          refine lv_aload_n hx hb dX2_putOut_13 rfl (lv_at hl 0 rfl) ?_
          refine va_get (D := (dC, dI)) (ci := 2) (v := .int m_cameOut) (C := RX2) (T := TX2) (N := 5) hx hb hts hiX2 hown hK hP 0 rfl rfl 4 (by decide) (hts (.fieldLink RX2 25 "WatchedPrograms$Machine" "cameOut" "I") (by decide +kernel)) (fun _ h9 => h9) rfl dX2_putOut_14 ?_
          refine lv_iload_n hx hb dX2_putOut_17 rfl (lv_at hl 1 rfl) ?_
          by_cases k_2 : okIx m_cameOut 20 = true
          case neg => rw [if_neg k_2] at hB; cases hB
          rw [if_pos k_2] at hB
          refine va_iast hx hb hK hP hD hS 1 0 rfl rfl (okIx_in k_2) dX2_putOut_18 (fun H locs hP hD hS => ?_)
          have hP : va_P (dC, dI) vwCl [(m, .inr (2, [.ref mn, .ref ml, .int m_numbers, .int m_steps, .int m_cameOut])), (mn, aI cI 20 (upd mfn (m_cameOut).toNatClampNeg l1)), (ml, aI cI 20 mfl)] H := hP
          have hD : va_D A [(m, .inr (2, [.ref mn, .ref ml, .int m_numbers, .int m_steps, .int m_cameOut])), (mn, aI cI 20 (upd mfn (m_cameOut).toNatClampNeg l1)), (ml, aI cI 20 mfl)] := hD
          refine lv_aload_n hx hb dX2_putOut_19 rfl (lv_at hl 0 rfl) ?_
          refine va_get (D := (dC, dI)) (ci := 2) (v := .ref ml) (C := RX2) (T := TX2) (N := 5) hx hb hts hiX2 hown hK hP 0 rfl rfl 1 (by decide) (hts (.fieldLink RX2 15 "WatchedPrograms$Machine" "tapeLevels" "[I") (by decide +kernel)) (fun _ h9 => h9) rfl dX2_putOut_20 ?_
          refine lv_aload_n hx hb dX2_putOut_23 rfl (lv_at hl 0 rfl) ?_
          refine va_get (D := (dC, dI)) (ci := 2) (v := .int m_cameOut) (C := RX2) (T := TX2) (N := 5) hx hb hts hiX2 hown hK hP 0 rfl rfl 4 (by decide) (hts (.fieldLink RX2 25 "WatchedPrograms$Machine" "cameOut" "I") (by decide +kernel)) (fun _ h9 => h9) rfl dX2_putOut_24 ?_
          refine lv_iload_n hx hb dX2_putOut_27 rfl (lv_at hl 2 rfl) ?_
          by_cases k_3 : okIx m_cameOut 20 = true
          case neg => rw [if_neg k_3] at hB; cases hB
          rw [if_pos k_3] at hB
          refine va_iast hx hb hK hP hD hS 2 0 rfl rfl (okIx_in k_3) dX2_putOut_28 (fun H locs hP hD hS => ?_)
          have hP : va_P (dC, dI) vwCl [(m, .inr (2, [.ref mn, .ref ml, .int m_numbers, .int m_steps, .int m_cameOut])), (mn, aI cI 20 (upd mfn (m_cameOut).toNatClampNeg l1)), (ml, aI cI 20 (upd mfl (m_cameOut).toNatClampNeg l2))] H := hP
          have hD : va_D A [(m, .inr (2, [.ref mn, .ref ml, .int m_numbers, .int m_steps, .int m_cameOut])), (mn, aI cI 20 (upd mfn (m_cameOut).toNatClampNeg l1)), (ml, aI cI 20 (upd mfl (m_cameOut).toNatClampNeg l2))] := hD
          exact ih1 l1 l2 m_cameOut (upd mfn (m_cameOut).toNatClampNeg l1) (upd mfl (m_cameOut).toNatClampNeg l2) _ _ _ hB _ _ (hP.sub (ws' := [(m, .inr (2, [.ref mn, .ref ml, .int m_numbers, .int m_steps, .int m_cameOut])), (mn, aI cI 20 (upd mfn (m_cameOut).toNatClampNeg l1)), (ml, aI cI 20 (upd mfl (m_cameOut).toNatClampNeg l2))]) [0, 1, 2] rfl) (hD.sub (ws' := [(m, .inr (2, [.ref mn, .ref ml, .int m_numbers, .int m_steps, .int m_cameOut])), (mn, aI cI 20 (upd mfn (m_cameOut).toNatClampNeg l1)), (ml, aI cI 20 (upd mfl (m_cameOut).toNatClampNeg l2))]) [0, 1, 2] (by decide) rfl) hS ls (lv_sub hl [0, 1, 2] rfl)
      · intro l1 l2 m_cameOut mfn mfl w0 w1 w2 hB H locs hP hD hS ls hl
        replace hB := Eq.trans (L_X2_putOut_e1 K  n l1 l2 m_cameOut mfn mfl).symm hB
        unfold B_X2_putOut_1 at hB
        refine lv_aload_n hx hb dX2_putOut_29 rfl (lv_at hl 0 rfl) ?_
        refine lv_dup hx hb dX2_putOut_30 rfl ?_
        refine va_get (D := (dC, dI)) (ci := 2) (v := .int m_cameOut) (C := RX2) (T := TX2) (N := 5) hx hb hts hiX2 hown hK hP 0 rfl rfl 4 (by decide) (hts (.fieldLink RX2 25 "WatchedPrograms$Machine" "cameOut" "I") (by decide +kernel)) (fun _ h9 => h9) rfl dX2_putOut_31 ?_
        refine lv_iconst (v := 1) hx hb dX2_putOut_34 (by decide) ?_
        refine lv_iadd hx hb dX2_putOut_35 ?_
        refine va_put (D := (dC, dI)) (ci := 2) (v := .int (m_cameOut + 1)) (ty := .int) (C := RX2) (T := TX2) (N := 5) hx hb hts hiX2 tyX2 tyX2_ok nmX2 hown hK hP hD hS 0 rfl rfl 4 (by decide) (hts (.fieldLink RX2 25 "WatchedPrograms$Machine" "cameOut" "I") (by decide +kernel)) (fun _ h9 => h9) rfl (by decide +kernel) rfl rfl (Nat.le_of_ble_eq_true rfl) dX2_putOut_36 (fun H locs hP hD hS => ?_)
        have hP : va_P (dC, dI) vwCl [(m, .inr (2, [.ref mn, .ref ml, .int m_numbers, .int m_steps, .int (m_cameOut + 1)])), (mn, aI cI 20 mfn), (ml, aI cI 20 mfl)] H := hP
        have hD : va_D A [(m, .inr (2, [.ref mn, .ref ml, .int m_numbers, .int m_steps, .int (m_cameOut + 1)])), (mn, aI cI 20 mfn), (ml, aI cI 20 mfl)] := hD
        simp only [Option.some.injEq, Prod.mk.injEq] at hB
        obtain ⟨rfl, rfl, rfl⟩ := hB
        have hP9 := (hP.sub (ws' := [(m, .inr (2, [.ref mn, .ref ml, .int m_numbers, .int m_steps, .int (m_cameOut + 1)])), (mn, aI cI 20 mfn), (ml, aI cI 20 mfl)]) [0, 1, 2] rfl)
        have hD9 := (hD.sub (ws' := [(m, .inr (2, [.ref mn, .ref ml, .int m_numbers, .int m_steps, .int (m_cameOut + 1)])), (mn, aI cI 20 mfn), (ml, aI cI 20 mfl)]) [0, 1, 2] (by decide) rfl)
        exact W.vret hx hb hr (fun tt_ ht hW => ⟨⟨(), rfl, trivial, by rw [ht]; exact hP9, hD9⟩, hS.F ht⟩) hS.2.2 dX2_putOut_39
  exact (key K).1 y1 y2 m_cameOut mfn mfl w0 w1 w2 hF _ _ hP hD hS ls hl
def B_X2_valueOf_0 (K : Nat)  (rec : Nat → Nat → Int64 → Int32 → Int32 → Int32 → Int32 → Int32 → Int32 → Int64 → (List Nat) → (Nat → Nat → Int32) → Int32 → (Nat → Int32) → Option (Int32)) (a2 : Nat) (j3 : Int64) (l5 : Int32) (l6 : Int32) (l7 : Int32) (l8 : Int32) (l9 : Int32) (s0 : Int32) (u0 : Int64) (LL : List Nat) (sv : Nat → Nat → Int32) (m_numbers : Int32) (pk : Nat → Int32) : Option (Int32) := if a2 ∈ LL then (rec 1 a2 0 (sv a2 4) 0 0 0 0 0 0 LL sv m_numbers pk) else none
def B_X2_valueOf_1 (K : Nat)  (rec : Nat → Nat → Int64 → Int32 → Int32 → Int32 → Int32 → Int32 → Int32 → Int64 → (List Nat) → (Nat → Nat → Int32) → Int32 → (Nat → Int32) → Option (Int32)) (a2 : Nat) (j3 : Int64) (l5 : Int32) (l6 : Int32) (l7 : Int32) (l8 : Int32) (l9 : Int32) (s0 : Int32) (u0 : Int64) (LL : List Nat) (sv : Nat → Nat → Int32) (m_numbers : Int32) (pk : Nat → Int32) : Option (Int32) := if a2 ∈ LL then (if (sv a2 5) ≤ l5 then (rec 7 a2 j3 l5 0 0 0 0 0 0 LL sv m_numbers pk) else (if (300 : Int32) ≤ l5 then (rec 7 a2 j3 l5 0 0 0 0 0 0 LL sv m_numbers pk) else (if okIx l5 300 = true then (if (4 : Int32) ≤ (pk (l5).toNatClampNeg) then (if (16 : Int32) ≤ (pk (l5).toNatClampNeg) then (if (pk (l5).toNatClampNeg) = 20 then (if (lg_cmp (j3 &&& 3) (0 : Int64)) = 0 then (rec 2 a2 j3 l5 (pk (l5).toNatClampNeg) 0 0 0 1 (j3 &&& (-4)) LL sv m_numbers pk) else (rec 2 a2 j3 l5 (pk (l5).toNatClampNeg) 0 0 0 0 (j3 &&& (-4)) LL sv m_numbers pk)) else (if (pk (l5).toNatClampNeg) = 16 then (rec 5 a2 j3 l5 (pk (l5).toNatClampNeg) ((((j3).toUInt64 >>> ((2 : Int32).toInt64.toUInt64 &&& Int64.toUInt64 63)).toInt64).toInt32 &&& 3) ((j3).toInt32 &&& 3) (((((j3).toUInt64 >>> ((2 : Int32).toInt64.toUInt64 &&& Int64.toUInt64 63)).toInt64).toInt32 &&& 3) + ((j3).toInt32 &&& 3)) 0 0 LL sv m_numbers pk) else (if (pk (l5).toNatClampNeg) = 17 then (rec 5 a2 j3 l5 (pk (l5).toNatClampNeg) ((((j3).toUInt64 >>> ((2 : Int32).toInt64.toUInt64 &&& Int64.toUInt64 63)).toInt64).toInt32 &&& 3) ((j3).toInt32 &&& 3) (((((j3).toUInt64 >>> ((2 : Int32).toInt64.toUInt64 &&& Int64.toUInt64 63)).toInt64).toInt32 &&& 3) - ((j3).toInt32 &&& 3)) 0 0 LL sv m_numbers pk) else (if (pk (l5).toNatClampNeg) = 18 then (rec 5 a2 j3 l5 (pk (l5).toNatClampNeg) ((((j3).toUInt64 >>> ((2 : Int32).toInt64.toUInt64 &&& Int64.toUInt64 63)).toInt64).toInt32 &&& 3) ((j3).toInt32 &&& 3) (((((j3).toUInt64 >>> ((2 : Int32).toInt64.toUInt64 &&& Int64.toUInt64 63)).toInt64).toInt32 &&& 3) * ((j3).toInt32 &&& 3)) 0 0 LL sv m_numbers pk) else (if (pk (l5).toNatClampNeg) = 19 then (rec 5 a2 j3 l5 (pk (l5).toNatClampNeg) ((((j3).toUInt64 >>> ((2 : Int32).toInt64.toUInt64 &&& Int64.toUInt64 63)).toInt64).toInt32 &&& 3) ((j3).toInt32 &&& 3) (((((j3).toUInt64 >>> ((2 : Int32).toInt64.toUInt64 &&& Int64.toUInt64 63)).toInt64).toInt32 &&& 3) &&& ((j3).toInt32 &&& 3)) 0 0 LL sv m_numbers pk) else (if (pk (l5).toNatClampNeg) = 20 then (if ((((j3).toUInt64 >>> ((2 : Int32).toInt64.toUInt64 &&& Int64.toUInt64 63)).toInt64).toInt32 &&& 3) = ((j3).toInt32 &&& 3) then (rec 4 a2 j3 l5 (pk (l5).toNatClampNeg) ((((j3).toUInt64 >>> ((2 : Int32).toInt64.toUInt64 &&& Int64.toUInt64 63)).toInt64).toInt32 &&& 3) ((j3).toInt32 &&& 3) 0 1 0 LL sv m_numbers pk) else (rec 4 a2 j3 l5 (pk (l5).toNatClampNeg) ((((j3).toUInt64 >>> ((2 : Int32).toInt64.toUInt64 &&& Int64.toUInt64 63)).toInt64).toInt32 &&& 3) ((j3).toInt32 &&& 3) 0 0 0 LL sv m_numbers pk)) else (if (pk (l5).toNatClampNeg) = 21 then (if ((j3).toInt32 &&& 3) ≤ ((((j3).toUInt64 >>> ((2 : Int32).toInt64.toUInt64 &&& Int64.toUInt64 63)).toInt64).toInt32 &&& 3) then (rec 3 a2 j3 l5 (pk (l5).toNatClampNeg) ((((j3).toUInt64 >>> ((2 : Int32).toInt64.toUInt64 &&& Int64.toUInt64 63)).toInt64).toInt32 &&& 3) ((j3).toInt32 &&& 3) 0 0 0 LL sv m_numbers pk) else (rec 3 a2 j3 l5 (pk (l5).toNatClampNeg) ((((j3).toUInt64 >>> ((2 : Int32).toInt64.toUInt64 &&& Int64.toUInt64 63)).toInt64).toInt32 &&& 3) ((j3).toInt32 &&& 3) 0 1 0 LL sv m_numbers pk)) else (if ((((j3).toUInt64 >>> ((2 : Int32).toInt64.toUInt64 &&& Int64.toUInt64 63)).toInt64).toInt32 &&& 3) = ((j3).toInt32 &&& 3) then (rec 4 a2 j3 l5 (pk (l5).toNatClampNeg) ((((j3).toUInt64 >>> ((2 : Int32).toInt64.toUInt64 &&& Int64.toUInt64 63)).toInt64).toInt32 &&& 3) ((j3).toInt32 &&& 3) 0 1 0 LL sv m_numbers pk) else (rec 4 a2 j3 l5 (pk (l5).toNatClampNeg) ((((j3).toUInt64 >>> ((2 : Int32).toInt64.toUInt64 &&& Int64.toUInt64 63)).toInt64).toInt32 &&& 3) ((j3).toInt32 &&& 3) 0 0 0 LL sv m_numbers pk))))))))) else (rec 6 a2 ((j3 <<< ((2 : Int32).toInt64 &&& 63)) ||| ((((m_numbers).toUInt32 >>> ((((pk (l5).toNatClampNeg) - 4)).toUInt32 &&& Int32.toUInt32 31)).toInt32 &&& 3)).toInt64) l5 (pk (l5).toNatClampNeg) 0 0 0 0 0 LL sv m_numbers pk)) else (rec 6 a2 ((j3 <<< ((2 : Int32).toInt64 &&& 63)) ||| ((pk (l5).toNatClampNeg)).toInt64) l5 (pk (l5).toNatClampNeg) 0 0 0 0 0 LL sv m_numbers pk)) else none))) else none
def B_X2_valueOf_2 (K : Nat)  (rec : Nat → Nat → Int64 → Int32 → Int32 → Int32 → Int32 → Int32 → Int32 → Int64 → (List Nat) → (Nat → Nat → Int32) → Int32 → (Nat → Int32) → Option (Int32)) (a2 : Nat) (j3 : Int64) (l5 : Int32) (l6 : Int32) (l7 : Int32) (l8 : Int32) (l9 : Int32) (s0 : Int32) (u0 : Int64) (LL : List Nat) (sv : Nat → Nat → Int32) (m_numbers : Int32) (pk : Nat → Int32) : Option (Int32) := if a2 ∈ LL then (rec 6 a2 (u0 ||| (s0).toInt64) l5 l6 0 0 0 0 0 LL sv m_numbers pk) else none
def B_X2_valueOf_3 (K : Nat)  (rec : Nat → Nat → Int64 → Int32 → Int32 → Int32 → Int32 → Int32 → Int32 → Int64 → (List Nat) → (Nat → Nat → Int32) → Int32 → (Nat → Int32) → Option (Int32)) (a2 : Nat) (j3 : Int64) (l5 : Int32) (l6 : Int32) (l7 : Int32) (l8 : Int32) (l9 : Int32) (s0 : Int32) (u0 : Int64) (LL : List Nat) (sv : Nat → Nat → Int32) (m_numbers : Int32) (pk : Nat → Int32) : Option (Int32) := if a2 ∈ LL then (rec 5 a2 j3 l5 l6 l7 l8 s0 0 0 LL sv m_numbers pk) else none
def B_X2_valueOf_4 (K : Nat)  (rec : Nat → Nat → Int64 → Int32 → Int32 → Int32 → Int32 → Int32 → Int32 → Int64 → (List Nat) → (Nat → Nat → Int32) → Int32 → (Nat → Int32) → Option (Int32)) (a2 : Nat) (j3 : Int64) (l5 : Int32) (l6 : Int32) (l7 : Int32) (l8 : Int32) (l9 : Int32) (s0 : Int32) (u0 : Int64) (LL : List Nat) (sv : Nat → Nat → Int32) (m_numbers : Int32) (pk : Nat → Int32) : Option (Int32) := if a2 ∈ LL then (rec 5 a2 j3 l5 l6 l7 l8 s0 0 0 LL sv m_numbers pk) else none
def B_X2_valueOf_5 (K : Nat)  (rec : Nat → Nat → Int64 → Int32 → Int32 → Int32 → Int32 → Int32 → Int32 → Int64 → (List Nat) → (Nat → Nat → Int32) → Int32 → (Nat → Int32) → Option (Int32)) (a2 : Nat) (j3 : Int64) (l5 : Int32) (l6 : Int32) (l7 : Int32) (l8 : Int32) (l9 : Int32) (s0 : Int32) (u0 : Int64) (LL : List Nat) (sv : Nat → Nat → Int32) (m_numbers : Int32) (pk : Nat → Int32) : Option (Int32) := if a2 ∈ LL then (rec 6 a2 ((((j3).toUInt64 >>> ((4 : Int32).toInt64.toUInt64 &&& Int64.toUInt64 63)).toInt64 <<< ((2 : Int32).toInt64 &&& 63)) ||| ((l9 &&& 3)).toInt64) l5 l6 0 0 0 0 0 LL sv m_numbers pk) else none
def B_X2_valueOf_6 (K : Nat)  (rec : Nat → Nat → Int64 → Int32 → Int32 → Int32 → Int32 → Int32 → Int32 → Int64 → (List Nat) → (Nat → Nat → Int32) → Int32 → (Nat → Int32) → Option (Int32)) (a2 : Nat) (j3 : Int64) (l5 : Int32) (l6 : Int32) (l7 : Int32) (l8 : Int32) (l9 : Int32) (s0 : Int32) (u0 : Int64) (LL : List Nat) (sv : Nat → Nat → Int32) (m_numbers : Int32) (pk : Nat → Int32) : Option (Int32) := if a2 ∈ LL then (rec 1 a2 j3 (l5 + 1) 0 0 0 0 0 0 LL sv m_numbers pk) else none
def B_X2_valueOf_7 (K : Nat)  (rec : Nat → Nat → Int64 → Int32 → Int32 → Int32 → Int32 → Int32 → Int32 → Int64 → (List Nat) → (Nat → Nat → Int32) → Int32 → (Nat → Int32) → Option (Int32)) (a2 : Nat) (j3 : Int64) (l5 : Int32) (l6 : Int32) (l7 : Int32) (l8 : Int32) (l9 : Int32) (s0 : Int32) (u0 : Int64) (LL : List Nat) (sv : Nat → Nat → Int32) (m_numbers : Int32) (pk : Nat → Int32) : Option (Int32) := if a2 ∈ LL then (some (((j3).toInt32 &&& 3))) else none
def L_X2_valueOf (K : Nat)  : Nat → Nat → Nat → Int64 → Int32 → Int32 → Int32 → Int32 → Int32 → Int32 → Int64 → (List Nat) → (Nat → Nat → Int32) → Int32 → (Nat → Int32) → Option (Int32)
  | 0 => fun _ _ _ _ _ _ _ _ _ _ _ _ _ _ => none
  | n + 1 => fun c a2 j3 l5 l6 l7 l8 l9 s0 u0 LL sv m_numbers pk => match c with | 0 => B_X2_valueOf_0 K  (L_X2_valueOf K  n) a2 j3 l5 l6 l7 l8 l9 s0 u0 LL sv m_numbers pk | 1 => B_X2_valueOf_1 K  (L_X2_valueOf K  n) a2 j3 l5 l6 l7 l8 l9 s0 u0 LL sv m_numbers pk | 2 => B_X2_valueOf_2 K  (L_X2_valueOf K  n) a2 j3 l5 l6 l7 l8 l9 s0 u0 LL sv m_numbers pk | 3 => B_X2_valueOf_3 K  (L_X2_valueOf K  n) a2 j3 l5 l6 l7 l8 l9 s0 u0 LL sv m_numbers pk | 4 => B_X2_valueOf_4 K  (L_X2_valueOf K  n) a2 j3 l5 l6 l7 l8 l9 s0 u0 LL sv m_numbers pk | 5 => B_X2_valueOf_5 K  (L_X2_valueOf K  n) a2 j3 l5 l6 l7 l8 l9 s0 u0 LL sv m_numbers pk | 6 => B_X2_valueOf_6 K  (L_X2_valueOf K  n) a2 j3 l5 l6 l7 l8 l9 s0 u0 LL sv m_numbers pk | 7 => B_X2_valueOf_7 K  (L_X2_valueOf K  n) a2 j3 l5 l6 l7 l8 l9 s0 u0 LL sv m_numbers pk | _ => none
theorem L_X2_valueOf_e0 (K : Nat)  (n : Nat) (a2 : Nat) (j3 : Int64) (l5 : Int32) (l6 : Int32) (l7 : Int32) (l8 : Int32) (l9 : Int32) (s0 : Int32) (u0 : Int64) (LL : List Nat) (sv : Nat → Nat → Int32) (m_numbers : Int32) (pk : Nat → Int32) : L_X2_valueOf K  (n + 1) 0 a2 j3 l5 l6 l7 l8 l9 s0 u0 LL sv m_numbers pk = B_X2_valueOf_0 K  (L_X2_valueOf K  n) a2 j3 l5 l6 l7 l8 l9 s0 u0 LL sv m_numbers pk := rfl
theorem L_X2_valueOf_e1 (K : Nat)  (n : Nat) (a2 : Nat) (j3 : Int64) (l5 : Int32) (l6 : Int32) (l7 : Int32) (l8 : Int32) (l9 : Int32) (s0 : Int32) (u0 : Int64) (LL : List Nat) (sv : Nat → Nat → Int32) (m_numbers : Int32) (pk : Nat → Int32) : L_X2_valueOf K  (n + 1) 1 a2 j3 l5 l6 l7 l8 l9 s0 u0 LL sv m_numbers pk = B_X2_valueOf_1 K  (L_X2_valueOf K  n) a2 j3 l5 l6 l7 l8 l9 s0 u0 LL sv m_numbers pk := rfl
theorem L_X2_valueOf_e2 (K : Nat)  (n : Nat) (a2 : Nat) (j3 : Int64) (l5 : Int32) (l6 : Int32) (l7 : Int32) (l8 : Int32) (l9 : Int32) (s0 : Int32) (u0 : Int64) (LL : List Nat) (sv : Nat → Nat → Int32) (m_numbers : Int32) (pk : Nat → Int32) : L_X2_valueOf K  (n + 1) 2 a2 j3 l5 l6 l7 l8 l9 s0 u0 LL sv m_numbers pk = B_X2_valueOf_2 K  (L_X2_valueOf K  n) a2 j3 l5 l6 l7 l8 l9 s0 u0 LL sv m_numbers pk := rfl
theorem L_X2_valueOf_e3 (K : Nat)  (n : Nat) (a2 : Nat) (j3 : Int64) (l5 : Int32) (l6 : Int32) (l7 : Int32) (l8 : Int32) (l9 : Int32) (s0 : Int32) (u0 : Int64) (LL : List Nat) (sv : Nat → Nat → Int32) (m_numbers : Int32) (pk : Nat → Int32) : L_X2_valueOf K  (n + 1) 3 a2 j3 l5 l6 l7 l8 l9 s0 u0 LL sv m_numbers pk = B_X2_valueOf_3 K  (L_X2_valueOf K  n) a2 j3 l5 l6 l7 l8 l9 s0 u0 LL sv m_numbers pk := rfl
theorem L_X2_valueOf_e4 (K : Nat)  (n : Nat) (a2 : Nat) (j3 : Int64) (l5 : Int32) (l6 : Int32) (l7 : Int32) (l8 : Int32) (l9 : Int32) (s0 : Int32) (u0 : Int64) (LL : List Nat) (sv : Nat → Nat → Int32) (m_numbers : Int32) (pk : Nat → Int32) : L_X2_valueOf K  (n + 1) 4 a2 j3 l5 l6 l7 l8 l9 s0 u0 LL sv m_numbers pk = B_X2_valueOf_4 K  (L_X2_valueOf K  n) a2 j3 l5 l6 l7 l8 l9 s0 u0 LL sv m_numbers pk := rfl
theorem L_X2_valueOf_e5 (K : Nat)  (n : Nat) (a2 : Nat) (j3 : Int64) (l5 : Int32) (l6 : Int32) (l7 : Int32) (l8 : Int32) (l9 : Int32) (s0 : Int32) (u0 : Int64) (LL : List Nat) (sv : Nat → Nat → Int32) (m_numbers : Int32) (pk : Nat → Int32) : L_X2_valueOf K  (n + 1) 5 a2 j3 l5 l6 l7 l8 l9 s0 u0 LL sv m_numbers pk = B_X2_valueOf_5 K  (L_X2_valueOf K  n) a2 j3 l5 l6 l7 l8 l9 s0 u0 LL sv m_numbers pk := rfl
theorem L_X2_valueOf_e6 (K : Nat)  (n : Nat) (a2 : Nat) (j3 : Int64) (l5 : Int32) (l6 : Int32) (l7 : Int32) (l8 : Int32) (l9 : Int32) (s0 : Int32) (u0 : Int64) (LL : List Nat) (sv : Nat → Nat → Int32) (m_numbers : Int32) (pk : Nat → Int32) : L_X2_valueOf K  (n + 1) 6 a2 j3 l5 l6 l7 l8 l9 s0 u0 LL sv m_numbers pk = B_X2_valueOf_6 K  (L_X2_valueOf K  n) a2 j3 l5 l6 l7 l8 l9 s0 u0 LL sv m_numbers pk := rfl
theorem L_X2_valueOf_e7 (K : Nat)  (n : Nat) (a2 : Nat) (j3 : Int64) (l5 : Int32) (l6 : Int32) (l7 : Int32) (l8 : Int32) (l9 : Int32) (s0 : Int32) (u0 : Int64) (LL : List Nat) (sv : Nat → Nat → Int32) (m_numbers : Int32) (pk : Nat → Int32) : L_X2_valueOf K  (n + 1) 7 a2 j3 l5 l6 l7 l8 l9 s0 u0 LL sv m_numbers pk = B_X2_valueOf_7 K  (L_X2_valueOf K  n) a2 j3 l5 l6 l7 l8 l9 s0 u0 LL sv m_numbers pk := rfl
def F_X2_valueOf (K : Nat) (a2 : Nat) (LL : List Nat) (sv : Nat → Nat → Int32) (m_numbers : Int32) (pk : Nat → Int32) : Option (Int32) := L_X2_valueOf K K 0 a2 0 0 0 0 0 0 0 0 LL sv m_numbers pk
set_option maxHeartbeats 2000000 in
set_option maxRecDepth 100000 in
theorem c_X2_valueOf (l : Launch) (dC : Nat → ClassId) (dI : Nat → Nat → Nat) (cI cJ cS : ClassId) (sz K : Nat) (m : Nat) (p : Nat) (sa : Nat) (mn : Nat) (ml : Nat) (m_numbers : Int32) (m_steps : Int32) (m_cameOut : Int32) (mfn : Nat → Int32) (mfl : Nat → Int32) (ps : Nat) (pc : Nat) (p_size : Int32) (p_codeSize : Int32) (p_outs : Int32) (p_used : Int32) (pg : Nat → Option Nat) (pk : Nat → Int32) (LL : List Nat) (sv : Nat → Nat → Int32) (r : Int32) (hF : F_X2_valueOf K sa LL sv m_numbers pk = some (r)) : Met l yX2_valueOf wsX2_valueOf ({ frames := 0, cells := 0, slots := 0, locals := 0 }) (va_Pc [.ref m, .ref p, .ref sa] (PE dC dI cI cJ cS ([(m, .inr (2, [.ref mn, .ref ml, .int m_numbers, .int m_steps, .int m_cameOut])), (mn, aI cI 20 mfn), (ml, aI cI 20 mfl), (p, .inr (4, [.ref ps, .ref pc, .int p_size, .int p_codeSize, .int p_outs, .int p_used])), (ps, aR cS 30 pg), (pc, aI cI 300 pk)] ++ va_pl LL (sE sv)) sz)) (va_Qi (fun (r_ : Int32) (_ : Unit) => r_ = r) (BE dC dI (va_A ([(m, .inr (2, [.ref mn, .ref ml, .int m_numbers, .int m_steps, .int m_cameOut])), (mn, aI cI 20 mfn), (ml, aI cI 20 mfl), (p, .inr (4, [.ref ps, .ref pc, .int p_size, .int p_codeSize, .int p_outs, .int p_used])), (ps, aR cS 30 pg), (pc, aI cI 300 pk)] ++ va_pl LL (sE sv)) sz) (fun _ => ([(m, .inr (2, [.ref mn, .ref ml, .int m_numbers, .int m_steps, .int m_cameOut])), (mn, aI cI 20 mfn), (ml, aI cI 20 mfl), (p, .inr (4, [.ref ps, .ref pc, .int p_size, .int p_codeSize, .int p_outs, .int p_used])), (ps, aR cS 30 pg), (pc, aI cI 300 pk)] ++ va_pl LL (sE sv)))) (va_A ([(m, .inr (2, [.ref mn, .ref ml, .int m_numbers, .int m_steps, .int m_cameOut])), (mn, aI cI 20 mfn), (ml, aI cI 20 mfl), (p, .inr (4, [.ref ps, .ref pc, .int p_size, .int p_codeSize, .int p_outs, .int p_used])), (ps, aR cS 30 pg), (pc, aI cI 300 pk)] ++ va_pl LL (sE sv)) sz)) 0 0 (va_A ([(m, .inr (2, [.ref mn, .ref ml, .int m_numbers, .int m_steps, .int m_cameOut])), (mn, aI cI 20 mfn), (ml, aI cI 20 mfl), (p, .inr (4, [.ref ps, .ref pc, .int p_size, .int p_codeSize, .int p_outs, .int p_used])), (ps, aR cS 30 pg), (pc, aI cI 300 pk)] ++ va_pl LL (sE sv)) sz) := by
  refine Met.ofW (cc := cX2_valueOf) (maxL := 10) (ret := (some .int)) (by decide) rfl ?_
  intro pp_ ee_ ss_ mm_ args below meth cc_ s₁ B hml hv
  obtain ⟨rfl, hsz, hP, hE, hD0⟩ := hv
  have hx := B.exec
  have hb := B.bytes
  have hr := B.returns
  have hts := atoms_spec (ws := wsX2_valueOf) B.pre
  have hown : ss_.vm.findClass RX2 = some mm_.cls := findClass_of_methodNamed B.named
  have hlocks := B.notSynchronized
  have hK := hE.1
  have hiX2 : ∀ w ∈ wsX20, w ∈ wsX2_valueOf := fun _ h => (List.mem_cons_of_mem _ (List.mem_append_right _ h))
  have hiX4 : ∀ w ∈ wsX40, w ∈ wsX2_valueOf := fun _ h => (List.mem_cons_of_mem _ (List.mem_append_left _ (List.mem_append_right _ h)))
  have hiX5 : ∀ w ∈ wsX50, w ∈ wsX2_valueOf := fun _ h => (List.mem_cons_of_mem _ (List.mem_append_left _ (List.mem_append_left _ (List.mem_append_right _ h))))
  subst hsz
  have hD := hD0.self (sz := ss_.heap.size)
  generalize hAe : va_A ([(m, .inr (2, [.ref mn, .ref ml, .int m_numbers, .int m_steps, .int m_cameOut])), (mn, aI cI 20 mfn), (ml, aI cI 20 mfl), (p, .inr (4, [.ref ps, .ref pc, .int p_size, .int p_codeSize, .int p_outs, .int p_used])), (ps, aR cS 30 pg), (pc, aI cI 300 pk)] ++ va_pl LL (sE sv)) ss_.heap.size = A at hD ⊢
  have hA : ∀ q : Nat, ss_.heap.size ≤ q → A q := fun q h => by rw [← hAe]; exact Or.inr h
  have hS : va_S A ss_.heap ss_.heap [] := va_S.rf
  have hl := lv_entry ([.ref m, .ref p, .ref sa]) (n := 10) (Nat.le_of_ble_eq_true rfl)
  rw [lg_entry_eq]
  generalize (lg_sl ([.ref m, .ref p, .ref sa]) ++ List.replicate (10 - (lg_sl ([.ref m, .ref p, .ref sa])).length) Slot.unset).toArray = ls at hl ⊢
  have hl : lv_has ls 10 [(0, .ref m), (1, .ref p), (2, .ref sa)] := hl
  have key : ∀ n : Nat, (∀ (a2 : Nat) (j3 : Int64) (l5 : Int32) (l6 : Int32) (l7 : Int32) (l8 : Int32) (l9 : Int32) (s0 : Int32) (u0 : Int64) (LL : List Nat) (sv : Nat → Nat → Int32) (m_numbers : Int32) (pk : Nat → Int32) (r : Int32), L_X2_valueOf K  n 0 a2 j3 l5 l6 l7 l8 l9 s0 u0 LL sv m_numbers pk = some (r) → ∀ (H : Heap) (locs : List Loc), va_P (dC, dI) vwCl ([(m, .inr (2, [.ref mn, .ref ml, .int m_numbers, .int m_steps, .int m_cameOut])), (mn, aI cI 20 mfn), (ml, aI cI 20 mfl), (p, .inr (4, [.ref ps, .ref pc, .int p_size, .int p_codeSize, .int p_outs, .int p_used])), (ps, aR cS 30 pg), (pc, aI cI 300 pk)] ++ va_pl LL (sE sv)) H → va_D A ([(m, .inr (2, [.ref mn, .ref ml, .int m_numbers, .int m_steps, .int m_cameOut])), (mn, aI cI 20 mfn), (ml, aI cI 20 mfl), (p, .inr (4, [.ref ps, .ref pc, .int p_size, .int p_codeSize, .int p_outs, .int p_used])), (ps, aR cS 30 pg), (pc, aI cI 300 pk)] ++ va_pl LL (sE sv)) → va_S A ss_.heap H locs → ∀ ls : Array Slot, lv_has ls 10 [(0, .ref m), (1, .ref p), (2, .ref a2)] → W pp_ l ee_ (headSpec wsX2_valueOf ({ frames := 0, cells := 0, slots := 0, locals := 0 })).room ss_ mm_ #[.ref m, .ref p, .ref sa] below meth cc_ H locs 0 0 (MQ below (va_Qi (fun (r_ : Int32) (_ : Unit) => r_ = r) (BE dC dI A (fun _ => ([(m, .inr (2, [.ref mn, .ref ml, .int m_numbers, .int m_steps, .int m_cameOut])), (mn, aI cI 20 mfn), (ml, aI cI 20 mfl), (p, .inr (4, [.ref ps, .ref pc, .int p_size, .int p_codeSize, .int p_outs, .int p_used])), (ps, aR cS 30 pg), (pc, aI cI 300 pk)] ++ va_pl LL (sE sv)))) A) #[.ref m, .ref p, .ref sa] ss_ 0 0 A) (F0 mm_ 0 ls [])) ∧ (∀ (a2 : Nat) (j3 : Int64) (l5 : Int32) (l6 : Int32) (l7 : Int32) (l8 : Int32) (l9 : Int32) (s0 : Int32) (u0 : Int64) (LL : List Nat) (sv : Nat → Nat → Int32) (m_numbers : Int32) (pk : Nat → Int32) (r : Int32), L_X2_valueOf K  n 1 a2 j3 l5 l6 l7 l8 l9 s0 u0 LL sv m_numbers pk = some (r) → ∀ (H : Heap) (locs : List Loc), va_P (dC, dI) vwCl ([(m, .inr (2, [.ref mn, .ref ml, .int m_numbers, .int m_steps, .int m_cameOut])), (mn, aI cI 20 mfn), (ml, aI cI 20 mfl), (p, .inr (4, [.ref ps, .ref pc, .int p_size, .int p_codeSize, .int p_outs, .int p_used])), (ps, aR cS 30 pg), (pc, aI cI 300 pk)] ++ va_pl LL (sE sv)) H → va_D A ([(m, .inr (2, [.ref mn, .ref ml, .int m_numbers, .int m_steps, .int m_cameOut])), (mn, aI cI 20 mfn), (ml, aI cI 20 mfl), (p, .inr (4, [.ref ps, .ref pc, .int p_size, .int p_codeSize, .int p_outs, .int p_used])), (ps, aR cS 30 pg), (pc, aI cI 300 pk)] ++ va_pl LL (sE sv)) → va_S A ss_.heap H locs → ∀ ls : Array Slot, lv_has ls 10 [(0, .ref m), (1, .ref p), (2, .ref a2), (3, .long j3), (5, .int l5)] → W pp_ l ee_ (headSpec wsX2_valueOf ({ frames := 0, cells := 0, slots := 0, locals := 0 })).room ss_ mm_ #[.ref m, .ref p, .ref sa] below meth cc_ H locs 0 0 (MQ below (va_Qi (fun (r_ : Int32) (_ : Unit) => r_ = r) (BE dC dI A (fun _ => ([(m, .inr (2, [.ref mn, .ref ml, .int m_numbers, .int m_steps, .int m_cameOut])), (mn, aI cI 20 mfn), (ml, aI cI 20 mfl), (p, .inr (4, [.ref ps, .ref pc, .int p_size, .int p_codeSize, .int p_outs, .int p_used])), (ps, aR cS 30 pg), (pc, aI cI 300 pk)] ++ va_pl LL (sE sv)))) A) #[.ref m, .ref p, .ref sa] ss_ 0 0 A) (F0 mm_ 8 ls [])) ∧ (∀ (a2 : Nat) (j3 : Int64) (l5 : Int32) (l6 : Int32) (l7 : Int32) (l8 : Int32) (l9 : Int32) (s0 : Int32) (u0 : Int64) (LL : List Nat) (sv : Nat → Nat → Int32) (m_numbers : Int32) (pk : Nat → Int32) (r : Int32), L_X2_valueOf K  n 2 a2 j3 l5 l6 l7 l8 l9 s0 u0 LL sv m_numbers pk = some (r) → ∀ (H : Heap) (locs : List Loc), va_P (dC, dI) vwCl ([(m, .inr (2, [.ref mn, .ref ml, .int m_numbers, .int m_steps, .int m_cameOut])), (mn, aI cI 20 mfn), (ml, aI cI 20 mfl), (p, .inr (4, [.ref ps, .ref pc, .int p_size, .int p_codeSize, .int p_outs, .int p_used])), (ps, aR cS 30 pg), (pc, aI cI 300 pk)] ++ va_pl LL (sE sv)) H → va_D A ([(m, .inr (2, [.ref mn, .ref ml, .int m_numbers, .int m_steps, .int m_cameOut])), (mn, aI cI 20 mfn), (ml, aI cI 20 mfl), (p, .inr (4, [.ref ps, .ref pc, .int p_size, .int p_codeSize, .int p_outs, .int p_used])), (ps, aR cS 30 pg), (pc, aI cI 300 pk)] ++ va_pl LL (sE sv)) → va_S A ss_.heap H locs → ∀ ls : Array Slot, lv_has ls 10 [(0, .ref m), (1, .ref p), (2, .ref a2), (3, .long j3), (5, .int l5), (6, .int l6)] → W pp_ l ee_ (headSpec wsX2_valueOf ({ frames := 0, cells := 0, slots := 0, locals := 0 })).room ss_ mm_ #[.ref m, .ref p, .ref sa] below meth cc_ H locs 0 0 (MQ below (va_Qi (fun (r_ : Int32) (_ : Unit) => r_ = r) (BE dC dI A (fun _ => ([(m, .inr (2, [.ref mn, .ref ml, .int m_numbers, .int m_steps, .int m_cameOut])), (mn, aI cI 20 mfn), (ml, aI cI 20 mfl), (p, .inr (4, [.ref ps, .ref pc, .int p_size, .int p_codeSize, .int p_outs, .int p_used])), (ps, aR cS 30 pg), (pc, aI cI 300 pk)] ++ va_pl LL (sE sv)))) A) #[.ref m, .ref p, .ref sa] ss_ 0 0 A) (F0 mm_ 105 ls [.int s0, .long u0])) ∧ (∀ (a2 : Nat) (j3 : Int64) (l5 : Int32) (l6 : Int32) (l7 : Int32) (l8 : Int32) (l9 : Int32) (s0 : Int32) (u0 : Int64) (LL : List Nat) (sv : Nat → Nat → Int32) (m_numbers : Int32) (pk : Nat → Int32) (r : Int32), L_X2_valueOf K  n 3 a2 j3 l5 l6 l7 l8 l9 s0 u0 LL sv m_numbers pk = some (r) → ∀ (H : Heap) (locs : List Loc), va_P (dC, dI) vwCl ([(m, .inr (2, [.ref mn, .ref ml, .int m_numbers, .int m_steps, .int m_cameOut])), (mn, aI cI 20 mfn), (ml, aI cI 20 mfl), (p, .inr (4, [.ref ps, .ref pc, .int p_size, .int p_codeSize, .int p_outs, .int p_used])), (ps, aR cS 30 pg), (pc, aI cI 300 pk)] ++ va_pl LL (sE sv)) H → va_D A ([(m, .inr (2, [.ref mn, .ref ml, .int m_numbers, .int m_steps, .int m_cameOut])), (mn, aI cI 20 mfn), (ml, aI cI 20 mfl), (p, .inr (4, [.ref ps, .ref pc, .int p_size, .int p_codeSize, .int p_outs, .int p_used])), (ps, aR cS 30 pg), (pc, aI cI 300 pk)] ++ va_pl LL (sE sv)) → va_S A ss_.heap H locs → ∀ ls : Array Slot, lv_has ls 10 [(0, .ref m), (1, .ref p), (2, .ref a2), (3, .long j3), (5, .int l5), (6, .int l6), (7, .int l7), (8, .int l8)] → W pp_ l ee_ (headSpec wsX2_valueOf ({ frames := 0, cells := 0, slots := 0, locals := 0 })).room ss_ mm_ #[.ref m, .ref p, .ref sa] below meth cc_ H locs 0 0 (MQ below (va_Qi (fun (r_ : Int32) (_ : Unit) => r_ = r) (BE dC dI A (fun _ => ([(m, .inr (2, [.ref mn, .ref ml, .int m_numbers, .int m_steps, .int m_cameOut])), (mn, aI cI 20 mfn), (ml, aI cI 20 mfl), (p, .inr (4, [.ref ps, .ref pc, .int p_size, .int p_codeSize, .int p_outs, .int p_used])), (ps, aR cS 30 pg), (pc, aI cI 300 pk)] ++ va_pl LL (sE sv)))) A) #[.ref m, .ref p, .ref sa] ss_ 0 0 A) (F0 mm_ 216 ls [.int s0])) ∧ (∀ (a2 : Nat) (j3 : Int64) (l5 : Int32) (l6 : Int32) (l7 : Int32) (l8 : Int32) (l9 : Int32) (s0 : Int32) (u0 : Int64) (LL : List Nat) (sv : Nat → Nat → Int32) (m_numbers : Int32) (pk : Nat → Int32) (r : Int32), L_X2_valueOf K  n 4 a2 j3 l5 l6 l7 l8 l9 s0 u0 LL sv m_numbers pk = some (r) → ∀ (H : Heap) (locs : List Loc), va_P (dC, dI) vwCl ([(m, .inr (2, [.ref mn, .ref ml, .int m_numbers, .int m_steps, .int m_cameOut])), (mn, aI cI 20 mfn), (ml, aI cI 20 mfl), (p, .inr (4, [.ref ps, .ref pc, .int p_size, .int p_codeSize, .int p_outs, .int p_used])), (ps, aR cS 30 pg), (pc, aI cI 300 pk)] ++ va_pl LL (sE sv)) H → va_D A ([(m, .inr (2, [.ref mn, .ref ml, .int m_numbers, .int m_steps, .int m_cameOut])), (mn, aI cI 20 mfn), (ml, aI cI 20 mfl), (p, .inr (4, [.ref ps, .ref pc, .int p_size, .int p_codeSize, .int p_outs, .int p_used])), (ps, aR cS 30 pg), (pc, aI cI 300 pk)] ++ va_pl LL (sE sv)) → va_S A ss_.heap H locs → ∀ ls : Array Slot, lv_has ls 10 [(0, .ref m), (1, .ref p), (2, .ref a2), (3, .long j3), (5, .int l5), (6, .int l6), (7, .int l7), (8, .int l8)] → W pp_ l ee_ (headSpec wsX2_valueOf ({ frames := 0, cells := 0, slots := 0, locals := 0 })).room ss_ mm_ #[.ref m, .ref p, .ref sa] below meth cc_ H locs 0 0 (MQ below (va_Qi (fun (r_ : Int32) (_ : Unit) => r_ = r) (BE dC dI A (fun _ => ([(m, .inr (2, [.ref mn, .ref ml, .int m_numbers, .int m_steps, .int m_cameOut])), (mn, aI cI 20 mfn), (ml, aI cI 20 mfl), (p, .inr (4, [.ref ps, .ref pc, .int p_size, .int p_codeSize, .int p_outs, .int p_used])), (ps, aR cS 30 pg), (pc, aI cI 300 pk)] ++ va_pl LL (sE sv)))) A) #[.ref m, .ref p, .ref sa] ss_ 0 0 A) (F0 mm_ 233 ls [.int s0])) ∧ (∀ (a2 : Nat) (j3 : Int64) (l5 : Int32) (l6 : Int32) (l7 : Int32) (l8 : Int32) (l9 : Int32) (s0 : Int32) (u0 : Int64) (LL : List Nat) (sv : Nat → Nat → Int32) (m_numbers : Int32) (pk : Nat → Int32) (r : Int32), L_X2_valueOf K  n 5 a2 j3 l5 l6 l7 l8 l9 s0 u0 LL sv m_numbers pk = some (r) → ∀ (H : Heap) (locs : List Loc), va_P (dC, dI) vwCl ([(m, .inr (2, [.ref mn, .ref ml, .int m_numbers, .int m_steps, .int m_cameOut])), (mn, aI cI 20 mfn), (ml, aI cI 20 mfl), (p, .inr (4, [.ref ps, .ref pc, .int p_size, .int p_codeSize, .int p_outs, .int p_used])), (ps, aR cS 30 pg), (pc, aI cI 300 pk)] ++ va_pl LL (sE sv)) H → va_D A ([(m, .inr (2, [.ref mn, .ref ml, .int m_numbers, .int m_steps, .int m_cameOut])), (mn, aI cI 20 mfn), (ml, aI cI 20 mfl), (p, .inr (4, [.ref ps, .ref pc, .int p_size, .int p_codeSize, .int p_outs, .int p_used])), (ps, aR cS 30 pg), (pc, aI cI 300 pk)] ++ va_pl LL (sE sv)) → va_S A ss_.heap H locs → ∀ ls : Array Slot, lv_has ls 10 [(0, .ref m), (1, .ref p), (2, .ref a2), (3, .long j3), (5, .int l5), (6, .int l6), (7, .int l7), (8, .int l8), (9, .int l9)] → W pp_ l ee_ (headSpec wsX2_valueOf ({ frames := 0, cells := 0, slots := 0, locals := 0 })).room ss_ mm_ #[.ref m, .ref p, .ref sa] below meth cc_ H locs 0 0 (MQ below (va_Qi (fun (r_ : Int32) (_ : Unit) => r_ = r) (BE dC dI A (fun _ => ([(m, .inr (2, [.ref mn, .ref ml, .int m_numbers, .int m_steps, .int m_cameOut])), (mn, aI cI 20 mfn), (ml, aI cI 20 mfl), (p, .inr (4, [.ref ps, .ref pc, .int p_size, .int p_codeSize, .int p_outs, .int p_used])), (ps, aR cS 30 pg), (pc, aI cI 300 pk)] ++ va_pl LL (sE sv)))) A) #[.ref m, .ref p, .ref sa] ss_ 0 0 A) (F0 mm_ 235 ls [])) ∧ (∀ (a2 : Nat) (j3 : Int64) (l5 : Int32) (l6 : Int32) (l7 : Int32) (l8 : Int32) (l9 : Int32) (s0 : Int32) (u0 : Int64) (LL : List Nat) (sv : Nat → Nat → Int32) (m_numbers : Int32) (pk : Nat → Int32) (r : Int32), L_X2_valueOf K  n 6 a2 j3 l5 l6 l7 l8 l9 s0 u0 LL sv m_numbers pk = some (r) → ∀ (H : Heap) (locs : List Loc), va_P (dC, dI) vwCl ([(m, .inr (2, [.ref mn, .ref ml, .int m_numbers, .int m_steps, .int m_cameOut])), (mn, aI cI 20 mfn), (ml, aI cI 20 mfl), (p, .inr (4, [.ref ps, .ref pc, .int p_size, .int p_codeSize, .int p_outs, .int p_used])), (ps, aR cS 30 pg), (pc, aI cI 300 pk)] ++ va_pl LL (sE sv)) H → va_D A ([(m, .inr (2, [.ref mn, .ref ml, .int m_numbers, .int m_steps, .int m_cameOut])), (mn, aI cI 20 mfn), (ml, aI cI 20 mfl), (p, .inr (4, [.ref ps, .ref pc, .int p_size, .int p_codeSize, .int p_outs, .int p_used])), (ps, aR cS 30 pg), (pc, aI cI 300 pk)] ++ va_pl LL (sE sv)) → va_S A ss_.heap H locs → ∀ ls : Array Slot, lv_has ls 10 [(0, .ref m), (1, .ref p), (2, .ref a2), (3, .long j3), (5, .int l5), (6, .int l6)] → W pp_ l ee_ (headSpec wsX2_valueOf ({ frames := 0, cells := 0, slots := 0, locals := 0 })).room ss_ mm_ #[.ref m, .ref p, .ref sa] below meth cc_ H locs 0 0 (MQ below (va_Qi (fun (r_ : Int32) (_ : Unit) => r_ = r) (BE dC dI A (fun _ => ([(m, .inr (2, [.ref mn, .ref ml, .int m_numbers, .int m_steps, .int m_cameOut])), (mn, aI cI 20 mfn), (ml, aI cI 20 mfl), (p, .inr (4, [.ref ps, .ref pc, .int p_size, .int p_codeSize, .int p_outs, .int p_used])), (ps, aR cS 30 pg), (pc, aI cI 300 pk)] ++ va_pl LL (sE sv)))) A) #[.ref m, .ref p, .ref sa] ss_ 0 0 A) (F0 mm_ 247 ls [])) ∧ (∀ (a2 : Nat) (j3 : Int64) (l5 : Int32) (l6 : Int32) (l7 : Int32) (l8 : Int32) (l9 : Int32) (s0 : Int32) (u0 : Int64) (LL : List Nat) (sv : Nat → Nat → Int32) (m_numbers : Int32) (pk : Nat → Int32) (r : Int32), L_X2_valueOf K  n 7 a2 j3 l5 l6 l7 l8 l9 s0 u0 LL sv m_numbers pk = some (r) → ∀ (H : Heap) (locs : List Loc), va_P (dC, dI) vwCl ([(m, .inr (2, [.ref mn, .ref ml, .int m_numbers, .int m_steps, .int m_cameOut])), (mn, aI cI 20 mfn), (ml, aI cI 20 mfl), (p, .inr (4, [.ref ps, .ref pc, .int p_size, .int p_codeSize, .int p_outs, .int p_used])), (ps, aR cS 30 pg), (pc, aI cI 300 pk)] ++ va_pl LL (sE sv)) H → va_D A ([(m, .inr (2, [.ref mn, .ref ml, .int m_numbers, .int m_steps, .int m_cameOut])), (mn, aI cI 20 mfn), (ml, aI cI 20 mfl), (p, .inr (4, [.ref ps, .ref pc, .int p_size, .int p_codeSize, .int p_outs, .int p_used])), (ps, aR cS 30 pg), (pc, aI cI 300 pk)] ++ va_pl LL (sE sv)) → va_S A ss_.heap H locs → ∀ ls : Array Slot, lv_has ls 10 [(0, .ref m), (1, .ref p), (2, .ref a2), (3, .long j3), (5, .int l5)] → W pp_ l ee_ (headSpec wsX2_valueOf ({ frames := 0, cells := 0, slots := 0, locals := 0 })).room ss_ mm_ #[.ref m, .ref p, .ref sa] below meth cc_ H locs 0 0 (MQ below (va_Qi (fun (r_ : Int32) (_ : Unit) => r_ = r) (BE dC dI A (fun _ => ([(m, .inr (2, [.ref mn, .ref ml, .int m_numbers, .int m_steps, .int m_cameOut])), (mn, aI cI 20 mfn), (ml, aI cI 20 mfl), (p, .inr (4, [.ref ps, .ref pc, .int p_size, .int p_codeSize, .int p_outs, .int p_used])), (ps, aR cS 30 pg), (pc, aI cI 300 pk)] ++ va_pl LL (sE sv)))) A) #[.ref m, .ref p, .ref sa] ss_ 0 0 A) (F0 mm_ 253 ls [])) := by
    intro n
    induction n with
    | zero => exact ⟨(fun _ _ _ _ _ _ _ _ _ _ _ _ _ _ hF => absurd hF (fun e => by cases e)), (fun _ _ _ _ _ _ _ _ _ _ _ _ _ _ hF => absurd hF (fun e => by cases e)), (fun _ _ _ _ _ _ _ _ _ _ _ _ _ _ hF => absurd hF (fun e => by cases e)), (fun _ _ _ _ _ _ _ _ _ _ _ _ _ _ hF => absurd hF (fun e => by cases e)), (fun _ _ _ _ _ _ _ _ _ _ _ _ _ _ hF => absurd hF (fun e => by cases e)), (fun _ _ _ _ _ _ _ _ _ _ _ _ _ _ hF => absurd hF (fun e => by cases e)), (fun _ _ _ _ _ _ _ _ _ _ _ _ _ _ hF => absurd hF (fun e => by cases e)), (fun _ _ _ _ _ _ _ _ _ _ _ _ _ _ hF => absurd hF (fun e => by cases e))⟩
    | succ n ih =>
      obtain ⟨ih0, ih1, ih2, ih3, ih4, ih5, ih6, ih7⟩ := ih
      refine ⟨?_, ?_, ?_, ?_, ?_, ?_, ?_, ?_⟩
      · intro a2 j3 l5 l6 l7 l8 l9 s0 u0 LL sv m_numbers pk r hB H locs hP hD hS ls hl
        replace hB := Eq.trans (L_X2_valueOf_e0 K  n a2 j3 l5 l6 l7 l8 l9 s0 u0 LL sv m_numbers pk).symm hB
        unfold B_X2_valueOf_0 at hB
        by_cases hm_1 : a2 ∈ LL
        case neg => rw [if_neg hm_1] at hB; cases hB
        rw [if_pos hm_1] at hB
        refine lv_lconst (v := 0) hx hb dX2_valueOf_0 (by decide) ?_
        refine lv_lstore_n (lv' := [(3, .long 0), (0, .ref m), (1, .ref p), (2, .ref a2)]) hx hb dX2_valueOf_1 rfl hl (by decide) rfl (fun ls hl => ?_)
        refine lv_aload_n hx hb dX2_valueOf_2 rfl (lv_at hl 3 rfl) ?_
        obtain ⟨kq_2, hkq_2⟩ := va_pl_get (X := [(m, .inr (2, [.ref mn, .ref ml, .int m_numbers, .int m_steps, .int m_cameOut])), (mn, aI cI 20 mfn), (ml, aI cI 20 mfl), (p, .inr (4, [.ref ps, .ref pc, .int p_size, .int p_codeSize, .int p_outs, .int p_used])), (ps, aR cS 30 pg), (pc, aI cI 300 pk)]) (f := sE sv) hm_1
        refine va_get (D := (dC, dI)) (ci := 5) (v := .int (sv a2 4)) (C := RX5) (T := TX5) (N := 9) hx hb hts hiX5 hown hK hP kq_2 hkq_2 rfl 4 (by decide) (hts (.fieldLink RX2 78 "WatchedPrograms$Statement" "codeFrom" "I") (by decide +kernel)) (fun _ h9 => h9) rfl dX2_valueOf_3 ?_
        refine lv_istore (lv' := [(5, .int (sv a2 4)), (3, .long 0), (0, .ref m), (1, .ref p), (2, .ref a2)]) hx hb dX2_valueOf_6 hl (by decide) rfl (fun ls hl => ?_)
        exact ih1 a2 0 (sv a2 4) 0 0 0 0 0 0 LL sv m_numbers pk _ hB _ _ (hP.part (cx := [(m, .inr (2, [.ref mn, .ref ml, .int m_numbers, .int m_steps, .int m_cameOut])), (mn, aI cI 20 mfn), (ml, aI cI 20 mfl), (p, .inr (4, [.ref ps, .ref pc, .int p_size, .int p_codeSize, .int p_outs, .int p_used])), (ps, aR cS 30 pg), (pc, aI cI 300 pk)]) [0, 1, 2, 3, 4, 5] rfl) (hD.part (cx := [(m, .inr (2, [.ref mn, .ref ml, .int m_numbers, .int m_steps, .int m_cameOut])), (mn, aI cI 20 mfn), (ml, aI cI 20 mfl), (p, .inr (4, [.ref ps, .ref pc, .int p_size, .int p_codeSize, .int p_outs, .int p_used])), (ps, aR cS 30 pg), (pc, aI cI 300 pk)]) [0, 1, 2, 3, 4, 5] (by decide) rfl) hS ls (lv_sub hl [2, 3, 4, 1, 0] rfl)
      · intro a2 j3 l5 l6 l7 l8 l9 s0 u0 LL sv m_numbers pk r hB H locs hP hD hS ls hl
        replace hB := Eq.trans (L_X2_valueOf_e1 K  n a2 j3 l5 l6 l7 l8 l9 s0 u0 LL sv m_numbers pk).symm hB
        unfold B_X2_valueOf_1 at hB
        by_cases hm_1 : a2 ∈ LL
        case neg => rw [if_neg hm_1] at hB; cases hB
        rw [if_pos hm_1] at hB
        refine lv_iload hx hb dX2_valueOf_8 (lv_at hl 4 rfl) ?_
        refine lv_aload_n hx hb dX2_valueOf_10 rfl (lv_at hl 2 rfl) ?_
        obtain ⟨kq_2, hkq_2⟩ := va_pl_get (X := [(m, .inr (2, [.ref mn, .ref ml, .int m_numbers, .int m_steps, .int m_cameOut])), (mn, aI cI 20 mfn), (ml, aI cI 20 mfl), (p, .inr (4, [.ref ps, .ref pc, .int p_size, .int p_codeSize, .int p_outs, .int p_used])), (ps, aR cS 30 pg), (pc, aI cI 300 pk)]) (f := sE sv) hm_1
        refine va_get (D := (dC, dI)) (ci := 5) (v := .int (sv a2 5)) (C := RX5) (T := TX5) (N := 9) hx hb hts hiX5 hown hK hP kq_2 hkq_2 rfl 5 (by decide) (hts (.fieldLink RX2 81 "WatchedPrograms$Statement" "codeTo" "I") (by decide +kernel)) (fun _ h9 => h9) rfl dX2_valueOf_11 ?_
        refine lv_icmp_ge (tgt := 253) hx hb dX2_valueOf_14 (by decide) (fun c_3 => ?_) (fun c_3 => ?_)
        · rw [if_pos c_3] at hB
          exact ih7 a2 j3 l5 0 0 0 0 0 0 LL sv m_numbers pk _ hB _ _ (hP.part (cx := [(m, .inr (2, [.ref mn, .ref ml, .int m_numbers, .int m_steps, .int m_cameOut])), (mn, aI cI 20 mfn), (ml, aI cI 20 mfl), (p, .inr (4, [.ref ps, .ref pc, .int p_size, .int p_codeSize, .int p_outs, .int p_used])), (ps, aR cS 30 pg), (pc, aI cI 300 pk)]) [0, 1, 2, 3, 4, 5] rfl) (hD.part (cx := [(m, .inr (2, [.ref mn, .ref ml, .int m_numbers, .int m_steps, .int m_cameOut])), (mn, aI cI 20 mfn), (ml, aI cI 20 mfl), (p, .inr (4, [.ref ps, .ref pc, .int p_size, .int p_codeSize, .int p_outs, .int p_used])), (ps, aR cS 30 pg), (pc, aI cI 300 pk)]) [0, 1, 2, 3, 4, 5] (by decide) rfl) hS ls (lv_sub hl [0, 1, 2, 3, 4] rfl)
        · rw [if_neg c_3] at hB
          refine lv_iload hx hb dX2_valueOf_17 (lv_at hl 4 rfl) ?_
          refine lv_sipush (v := 300) hx hb dX2_valueOf_19 (by decide) ?_
          refine lv_icmp_ge (tgt := 253) hx hb dX2_valueOf_22 (by decide) (fun c_4 => ?_) (fun c_4 => ?_)
          · rw [if_pos c_4] at hB
            exact ih7 a2 j3 l5 0 0 0 0 0 0 LL sv m_numbers pk _ hB _ _ (hP.part (cx := [(m, .inr (2, [.ref mn, .ref ml, .int m_numbers, .int m_steps, .int m_cameOut])), (mn, aI cI 20 mfn), (ml, aI cI 20 mfl), (p, .inr (4, [.ref ps, .ref pc, .int p_size, .int p_codeSize, .int p_outs, .int p_used])), (ps, aR cS 30 pg), (pc, aI cI 300 pk)]) [0, 1, 2, 3, 4, 5] rfl) (hD.part (cx := [(m, .inr (2, [.ref mn, .ref ml, .int m_numbers, .int m_steps, .int m_cameOut])), (mn, aI cI 20 mfn), (ml, aI cI 20 mfl), (p, .inr (4, [.ref ps, .ref pc, .int p_size, .int p_codeSize, .int p_outs, .int p_used])), (ps, aR cS 30 pg), (pc, aI cI 300 pk)]) [0, 1, 2, 3, 4, 5] (by decide) rfl) hS ls (lv_sub hl [0, 1, 2, 3, 4] rfl)
          · rw [if_neg c_4] at hB
            refine lv_aload_n hx hb dX2_valueOf_25 rfl (lv_at hl 1 rfl) ?_
            refine va_get (D := (dC, dI)) (ci := 4) (v := .ref pc) (C := RX4) (T := TX4) (N := 6) hx hb hts hiX4 hown hK hP 3 rfl rfl 1 (by decide) (hts (.fieldLink RX2 84 "WatchedPrograms$Program" "code" "[I") (by decide +kernel)) (fun _ h9 => h9) rfl dX2_valueOf_26 ?_
            refine lv_iload hx hb dX2_valueOf_29 (lv_at hl 4 rfl) ?_
            by_cases k_5 : okIx l5 300 = true
            case neg => rw [if_neg k_5] at hB; cases hB
            rw [if_pos k_5] at hB
            refine va_iald hx hb hK hP 5 0 rfl rfl (okIx_in k_5) dX2_valueOf_31 ?_
            refine lv_istore (lv' := [(6, .int (pk (l5).toNatClampNeg)), (0, .ref m), (1, .ref p), (2, .ref a2), (3, .long j3), (5, .int l5)]) hx hb dX2_valueOf_32 hl (by decide) rfl (fun ls hl => ?_)
            refine lv_iload hx hb dX2_valueOf_34 (lv_at hl 0 rfl) ?_
            refine lv_iconst (v := 4) hx hb dX2_valueOf_36 (by decide) ?_
            refine lv_icmp_ge (tgt := 51) hx hb dX2_valueOf_37 (by decide) (fun c_6 => ?_) (fun c_6 => ?_)
            · rw [if_pos c_6] at hB
              refine lv_iload hx hb dX2_valueOf_51 (lv_at hl 0 rfl) ?_
              refine lv_bipush (v := 16) hx hb dX2_valueOf_53 (by decide) ?_
              refine lv_icmp_ge (tgt := 78) hx hb dX2_valueOf_55 (by decide) (fun c_7 => ?_) (fun c_7 => ?_)
              · rw [if_pos c_7] at hB
                refine lv_iload hx hb dX2_valueOf_78 (lv_at hl 0 rfl) ?_
                refine lv_bipush (v := 20) hx hb dX2_valueOf_80 (by decide) ?_
                refine lv_icmp_ne (tgt := 111) hx hb dX2_valueOf_82 (by decide) (fun c_8 => ?_) (fun c_8 => ?_)
                · rw [if_neg c_8] at hB
                  refine lv_lload_n hx hb dX2_valueOf_111 rfl (lv_at hl 4 rfl) ?_
                  refine lv_iconst (v := 2) hx hb dX2_valueOf_112 (by decide) ?_
                  refine lv_lushr (v := ((j3).toUInt64 >>> ((2 : Int32).toInt64.toUInt64 &&& Int64.toUInt64 63)).toInt64) hx hb dX2_valueOf_113 rfl ?_
                  refine lv_l2i (v := (((j3).toUInt64 >>> ((2 : Int32).toInt64.toUInt64 &&& Int64.toUInt64 63)).toInt64).toInt32) hx hb dX2_valueOf_114 rfl ?_
                  refine lv_iconst (v := 3) hx hb dX2_valueOf_115 (by decide) ?_
                  refine lv_iand hx hb dX2_valueOf_116 ?_
                  refine lv_istore (lv' := [(7, .int ((((j3).toUInt64 >>> ((2 : Int32).toInt64.toUInt64 &&& Int64.toUInt64 63)).toInt64).toInt32 &&& 3)), (6, .int (pk (l5).toNatClampNeg)), (0, .ref m), (1, .ref p), (2, .ref a2), (3, .long j3), (5, .int l5)]) hx hb dX2_valueOf_117 hl (by decide) rfl (fun ls hl => ?_)
                  refine lv_lload_n hx hb dX2_valueOf_119 rfl (lv_at hl 5 rfl) ?_
                  refine lv_l2i (v := (j3).toInt32) hx hb dX2_valueOf_120 rfl ?_
                  refine lv_iconst (v := 3) hx hb dX2_valueOf_121 (by decide) ?_
                  refine lv_iand hx hb dX2_valueOf_122 ?_
                  refine lv_istore (lv' := [(8, .int ((j3).toInt32 &&& 3)), (7, .int ((((j3).toUInt64 >>> ((2 : Int32).toInt64.toUInt64 &&& Int64.toUInt64 63)).toInt64).toInt32 &&& 3)), (6, .int (pk (l5).toNatClampNeg)), (0, .ref m), (1, .ref p), (2, .ref a2), (3, .long j3), (5, .int l5)]) hx hb dX2_valueOf_123 hl (by decide) rfl (fun ls hl => ?_)
                  refine lv_iload hx hb dX2_valueOf_125 (lv_at hl 2 rfl) ?_
                  by_cases c_9 : (pk (l5).toNatClampNeg) = 16
                  · rw [if_pos c_9] at hB
                    refine lv_tableIn (off := 37) (tgt := 164) hx hb dX2_valueOf_127 (by rw [c_9]; decide) (by rw [c_9]; decide) (by rw [c_9]; decide) (by decide) ?_
                    refine lv_iload hx hb dX2_valueOf_164 (lv_at hl 1 rfl) ?_
                    refine lv_iload hx hb dX2_valueOf_166 (lv_at hl 0 rfl) ?_
                    refine lv_iadd hx hb dX2_valueOf_168 ?_
                    refine lv_istore (lv' := [(9, .int (((((j3).toUInt64 >>> ((2 : Int32).toInt64.toUInt64 &&& Int64.toUInt64 63)).toInt64).toInt32 &&& 3) + ((j3).toInt32 &&& 3))), (8, .int ((j3).toInt32 &&& 3)), (7, .int ((((j3).toUInt64 >>> ((2 : Int32).toInt64.toUInt64 &&& Int64.toUInt64 63)).toInt64).toInt32 &&& 3)), (6, .int (pk (l5).toNatClampNeg)), (0, .ref m), (1, .ref p), (2, .ref a2), (3, .long j3), (5, .int l5)]) hx hb dX2_valueOf_169 hl (by decide) rfl (fun ls hl => ?_)
                    refine lv_goto (tgt := 235) hx hb dX2_valueOf_171 (by decide) ?_
                    exact ih5 a2 j3 l5 (pk (l5).toNatClampNeg) ((((j3).toUInt64 >>> ((2 : Int32).toInt64.toUInt64 &&& Int64.toUInt64 63)).toInt64).toInt32 &&& 3) ((j3).toInt32 &&& 3) (((((j3).toUInt64 >>> ((2 : Int32).toInt64.toUInt64 &&& Int64.toUInt64 63)).toInt64).toInt32 &&& 3) + ((j3).toInt32 &&& 3)) 0 0 LL sv m_numbers pk _ hB _ _ (hP.part (cx := [(m, .inr (2, [.ref mn, .ref ml, .int m_numbers, .int m_steps, .int m_cameOut])), (mn, aI cI 20 mfn), (ml, aI cI 20 mfl), (p, .inr (4, [.ref ps, .ref pc, .int p_size, .int p_codeSize, .int p_outs, .int p_used])), (ps, aR cS 30 pg), (pc, aI cI 300 pk)]) [0, 1, 2, 3, 4, 5] rfl) (hD.part (cx := [(m, .inr (2, [.ref mn, .ref ml, .int m_numbers, .int m_steps, .int m_cameOut])), (mn, aI cI 20 mfn), (ml, aI cI 20 mfl), (p, .inr (4, [.ref ps, .ref pc, .int p_size, .int p_codeSize, .int p_outs, .int p_used])), (ps, aR cS 30 pg), (pc, aI cI 300 pk)]) [0, 1, 2, 3, 4, 5] (by decide) rfl) hS ls (lv_sub hl [4, 5, 6, 7, 8, 3, 2, 1, 0] rfl)
                  rw [if_neg c_9] at hB
                  by_cases c_10 : (pk (l5).toNatClampNeg) = 17
                  · rw [if_pos c_10] at hB
                    refine lv_tableIn (off := 47) (tgt := 174) hx hb dX2_valueOf_127 (by rw [c_10]; decide) (by rw [c_10]; decide) (by rw [c_10]; decide) (by decide) ?_
                    refine lv_iload hx hb dX2_valueOf_174 (lv_at hl 1 rfl) ?_
                    refine lv_iload hx hb dX2_valueOf_176 (lv_at hl 0 rfl) ?_
                    refine lv_isub hx hb dX2_valueOf_178 ?_
                    refine lv_istore (lv' := [(9, .int (((((j3).toUInt64 >>> ((2 : Int32).toInt64.toUInt64 &&& Int64.toUInt64 63)).toInt64).toInt32 &&& 3) - ((j3).toInt32 &&& 3))), (8, .int ((j3).toInt32 &&& 3)), (7, .int ((((j3).toUInt64 >>> ((2 : Int32).toInt64.toUInt64 &&& Int64.toUInt64 63)).toInt64).toInt32 &&& 3)), (6, .int (pk (l5).toNatClampNeg)), (0, .ref m), (1, .ref p), (2, .ref a2), (3, .long j3), (5, .int l5)]) hx hb dX2_valueOf_179 hl (by decide) rfl (fun ls hl => ?_)
                    refine lv_goto (tgt := 235) hx hb dX2_valueOf_181 (by decide) ?_
                    exact ih5 a2 j3 l5 (pk (l5).toNatClampNeg) ((((j3).toUInt64 >>> ((2 : Int32).toInt64.toUInt64 &&& Int64.toUInt64 63)).toInt64).toInt32 &&& 3) ((j3).toInt32 &&& 3) (((((j3).toUInt64 >>> ((2 : Int32).toInt64.toUInt64 &&& Int64.toUInt64 63)).toInt64).toInt32 &&& 3) - ((j3).toInt32 &&& 3)) 0 0 LL sv m_numbers pk _ hB _ _ (hP.part (cx := [(m, .inr (2, [.ref mn, .ref ml, .int m_numbers, .int m_steps, .int m_cameOut])), (mn, aI cI 20 mfn), (ml, aI cI 20 mfl), (p, .inr (4, [.ref ps, .ref pc, .int p_size, .int p_codeSize, .int p_outs, .int p_used])), (ps, aR cS 30 pg), (pc, aI cI 300 pk)]) [0, 1, 2, 3, 4, 5] rfl) (hD.part (cx := [(m, .inr (2, [.ref mn, .ref ml, .int m_numbers, .int m_steps, .int m_cameOut])), (mn, aI cI 20 mfn), (ml, aI cI 20 mfl), (p, .inr (4, [.ref ps, .ref pc, .int p_size, .int p_codeSize, .int p_outs, .int p_used])), (ps, aR cS 30 pg), (pc, aI cI 300 pk)]) [0, 1, 2, 3, 4, 5] (by decide) rfl) hS ls (lv_sub hl [4, 5, 6, 7, 8, 3, 2, 1, 0] rfl)
                  rw [if_neg c_10] at hB
                  by_cases c_11 : (pk (l5).toNatClampNeg) = 18
                  · rw [if_pos c_11] at hB
                    refine lv_tableIn (off := 57) (tgt := 184) hx hb dX2_valueOf_127 (by rw [c_11]; decide) (by rw [c_11]; decide) (by rw [c_11]; decide) (by decide) ?_
                    refine lv_iload hx hb dX2_valueOf_184 (lv_at hl 1 rfl) ?_
                    refine lv_iload hx hb dX2_valueOf_186 (lv_at hl 0 rfl) ?_
                    refine lv_imul hx hb dX2_valueOf_188 ?_
                    refine lv_istore (lv' := [(9, .int (((((j3).toUInt64 >>> ((2 : Int32).toInt64.toUInt64 &&& Int64.toUInt64 63)).toInt64).toInt32 &&& 3) * ((j3).toInt32 &&& 3))), (8, .int ((j3).toInt32 &&& 3)), (7, .int ((((j3).toUInt64 >>> ((2 : Int32).toInt64.toUInt64 &&& Int64.toUInt64 63)).toInt64).toInt32 &&& 3)), (6, .int (pk (l5).toNatClampNeg)), (0, .ref m), (1, .ref p), (2, .ref a2), (3, .long j3), (5, .int l5)]) hx hb dX2_valueOf_189 hl (by decide) rfl (fun ls hl => ?_)
                    refine lv_goto (tgt := 235) hx hb dX2_valueOf_191 (by decide) ?_
                    exact ih5 a2 j3 l5 (pk (l5).toNatClampNeg) ((((j3).toUInt64 >>> ((2 : Int32).toInt64.toUInt64 &&& Int64.toUInt64 63)).toInt64).toInt32 &&& 3) ((j3).toInt32 &&& 3) (((((j3).toUInt64 >>> ((2 : Int32).toInt64.toUInt64 &&& Int64.toUInt64 63)).toInt64).toInt32 &&& 3) * ((j3).toInt32 &&& 3)) 0 0 LL sv m_numbers pk _ hB _ _ (hP.part (cx := [(m, .inr (2, [.ref mn, .ref ml, .int m_numbers, .int m_steps, .int m_cameOut])), (mn, aI cI 20 mfn), (ml, aI cI 20 mfl), (p, .inr (4, [.ref ps, .ref pc, .int p_size, .int p_codeSize, .int p_outs, .int p_used])), (ps, aR cS 30 pg), (pc, aI cI 300 pk)]) [0, 1, 2, 3, 4, 5] rfl) (hD.part (cx := [(m, .inr (2, [.ref mn, .ref ml, .int m_numbers, .int m_steps, .int m_cameOut])), (mn, aI cI 20 mfn), (ml, aI cI 20 mfl), (p, .inr (4, [.ref ps, .ref pc, .int p_size, .int p_codeSize, .int p_outs, .int p_used])), (ps, aR cS 30 pg), (pc, aI cI 300 pk)]) [0, 1, 2, 3, 4, 5] (by decide) rfl) hS ls (lv_sub hl [4, 5, 6, 7, 8, 3, 2, 1, 0] rfl)
                  rw [if_neg c_11] at hB
                  by_cases c_12 : (pk (l5).toNatClampNeg) = 19
                  · rw [if_pos c_12] at hB
                    refine lv_tableIn (off := 67) (tgt := 194) hx hb dX2_valueOf_127 (by rw [c_12]; decide) (by rw [c_12]; decide) (by rw [c_12]; decide) (by decide) ?_
                    refine lv_iload hx hb dX2_valueOf_194 (lv_at hl 1 rfl) ?_
                    refine lv_iload hx hb dX2_valueOf_196 (lv_at hl 0 rfl) ?_
                    refine lv_iand hx hb dX2_valueOf_198 ?_
                    refine lv_istore (lv' := [(9, .int (((((j3).toUInt64 >>> ((2 : Int32).toInt64.toUInt64 &&& Int64.toUInt64 63)).toInt64).toInt32 &&& 3) &&& ((j3).toInt32 &&& 3))), (8, .int ((j3).toInt32 &&& 3)), (7, .int ((((j3).toUInt64 >>> ((2 : Int32).toInt64.toUInt64 &&& Int64.toUInt64 63)).toInt64).toInt32 &&& 3)), (6, .int (pk (l5).toNatClampNeg)), (0, .ref m), (1, .ref p), (2, .ref a2), (3, .long j3), (5, .int l5)]) hx hb dX2_valueOf_199 hl (by decide) rfl (fun ls hl => ?_)
                    refine lv_goto (tgt := 235) hx hb dX2_valueOf_201 (by decide) ?_
                    exact ih5 a2 j3 l5 (pk (l5).toNatClampNeg) ((((j3).toUInt64 >>> ((2 : Int32).toInt64.toUInt64 &&& Int64.toUInt64 63)).toInt64).toInt32 &&& 3) ((j3).toInt32 &&& 3) (((((j3).toUInt64 >>> ((2 : Int32).toInt64.toUInt64 &&& Int64.toUInt64 63)).toInt64).toInt32 &&& 3) &&& ((j3).toInt32 &&& 3)) 0 0 LL sv m_numbers pk _ hB _ _ (hP.part (cx := [(m, .inr (2, [.ref mn, .ref ml, .int m_numbers, .int m_steps, .int m_cameOut])), (mn, aI cI 20 mfn), (ml, aI cI 20 mfl), (p, .inr (4, [.ref ps, .ref pc, .int p_size, .int p_codeSize, .int p_outs, .int p_used])), (ps, aR cS 30 pg), (pc, aI cI 300 pk)]) [0, 1, 2, 3, 4, 5] rfl) (hD.part (cx := [(m, .inr (2, [.ref mn, .ref ml, .int m_numbers, .int m_steps, .int m_cameOut])), (mn, aI cI 20 mfn), (ml, aI cI 20 mfl), (p, .inr (4, [.ref ps, .ref pc, .int p_size, .int p_codeSize, .int p_outs, .int p_used])), (ps, aR cS 30 pg), (pc, aI cI 300 pk)]) [0, 1, 2, 3, 4, 5] (by decide) rfl) hS ls (lv_sub hl [4, 5, 6, 7, 8, 3, 2, 1, 0] rfl)
                  rw [if_neg c_12] at hB
                  by_cases c_13 : (pk (l5).toNatClampNeg) = 20
                  · rw [if_pos c_13] at hB
                    refine lv_tableIn (off := 94) (tgt := 221) hx hb dX2_valueOf_127 (by rw [c_13]; decide) (by rw [c_13]; decide) (by rw [c_13]; decide) (by decide) ?_
                    refine lv_iload hx hb dX2_valueOf_221 (lv_at hl 1 rfl) ?_
                    refine lv_iload hx hb dX2_valueOf_223 (lv_at hl 0 rfl) ?_
                    refine lv_icmp_ne (tgt := 232) hx hb dX2_valueOf_225 (by decide) (fun c_14 => ?_) (fun c_14 => ?_)
                    · rw [if_neg c_14] at hB
                      refine lv_iconst (v := 0) hx hb dX2_valueOf_232 (by decide) ?_
                      exact ih4 a2 j3 l5 (pk (l5).toNatClampNeg) ((((j3).toUInt64 >>> ((2 : Int32).toInt64.toUInt64 &&& Int64.toUInt64 63)).toInt64).toInt32 &&& 3) ((j3).toInt32 &&& 3) 0 0 0 LL sv m_numbers pk _ hB _ _ (hP.part (cx := [(m, .inr (2, [.ref mn, .ref ml, .int m_numbers, .int m_steps, .int m_cameOut])), (mn, aI cI 20 mfn), (ml, aI cI 20 mfl), (p, .inr (4, [.ref ps, .ref pc, .int p_size, .int p_codeSize, .int p_outs, .int p_used])), (ps, aR cS 30 pg), (pc, aI cI 300 pk)]) [0, 1, 2, 3, 4, 5] rfl) (hD.part (cx := [(m, .inr (2, [.ref mn, .ref ml, .int m_numbers, .int m_steps, .int m_cameOut])), (mn, aI cI 20 mfn), (ml, aI cI 20 mfl), (p, .inr (4, [.ref ps, .ref pc, .int p_size, .int p_codeSize, .int p_outs, .int p_used])), (ps, aR cS 30 pg), (pc, aI cI 300 pk)]) [0, 1, 2, 3, 4, 5] (by decide) rfl) hS ls (lv_sub hl [3, 4, 5, 6, 7, 2, 1, 0] rfl)
                    · rw [if_pos c_14] at hB
                      refine lv_iconst (v := 1) hx hb dX2_valueOf_228 (by decide) ?_
                      refine lv_goto (tgt := 233) hx hb dX2_valueOf_229 (by decide) ?_
                      exact ih4 a2 j3 l5 (pk (l5).toNatClampNeg) ((((j3).toUInt64 >>> ((2 : Int32).toInt64.toUInt64 &&& Int64.toUInt64 63)).toInt64).toInt32 &&& 3) ((j3).toInt32 &&& 3) 0 1 0 LL sv m_numbers pk _ hB _ _ (hP.part (cx := [(m, .inr (2, [.ref mn, .ref ml, .int m_numbers, .int m_steps, .int m_cameOut])), (mn, aI cI 20 mfn), (ml, aI cI 20 mfl), (p, .inr (4, [.ref ps, .ref pc, .int p_size, .int p_codeSize, .int p_outs, .int p_used])), (ps, aR cS 30 pg), (pc, aI cI 300 pk)]) [0, 1, 2, 3, 4, 5] rfl) (hD.part (cx := [(m, .inr (2, [.ref mn, .ref ml, .int m_numbers, .int m_steps, .int m_cameOut])), (mn, aI cI 20 mfn), (ml, aI cI 20 mfl), (p, .inr (4, [.ref ps, .ref pc, .int p_size, .int p_codeSize, .int p_outs, .int p_used])), (ps, aR cS 30 pg), (pc, aI cI 300 pk)]) [0, 1, 2, 3, 4, 5] (by decide) rfl) hS ls (lv_sub hl [3, 4, 5, 6, 7, 2, 1, 0] rfl)
                  rw [if_neg c_13] at hB
                  by_cases c_15 : (pk (l5).toNatClampNeg) = 21
                  · rw [if_pos c_15] at hB
                    refine lv_tableIn (off := 77) (tgt := 204) hx hb dX2_valueOf_127 (by rw [c_15]; decide) (by rw [c_15]; decide) (by rw [c_15]; decide) (by decide) ?_
                    refine lv_iload hx hb dX2_valueOf_204 (lv_at hl 1 rfl) ?_
                    refine lv_iload hx hb dX2_valueOf_206 (lv_at hl 0 rfl) ?_
                    refine lv_icmp_ge (tgt := 215) hx hb dX2_valueOf_208 (by decide) (fun c_16 => ?_) (fun c_16 => ?_)
                    · rw [if_pos c_16] at hB
                      refine lv_iconst (v := 0) hx hb dX2_valueOf_215 (by decide) ?_
                      exact ih3 a2 j3 l5 (pk (l5).toNatClampNeg) ((((j3).toUInt64 >>> ((2 : Int32).toInt64.toUInt64 &&& Int64.toUInt64 63)).toInt64).toInt32 &&& 3) ((j3).toInt32 &&& 3) 0 0 0 LL sv m_numbers pk _ hB _ _ (hP.part (cx := [(m, .inr (2, [.ref mn, .ref ml, .int m_numbers, .int m_steps, .int m_cameOut])), (mn, aI cI 20 mfn), (ml, aI cI 20 mfl), (p, .inr (4, [.ref ps, .ref pc, .int p_size, .int p_codeSize, .int p_outs, .int p_used])), (ps, aR cS 30 pg), (pc, aI cI 300 pk)]) [0, 1, 2, 3, 4, 5] rfl) (hD.part (cx := [(m, .inr (2, [.ref mn, .ref ml, .int m_numbers, .int m_steps, .int m_cameOut])), (mn, aI cI 20 mfn), (ml, aI cI 20 mfl), (p, .inr (4, [.ref ps, .ref pc, .int p_size, .int p_codeSize, .int p_outs, .int p_used])), (ps, aR cS 30 pg), (pc, aI cI 300 pk)]) [0, 1, 2, 3, 4, 5] (by decide) rfl) hS ls (lv_sub hl [3, 4, 5, 6, 7, 2, 1, 0] rfl)
                    · rw [if_neg c_16] at hB
                      refine lv_iconst (v := 1) hx hb dX2_valueOf_211 (by decide) ?_
                      refine lv_goto (tgt := 216) hx hb dX2_valueOf_212 (by decide) ?_
                      exact ih3 a2 j3 l5 (pk (l5).toNatClampNeg) ((((j3).toUInt64 >>> ((2 : Int32).toInt64.toUInt64 &&& Int64.toUInt64 63)).toInt64).toInt32 &&& 3) ((j3).toInt32 &&& 3) 0 1 0 LL sv m_numbers pk _ hB _ _ (hP.part (cx := [(m, .inr (2, [.ref mn, .ref ml, .int m_numbers, .int m_steps, .int m_cameOut])), (mn, aI cI 20 mfn), (ml, aI cI 20 mfl), (p, .inr (4, [.ref ps, .ref pc, .int p_size, .int p_codeSize, .int p_outs, .int p_used])), (ps, aR cS 30 pg), (pc, aI cI 300 pk)]) [0, 1, 2, 3, 4, 5] rfl) (hD.part (cx := [(m, .inr (2, [.ref mn, .ref ml, .int m_numbers, .int m_steps, .int m_cameOut])), (mn, aI cI 20 mfn), (ml, aI cI 20 mfl), (p, .inr (4, [.ref ps, .ref pc, .int p_size, .int p_codeSize, .int p_outs, .int p_used])), (ps, aR cS 30 pg), (pc, aI cI 300 pk)]) [0, 1, 2, 3, 4, 5] (by decide) rfl) hS ls (lv_sub hl [3, 4, 5, 6, 7, 2, 1, 0] rfl)
                  rw [if_neg c_15] at hB
                  refine lv_tableOut (tgt := 221) hx hb dX2_valueOf_127 (by have q0 : ¬ (pk (l5).toNatClampNeg).toInt = 16 := fun e => c_9 (Int32.toInt_inj.mp (e.trans (by decide))); have q1 : ¬ (pk (l5).toNatClampNeg).toInt = 17 := fun e => c_10 (Int32.toInt_inj.mp (e.trans (by decide))); have q2 : ¬ (pk (l5).toNatClampNeg).toInt = 18 := fun e => c_11 (Int32.toInt_inj.mp (e.trans (by decide))); have q3 : ¬ (pk (l5).toNatClampNeg).toInt = 19 := fun e => c_12 (Int32.toInt_inj.mp (e.trans (by decide))); have q4 : ¬ (pk (l5).toNatClampNeg).toInt = 20 := fun e => c_13 (Int32.toInt_inj.mp (e.trans (by decide))); have q5 : ¬ (pk (l5).toNatClampNeg).toInt = 21 := fun e => c_15 (Int32.toInt_inj.mp (e.trans (by decide))); omega) (by decide) ?_
                  refine lv_iload hx hb dX2_valueOf_221 (lv_at hl 1 rfl) ?_
                  refine lv_iload hx hb dX2_valueOf_223 (lv_at hl 0 rfl) ?_
                  refine lv_icmp_ne (tgt := 232) hx hb dX2_valueOf_225 (by decide) (fun c_17 => ?_) (fun c_17 => ?_)
                  · rw [if_neg c_17] at hB
                    refine lv_iconst (v := 0) hx hb dX2_valueOf_232 (by decide) ?_
                    exact ih4 a2 j3 l5 (pk (l5).toNatClampNeg) ((((j3).toUInt64 >>> ((2 : Int32).toInt64.toUInt64 &&& Int64.toUInt64 63)).toInt64).toInt32 &&& 3) ((j3).toInt32 &&& 3) 0 0 0 LL sv m_numbers pk _ hB _ _ (hP.part (cx := [(m, .inr (2, [.ref mn, .ref ml, .int m_numbers, .int m_steps, .int m_cameOut])), (mn, aI cI 20 mfn), (ml, aI cI 20 mfl), (p, .inr (4, [.ref ps, .ref pc, .int p_size, .int p_codeSize, .int p_outs, .int p_used])), (ps, aR cS 30 pg), (pc, aI cI 300 pk)]) [0, 1, 2, 3, 4, 5] rfl) (hD.part (cx := [(m, .inr (2, [.ref mn, .ref ml, .int m_numbers, .int m_steps, .int m_cameOut])), (mn, aI cI 20 mfn), (ml, aI cI 20 mfl), (p, .inr (4, [.ref ps, .ref pc, .int p_size, .int p_codeSize, .int p_outs, .int p_used])), (ps, aR cS 30 pg), (pc, aI cI 300 pk)]) [0, 1, 2, 3, 4, 5] (by decide) rfl) hS ls (lv_sub hl [3, 4, 5, 6, 7, 2, 1, 0] rfl)
                  · rw [if_pos c_17] at hB
                    refine lv_iconst (v := 1) hx hb dX2_valueOf_228 (by decide) ?_
                    refine lv_goto (tgt := 233) hx hb dX2_valueOf_229 (by decide) ?_
                    exact ih4 a2 j3 l5 (pk (l5).toNatClampNeg) ((((j3).toUInt64 >>> ((2 : Int32).toInt64.toUInt64 &&& Int64.toUInt64 63)).toInt64).toInt32 &&& 3) ((j3).toInt32 &&& 3) 0 1 0 LL sv m_numbers pk _ hB _ _ (hP.part (cx := [(m, .inr (2, [.ref mn, .ref ml, .int m_numbers, .int m_steps, .int m_cameOut])), (mn, aI cI 20 mfn), (ml, aI cI 20 mfl), (p, .inr (4, [.ref ps, .ref pc, .int p_size, .int p_codeSize, .int p_outs, .int p_used])), (ps, aR cS 30 pg), (pc, aI cI 300 pk)]) [0, 1, 2, 3, 4, 5] rfl) (hD.part (cx := [(m, .inr (2, [.ref mn, .ref ml, .int m_numbers, .int m_steps, .int m_cameOut])), (mn, aI cI 20 mfn), (ml, aI cI 20 mfl), (p, .inr (4, [.ref ps, .ref pc, .int p_size, .int p_codeSize, .int p_outs, .int p_used])), (ps, aR cS 30 pg), (pc, aI cI 300 pk)]) [0, 1, 2, 3, 4, 5] (by decide) rfl) hS ls (lv_sub hl [3, 4, 5, 6, 7, 2, 1, 0] rfl)
                · rw [if_pos c_8] at hB
                  refine lv_lload_n hx hb dX2_valueOf_85 rfl (lv_at hl 4 rfl) ?_
                  refine lv_ldc2 (v := (-4)) hx hb hown (hts (.constantLong RX2 87 (-4)) (by decide +kernel)) dX2_valueOf_86 ?_
                  refine lv_land hx hb dX2_valueOf_89 ?_
                  refine lv_lload_n hx hb dX2_valueOf_90 rfl (lv_at hl 4 rfl) ?_
                  refine lv_ldc2 (v := 3) hx hb hown (hts (.constantLong RX2 89 (3)) (by decide +kernel)) dX2_valueOf_91 ?_
                  refine lv_land hx hb dX2_valueOf_94 ?_
                  refine lv_lconst (v := 0) hx hb dX2_valueOf_95 (by decide) ?_
                  refine W.lcmp hx hb dX2_valueOf_96 ?_
                  refine lv_if_ne (tgt := 104) hx hb dX2_valueOf_97 (by decide) (fun c_18 => ?_) (fun c_18 => ?_)
                  · rw [if_neg c_18] at hB
                    refine lv_iconst (v := 0) hx hb dX2_valueOf_104 (by decide) ?_
                    exact ih2 a2 j3 l5 (pk (l5).toNatClampNeg) 0 0 0 0 (j3 &&& (-4)) LL sv m_numbers pk _ hB _ _ (hP.part (cx := [(m, .inr (2, [.ref mn, .ref ml, .int m_numbers, .int m_steps, .int m_cameOut])), (mn, aI cI 20 mfn), (ml, aI cI 20 mfl), (p, .inr (4, [.ref ps, .ref pc, .int p_size, .int p_codeSize, .int p_outs, .int p_used])), (ps, aR cS 30 pg), (pc, aI cI 300 pk)]) [0, 1, 2, 3, 4, 5] rfl) (hD.part (cx := [(m, .inr (2, [.ref mn, .ref ml, .int m_numbers, .int m_steps, .int m_cameOut])), (mn, aI cI 20 mfn), (ml, aI cI 20 mfl), (p, .inr (4, [.ref ps, .ref pc, .int p_size, .int p_codeSize, .int p_outs, .int p_used])), (ps, aR cS 30 pg), (pc, aI cI 300 pk)]) [0, 1, 2, 3, 4, 5] (by decide) rfl) hS ls (lv_sub hl [1, 2, 3, 4, 5, 0] rfl)
                  · rw [if_pos c_18] at hB
                    refine lv_iconst (v := 1) hx hb dX2_valueOf_100 (by decide) ?_
                    refine lv_goto (tgt := 105) hx hb dX2_valueOf_101 (by decide) ?_
                    exact ih2 a2 j3 l5 (pk (l5).toNatClampNeg) 0 0 0 1 (j3 &&& (-4)) LL sv m_numbers pk _ hB _ _ (hP.part (cx := [(m, .inr (2, [.ref mn, .ref ml, .int m_numbers, .int m_steps, .int m_cameOut])), (mn, aI cI 20 mfn), (ml, aI cI 20 mfl), (p, .inr (4, [.ref ps, .ref pc, .int p_size, .int p_codeSize, .int p_outs, .int p_used])), (ps, aR cS 30 pg), (pc, aI cI 300 pk)]) [0, 1, 2, 3, 4, 5] rfl) (hD.part (cx := [(m, .inr (2, [.ref mn, .ref ml, .int m_numbers, .int m_steps, .int m_cameOut])), (mn, aI cI 20 mfn), (ml, aI cI 20 mfl), (p, .inr (4, [.ref ps, .ref pc, .int p_size, .int p_codeSize, .int p_outs, .int p_used])), (ps, aR cS 30 pg), (pc, aI cI 300 pk)]) [0, 1, 2, 3, 4, 5] (by decide) rfl) hS ls (lv_sub hl [1, 2, 3, 4, 5, 0] rfl)
              · rw [if_neg c_7] at hB
                refine lv_lload_n hx hb dX2_valueOf_58 rfl (lv_at hl 4 rfl) ?_
                refine lv_iconst (v := 2) hx hb dX2_valueOf_59 (by decide) ?_
                refine lv_lshl (v := (j3 <<< ((2 : Int32).toInt64 &&& 63))) hx hb dX2_valueOf_60 rfl ?_
                refine lv_aload_n hx hb dX2_valueOf_61 rfl (lv_at hl 1 rfl) ?_
                refine va_get (D := (dC, dI)) (ci := 2) (v := .int m_numbers) (C := RX2) (T := TX2) (N := 5) hx hb hts hiX2 hown hK hP 0 rfl rfl 2 (by decide) (hts (.fieldLink RX2 18 "WatchedPrograms$Machine" "numbers" "I") (by decide +kernel)) (fun _ h9 => h9) rfl dX2_valueOf_62 ?_
                refine lv_iload hx hb dX2_valueOf_65 (lv_at hl 0 rfl) ?_
                refine lv_iconst (v := 4) hx hb dX2_valueOf_67 (by decide) ?_
                refine lv_isub hx hb dX2_valueOf_68 ?_
                refine lv_iushr (v := ((m_numbers).toUInt32 >>> ((((pk (l5).toNatClampNeg) - 4)).toUInt32 &&& Int32.toUInt32 31)).toInt32) hx hb dX2_valueOf_69 rfl ?_
                refine lv_iconst (v := 3) hx hb dX2_valueOf_70 (by decide) ?_
                refine lv_iand hx hb dX2_valueOf_71 ?_
                refine lv_i2l (v := ((((m_numbers).toUInt32 >>> ((((pk (l5).toNatClampNeg) - 4)).toUInt32 &&& Int32.toUInt32 31)).toInt32 &&& 3)).toInt64) hx hb dX2_valueOf_72 rfl ?_
                refine lv_lor hx hb dX2_valueOf_73 ?_
                refine lv_lstore_n (lv' := [(3, .long ((j3 <<< ((2 : Int32).toInt64 &&& 63)) ||| ((((m_numbers).toUInt32 >>> ((((pk (l5).toNatClampNeg) - 4)).toUInt32 &&& Int32.toUInt32 31)).toInt32 &&& 3)).toInt64)), (6, .int (pk (l5).toNatClampNeg)), (0, .ref m), (1, .ref p), (2, .ref a2), (5, .int l5)]) hx hb dX2_valueOf_74 rfl hl (by decide) rfl (fun ls hl => ?_)
                refine lv_goto (tgt := 247) hx hb dX2_valueOf_75 (by decide) ?_
                exact ih6 a2 ((j3 <<< ((2 : Int32).toInt64 &&& 63)) ||| ((((m_numbers).toUInt32 >>> ((((pk (l5).toNatClampNeg) - 4)).toUInt32 &&& Int32.toUInt32 31)).toInt32 &&& 3)).toInt64) l5 (pk (l5).toNatClampNeg) 0 0 0 0 0 LL sv m_numbers pk _ hB _ _ (hP.part (cx := [(m, .inr (2, [.ref mn, .ref ml, .int m_numbers, .int m_steps, .int m_cameOut])), (mn, aI cI 20 mfn), (ml, aI cI 20 mfl), (p, .inr (4, [.ref ps, .ref pc, .int p_size, .int p_codeSize, .int p_outs, .int p_used])), (ps, aR cS 30 pg), (pc, aI cI 300 pk)]) [0, 1, 2, 3, 4, 5] rfl) (hD.part (cx := [(m, .inr (2, [.ref mn, .ref ml, .int m_numbers, .int m_steps, .int m_cameOut])), (mn, aI cI 20 mfn), (ml, aI cI 20 mfl), (p, .inr (4, [.ref ps, .ref pc, .int p_size, .int p_codeSize, .int p_outs, .int p_used])), (ps, aR cS 30 pg), (pc, aI cI 300 pk)]) [0, 1, 2, 3, 4, 5] (by decide) rfl) hS ls (lv_sub hl [2, 3, 4, 0, 5, 1] rfl)
            · rw [if_neg c_6] at hB
              refine lv_lload_n hx hb dX2_valueOf_40 rfl (lv_at hl 4 rfl) ?_
              refine lv_iconst (v := 2) hx hb dX2_valueOf_41 (by decide) ?_
              refine lv_lshl (v := (j3 <<< ((2 : Int32).toInt64 &&& 63))) hx hb dX2_valueOf_42 rfl ?_
              refine lv_iload hx hb dX2_valueOf_43 (lv_at hl 0 rfl) ?_
              refine lv_i2l (v := ((pk (l5).toNatClampNeg)).toInt64) hx hb dX2_valueOf_45 rfl ?_
              refine lv_lor hx hb dX2_valueOf_46 ?_
              refine lv_lstore_n (lv' := [(3, .long ((j3 <<< ((2 : Int32).toInt64 &&& 63)) ||| ((pk (l5).toNatClampNeg)).toInt64)), (6, .int (pk (l5).toNatClampNeg)), (0, .ref m), (1, .ref p), (2, .ref a2), (5, .int l5)]) hx hb dX2_valueOf_47 rfl hl (by decide) rfl (fun ls hl => ?_)
              refine lv_goto (tgt := 247) hx hb dX2_valueOf_48 (by decide) ?_
              exact ih6 a2 ((j3 <<< ((2 : Int32).toInt64 &&& 63)) ||| ((pk (l5).toNatClampNeg)).toInt64) l5 (pk (l5).toNatClampNeg) 0 0 0 0 0 LL sv m_numbers pk _ hB _ _ (hP.part (cx := [(m, .inr (2, [.ref mn, .ref ml, .int m_numbers, .int m_steps, .int m_cameOut])), (mn, aI cI 20 mfn), (ml, aI cI 20 mfl), (p, .inr (4, [.ref ps, .ref pc, .int p_size, .int p_codeSize, .int p_outs, .int p_used])), (ps, aR cS 30 pg), (pc, aI cI 300 pk)]) [0, 1, 2, 3, 4, 5] rfl) (hD.part (cx := [(m, .inr (2, [.ref mn, .ref ml, .int m_numbers, .int m_steps, .int m_cameOut])), (mn, aI cI 20 mfn), (ml, aI cI 20 mfl), (p, .inr (4, [.ref ps, .ref pc, .int p_size, .int p_codeSize, .int p_outs, .int p_used])), (ps, aR cS 30 pg), (pc, aI cI 300 pk)]) [0, 1, 2, 3, 4, 5] (by decide) rfl) hS ls (lv_sub hl [2, 3, 4, 0, 5, 1] rfl)
      · intro a2 j3 l5 l6 l7 l8 l9 s0 u0 LL sv m_numbers pk r hB H locs hP hD hS ls hl
        replace hB := Eq.trans (L_X2_valueOf_e2 K  n a2 j3 l5 l6 l7 l8 l9 s0 u0 LL sv m_numbers pk).symm hB
        unfold B_X2_valueOf_2 at hB
        by_cases hm_1 : a2 ∈ LL
        case neg => rw [if_neg hm_1] at hB; cases hB
        rw [if_pos hm_1] at hB
        refine lv_i2l (v := (s0).toInt64) hx hb dX2_valueOf_105 rfl ?_
        refine lv_lor hx hb dX2_valueOf_106 ?_
        refine lv_lstore_n (lv' := [(3, .long (u0 ||| (s0).toInt64)), (0, .ref m), (1, .ref p), (2, .ref a2), (5, .int l5), (6, .int l6)]) hx hb dX2_valueOf_107 rfl hl (by decide) rfl (fun ls hl => ?_)
        refine lv_goto (tgt := 247) hx hb dX2_valueOf_108 (by decide) ?_
        exact ih6 a2 (u0 ||| (s0).toInt64) l5 l6 0 0 0 0 0 LL sv m_numbers pk _ hB _ _ (hP.part (cx := [(m, .inr (2, [.ref mn, .ref ml, .int m_numbers, .int m_steps, .int m_cameOut])), (mn, aI cI 20 mfn), (ml, aI cI 20 mfl), (p, .inr (4, [.ref ps, .ref pc, .int p_size, .int p_codeSize, .int p_outs, .int p_used])), (ps, aR cS 30 pg), (pc, aI cI 300 pk)]) [0, 1, 2, 3, 4, 5] rfl) (hD.part (cx := [(m, .inr (2, [.ref mn, .ref ml, .int m_numbers, .int m_steps, .int m_cameOut])), (mn, aI cI 20 mfn), (ml, aI cI 20 mfl), (p, .inr (4, [.ref ps, .ref pc, .int p_size, .int p_codeSize, .int p_outs, .int p_used])), (ps, aR cS 30 pg), (pc, aI cI 300 pk)]) [0, 1, 2, 3, 4, 5] (by decide) rfl) hS ls (lv_sub hl [1, 2, 3, 0, 4, 5] rfl)
      · intro a2 j3 l5 l6 l7 l8 l9 s0 u0 LL sv m_numbers pk r hB H locs hP hD hS ls hl
        replace hB := Eq.trans (L_X2_valueOf_e3 K  n a2 j3 l5 l6 l7 l8 l9 s0 u0 LL sv m_numbers pk).symm hB
        unfold B_X2_valueOf_3 at hB
        by_cases hm_1 : a2 ∈ LL
        case neg => rw [if_neg hm_1] at hB; cases hB
        rw [if_pos hm_1] at hB
        refine lv_istore (lv' := [(9, .int s0), (0, .ref m), (1, .ref p), (2, .ref a2), (3, .long j3), (5, .int l5), (6, .int l6), (7, .int l7), (8, .int l8)]) hx hb dX2_valueOf_216 hl (by decide) rfl (fun ls hl => ?_)
        refine lv_goto (tgt := 235) hx hb dX2_valueOf_218 (by decide) ?_
        exact ih5 a2 j3 l5 l6 l7 l8 s0 0 0 LL sv m_numbers pk _ hB _ _ (hP.part (cx := [(m, .inr (2, [.ref mn, .ref ml, .int m_numbers, .int m_steps, .int m_cameOut])), (mn, aI cI 20 mfn), (ml, aI cI 20 mfl), (p, .inr (4, [.ref ps, .ref pc, .int p_size, .int p_codeSize, .int p_outs, .int p_used])), (ps, aR cS 30 pg), (pc, aI cI 300 pk)]) [0, 1, 2, 3, 4, 5] rfl) (hD.part (cx := [(m, .inr (2, [.ref mn, .ref ml, .int m_numbers, .int m_steps, .int m_cameOut])), (mn, aI cI 20 mfn), (ml, aI cI 20 mfl), (p, .inr (4, [.ref ps, .ref pc, .int p_size, .int p_codeSize, .int p_outs, .int p_used])), (ps, aR cS 30 pg), (pc, aI cI 300 pk)]) [0, 1, 2, 3, 4, 5] (by decide) rfl) hS ls (lv_sub hl [1, 2, 3, 4, 5, 6, 7, 8, 0] rfl)
      · intro a2 j3 l5 l6 l7 l8 l9 s0 u0 LL sv m_numbers pk r hB H locs hP hD hS ls hl
        replace hB := Eq.trans (L_X2_valueOf_e4 K  n a2 j3 l5 l6 l7 l8 l9 s0 u0 LL sv m_numbers pk).symm hB
        unfold B_X2_valueOf_4 at hB
        by_cases hm_1 : a2 ∈ LL
        case neg => rw [if_neg hm_1] at hB; cases hB
        rw [if_pos hm_1] at hB
        refine lv_istore (lv' := [(9, .int s0), (0, .ref m), (1, .ref p), (2, .ref a2), (3, .long j3), (5, .int l5), (6, .int l6), (7, .int l7), (8, .int l8)]) hx hb dX2_valueOf_233 hl (by decide) rfl (fun ls hl => ?_)
        exact ih5 a2 j3 l5 l6 l7 l8 s0 0 0 LL sv m_numbers pk _ hB _ _ (hP.part (cx := [(m, .inr (2, [.ref mn, .ref ml, .int m_numbers, .int m_steps, .int m_cameOut])), (mn, aI cI 20 mfn), (ml, aI cI 20 mfl), (p, .inr (4, [.ref ps, .ref pc, .int p_size, .int p_codeSize, .int p_outs, .int p_used])), (ps, aR cS 30 pg), (pc, aI cI 300 pk)]) [0, 1, 2, 3, 4, 5] rfl) (hD.part (cx := [(m, .inr (2, [.ref mn, .ref ml, .int m_numbers, .int m_steps, .int m_cameOut])), (mn, aI cI 20 mfn), (ml, aI cI 20 mfl), (p, .inr (4, [.ref ps, .ref pc, .int p_size, .int p_codeSize, .int p_outs, .int p_used])), (ps, aR cS 30 pg), (pc, aI cI 300 pk)]) [0, 1, 2, 3, 4, 5] (by decide) rfl) hS ls (lv_sub hl [1, 2, 3, 4, 5, 6, 7, 8, 0] rfl)
      · intro a2 j3 l5 l6 l7 l8 l9 s0 u0 LL sv m_numbers pk r hB H locs hP hD hS ls hl
        replace hB := Eq.trans (L_X2_valueOf_e5 K  n a2 j3 l5 l6 l7 l8 l9 s0 u0 LL sv m_numbers pk).symm hB
        unfold B_X2_valueOf_5 at hB
        by_cases hm_1 : a2 ∈ LL
        case neg => rw [if_neg hm_1] at hB; cases hB
        rw [if_pos hm_1] at hB
        refine lv_lload_n hx hb dX2_valueOf_235 rfl (lv_at hl 3 rfl) ?_
        refine lv_iconst (v := 4) hx hb dX2_valueOf_236 (by decide) ?_
        refine lv_lushr (v := ((j3).toUInt64 >>> ((4 : Int32).toInt64.toUInt64 &&& Int64.toUInt64 63)).toInt64) hx hb dX2_valueOf_237 rfl ?_
        refine lv_iconst (v := 2) hx hb dX2_valueOf_238 (by decide) ?_
        refine lv_lshl (v := (((j3).toUInt64 >>> ((4 : Int32).toInt64.toUInt64 &&& Int64.toUInt64 63)).toInt64 <<< ((2 : Int32).toInt64 &&& 63))) hx hb dX2_valueOf_239 rfl ?_
        refine lv_iload hx hb dX2_valueOf_240 (lv_at hl 8 rfl) ?_
        refine lv_iconst (v := 3) hx hb dX2_valueOf_242 (by decide) ?_
        refine lv_iand hx hb dX2_valueOf_243 ?_
        refine lv_i2l (v := ((l9 &&& 3)).toInt64) hx hb dX2_valueOf_244 rfl ?_
        refine lv_lor hx hb dX2_valueOf_245 ?_
        refine lv_lstore_n (lv' := [(3, .long ((((j3).toUInt64 >>> ((4 : Int32).toInt64.toUInt64 &&& Int64.toUInt64 63)).toInt64 <<< ((2 : Int32).toInt64 &&& 63)) ||| ((l9 &&& 3)).toInt64)), (0, .ref m), (1, .ref p), (2, .ref a2), (5, .int l5), (6, .int l6), (7, .int l7), (8, .int l8), (9, .int l9)]) hx hb dX2_valueOf_246 rfl hl (by decide) rfl (fun ls hl => ?_)
        exact ih6 a2 ((((j3).toUInt64 >>> ((4 : Int32).toInt64.toUInt64 &&& Int64.toUInt64 63)).toInt64 <<< ((2 : Int32).toInt64 &&& 63)) ||| ((l9 &&& 3)).toInt64) l5 l6 0 0 0 0 0 LL sv m_numbers pk _ hB _ _ (hP.part (cx := [(m, .inr (2, [.ref mn, .ref ml, .int m_numbers, .int m_steps, .int m_cameOut])), (mn, aI cI 20 mfn), (ml, aI cI 20 mfl), (p, .inr (4, [.ref ps, .ref pc, .int p_size, .int p_codeSize, .int p_outs, .int p_used])), (ps, aR cS 30 pg), (pc, aI cI 300 pk)]) [0, 1, 2, 3, 4, 5] rfl) (hD.part (cx := [(m, .inr (2, [.ref mn, .ref ml, .int m_numbers, .int m_steps, .int m_cameOut])), (mn, aI cI 20 mfn), (ml, aI cI 20 mfl), (p, .inr (4, [.ref ps, .ref pc, .int p_size, .int p_codeSize, .int p_outs, .int p_used])), (ps, aR cS 30 pg), (pc, aI cI 300 pk)]) [0, 1, 2, 3, 4, 5] (by decide) rfl) hS ls (lv_sub hl [1, 2, 3, 0, 4, 5] rfl)
      · intro a2 j3 l5 l6 l7 l8 l9 s0 u0 LL sv m_numbers pk r hB H locs hP hD hS ls hl
        replace hB := Eq.trans (L_X2_valueOf_e6 K  n a2 j3 l5 l6 l7 l8 l9 s0 u0 LL sv m_numbers pk).symm hB
        unfold B_X2_valueOf_6 at hB
        by_cases hm_1 : a2 ∈ LL
        case neg => rw [if_neg hm_1] at hB; cases hB
        rw [if_pos hm_1] at hB
        refine lv_iinc (v := (l5 + 1)) (lv' := [(5, .int (l5 + 1)), (0, .ref m), (1, .ref p), (2, .ref a2), (3, .long j3), (6, .int l6)]) hx hb dX2_valueOf_247 hl (k := 4) rfl (rfl) (by decide) rfl (fun ls hl => ?_)
        refine lv_goto (tgt := 8) hx hb dX2_valueOf_250 (by decide) ?_
        exact ih1 a2 j3 (l5 + 1) 0 0 0 0 0 0 LL sv m_numbers pk _ hB _ _ (hP.part (cx := [(m, .inr (2, [.ref mn, .ref ml, .int m_numbers, .int m_steps, .int m_cameOut])), (mn, aI cI 20 mfn), (ml, aI cI 20 mfl), (p, .inr (4, [.ref ps, .ref pc, .int p_size, .int p_codeSize, .int p_outs, .int p_used])), (ps, aR cS 30 pg), (pc, aI cI 300 pk)]) [0, 1, 2, 3, 4, 5] rfl) (hD.part (cx := [(m, .inr (2, [.ref mn, .ref ml, .int m_numbers, .int m_steps, .int m_cameOut])), (mn, aI cI 20 mfn), (ml, aI cI 20 mfl), (p, .inr (4, [.ref ps, .ref pc, .int p_size, .int p_codeSize, .int p_outs, .int p_used])), (ps, aR cS 30 pg), (pc, aI cI 300 pk)]) [0, 1, 2, 3, 4, 5] (by decide) rfl) hS ls (lv_sub hl [1, 2, 3, 4, 0] rfl)
      · intro a2 j3 l5 l6 l7 l8 l9 s0 u0 LL sv m_numbers pk r hB H locs hP hD hS ls hl
        replace hB := Eq.trans (L_X2_valueOf_e7 K  n a2 j3 l5 l6 l7 l8 l9 s0 u0 LL sv m_numbers pk).symm hB
        unfold B_X2_valueOf_7 at hB
        by_cases hm_1 : a2 ∈ LL
        case neg => rw [if_neg hm_1] at hB; cases hB
        rw [if_pos hm_1] at hB
        refine lv_lload_n hx hb dX2_valueOf_253 rfl (lv_at hl 3 rfl) ?_
        refine lv_l2i (v := (j3).toInt32) hx hb dX2_valueOf_254 rfl ?_
        refine lv_iconst (v := 3) hx hb dX2_valueOf_255 (by decide) ?_
        refine lv_iand hx hb dX2_valueOf_256 ?_
        obtain rfl := Option.some.inj hB
        have hP9 := (hP.part (cx := [(m, .inr (2, [.ref mn, .ref ml, .int m_numbers, .int m_steps, .int m_cameOut])), (mn, aI cI 20 mfn), (ml, aI cI 20 mfl), (p, .inr (4, [.ref ps, .ref pc, .int p_size, .int p_codeSize, .int p_outs, .int p_used])), (ps, aR cS 30 pg), (pc, aI cI 300 pk)]) [0, 1, 2, 3, 4, 5] rfl)
        have hD9 := (hD.part (cx := [(m, .inr (2, [.ref mn, .ref ml, .int m_numbers, .int m_steps, .int m_cameOut])), (mn, aI cI 20 mfn), (ml, aI cI 20 mfl), (p, .inr (4, [.ref ps, .ref pc, .int p_size, .int p_codeSize, .int p_outs, .int p_used])), (ps, aR cS 30 pg), (pc, aI cI 300 pk)]) [0, 1, 2, 3, 4, 5] (by decide) rfl)
        exact W.iret (v := ((j3).toInt32 &&& 3)) hx hb hr (fun tt_ ht hW => ⟨⟨_, (), rfl, rfl, by rw [ht]; exact hP9, hD9⟩, hS.F ht⟩) hS.2.2 dX2_valueOf_257
  exact (key K).1 sa 0 0 0 0 0 0 0 0 LL sv m_numbers pk r hF _ _ hP hD hS ls hl
def B_X1_begin_0 (K : Nat)  (rec : Nat → Int32 → Int32 → Int32 → Int32 → Int32 → Int32 → (Nat → Int32) → Option (Int32 × Int32 × Int32 × (Nat → Int32))) (l1 : Int32) (l2 : Int32) (l3 : Int32) (wt_slotMask : Int32) (wt_many : Int32) (wt_greatest : Int32) (wtgo : Nat → Int32) : Option (Int32 × Int32 × Int32 × (Nat → Int32)) := rec 1 l1 (if 8192 < (2 * l1) then 8192 else (2 * l1)) 0 wt_slotMask wt_many wt_greatest wtgo
def B_X1_begin_1 (K : Nat)  (rec : Nat → Int32 → Int32 → Int32 → Int32 → Int32 → Int32 → (Nat → Int32) → Option (Int32 × Int32 × Int32 × (Nat → Int32))) (l1 : Int32) (l2 : Int32) (l3 : Int32) (wt_slotMask : Int32) (wt_many : Int32) (wt_greatest : Int32) (wtgo : Nat → Int32) : Option (Int32 × Int32 × Int32 × (Nat → Int32)) := if l2 ≤ l3 then (some ((l2 - 1), 0, 0, wtgo)) else (if okIx l3 8192 = true then (rec 1 l1 l2 (l3 + 1) wt_slotMask wt_many wt_greatest (upd wtgo (l3).toNatClampNeg 0)) else none)
def L_X1_begin (K : Nat)  : Nat → Nat → Int32 → Int32 → Int32 → Int32 → Int32 → Int32 → (Nat → Int32) → Option (Int32 × Int32 × Int32 × (Nat → Int32))
  | 0 => fun _ _ _ _ _ _ _ _ => none
  | n + 1 => fun c l1 l2 l3 wt_slotMask wt_many wt_greatest wtgo => match c with | 0 => B_X1_begin_0 K  (L_X1_begin K  n) l1 l2 l3 wt_slotMask wt_many wt_greatest wtgo | 1 => B_X1_begin_1 K  (L_X1_begin K  n) l1 l2 l3 wt_slotMask wt_many wt_greatest wtgo | _ => none
theorem L_X1_begin_e0 (K : Nat)  (n : Nat) (l1 : Int32) (l2 : Int32) (l3 : Int32) (wt_slotMask : Int32) (wt_many : Int32) (wt_greatest : Int32) (wtgo : Nat → Int32) : L_X1_begin K  (n + 1) 0 l1 l2 l3 wt_slotMask wt_many wt_greatest wtgo = B_X1_begin_0 K  (L_X1_begin K  n) l1 l2 l3 wt_slotMask wt_many wt_greatest wtgo := rfl
theorem L_X1_begin_e1 (K : Nat)  (n : Nat) (l1 : Int32) (l2 : Int32) (l3 : Int32) (wt_slotMask : Int32) (wt_many : Int32) (wt_greatest : Int32) (wtgo : Nat → Int32) : L_X1_begin K  (n + 1) 1 l1 l2 l3 wt_slotMask wt_many wt_greatest wtgo = B_X1_begin_1 K  (L_X1_begin K  n) l1 l2 l3 wt_slotMask wt_many wt_greatest wtgo := rfl
def F_X1_begin (K : Nat) (l1 : Int32) (wt_slotMask : Int32) (wt_many : Int32) (wt_greatest : Int32) (wtgo : Nat → Int32) : Option (Int32 × Int32 × Int32 × (Nat → Int32)) := L_X1_begin K K 0 l1 0 0 wt_slotMask wt_many wt_greatest wtgo
set_option maxHeartbeats 2000000 in
set_option maxRecDepth 100000 in
theorem c_X1_begin (l : Launch) (dC : Nat → ClassId) (dI : Nat → Nat → Nat) (cI cJ cS : ClassId) (sz K : Nat) (wt : Nat) (y1 : Int32) (wtf : Nat) (wts : Nat) (wtz : Nat) (wto : Nat) (wt_slotMask : Int32) (wt_many : Int32) (wt_greatest : Int32) (wtgf : Nat → Int64) (wtgs : Nat → Int64) (wtgz : Nat → Int32) (wtgo : Nat → Int32) (w0 : Int32) (w1 : Int32) (w2 : Int32) (w3 : Nat → Int32) (hF : F_X1_begin K y1 wt_slotMask wt_many wt_greatest wtgo = some (w0, w1, w2, w3)) : Met l yX1_begin wsX1_begin ({ frames := 1, cells := 0, slots := 0, locals := 13 }) (va_Pc [.ref wt, .int y1] (PE dC dI cI cJ cS [(wt, .inr (1, [.ref wtf, .ref wts, .ref wtz, .ref wto, .int wt_slotMask, .int wt_many, .int wt_greatest])), (wtf, aJ cJ 4096 wtgf), (wts, aJ cJ 4096 wtgs), (wtz, aI cI 4096 wtgz), (wto, aI cI 8192 wtgo)] sz)) (va_Qv (fun (_ : Unit) => True) (BE dC dI (va_A [(wt, .inr (1, [.ref wtf, .ref wts, .ref wtz, .ref wto, .int wt_slotMask, .int wt_many, .int wt_greatest])), (wtf, aJ cJ 4096 wtgf), (wts, aJ cJ 4096 wtgs), (wtz, aI cI 4096 wtgz), (wto, aI cI 8192 wtgo)] sz) (fun _ => [(wt, .inr (1, [.ref wtf, .ref wts, .ref wtz, .ref wto, .int w0, .int w1, .int w2])), (wtf, aJ cJ 4096 wtgf), (wts, aJ cJ 4096 wtgs), (wtz, aI cI 4096 wtgz), (wto, aI cI 8192 w3)])) (va_A [(wt, .inr (1, [.ref wtf, .ref wts, .ref wtz, .ref wto, .int wt_slotMask, .int wt_many, .int wt_greatest])), (wtf, aJ cJ 4096 wtgf), (wts, aJ cJ 4096 wtgs), (wtz, aI cI 4096 wtgz), (wto, aI cI 8192 wtgo)] sz)) 0 0 (va_A [(wt, .inr (1, [.ref wtf, .ref wts, .ref wtz, .ref wto, .int wt_slotMask, .int wt_many, .int wt_greatest])), (wtf, aJ cJ 4096 wtgf), (wts, aJ cJ 4096 wtgs), (wtz, aI cI 4096 wtgz), (wto, aI cI 8192 wtgo)] sz) := by
  refine Met.ofW (cc := cX1_begin) (maxL := 4) (ret := none) (by decide) rfl ?_
  intro pp_ ee_ ss_ mm_ args below meth cc_ s₁ B hml hv
  obtain ⟨rfl, hsz, hP, hE, hD0⟩ := hv
  have hx := B.exec
  have hb := B.bytes
  have hr := B.returns
  have hts := atoms_spec (ws := wsX1_begin) B.pre
  have hown : ss_.vm.findClass RX1 = some mm_.cls := findClass_of_methodNamed B.named
  have hlocks := B.notSynchronized
  have hK := hE.1
  have hiX1 : ∀ w ∈ wsX10, w ∈ wsX1_begin := fun _ h => (List.mem_cons_of_mem _ (List.mem_append_right _ h))
  subst hsz
  have hD := hD0.self (sz := ss_.heap.size)
  generalize hAe : va_A [(wt, .inr (1, [.ref wtf, .ref wts, .ref wtz, .ref wto, .int wt_slotMask, .int wt_many, .int wt_greatest])), (wtf, aJ cJ 4096 wtgf), (wts, aJ cJ 4096 wtgs), (wtz, aI cI 4096 wtgz), (wto, aI cI 8192 wtgo)] ss_.heap.size = A at hD ⊢
  have hA : ∀ q : Nat, ss_.heap.size ≤ q → A q := fun q h => by rw [← hAe]; exact Or.inr h
  have hS : va_S A ss_.heap ss_.heap [] := va_S.rf
  have hl := lv_entry ([.ref wt, .int y1]) (n := 4) (Nat.le_of_ble_eq_true rfl)
  rw [lg_entry_eq]
  generalize (lg_sl ([.ref wt, .int y1]) ++ List.replicate (4 - (lg_sl ([.ref wt, .int y1])).length) Slot.unset).toArray = ls at hl ⊢
  have hl : lv_has ls 4 [(0, .ref wt), (1, .int y1)] := hl
  have key : ∀ n : Nat, (∀ (l1 : Int32) (l2 : Int32) (l3 : Int32) (wt_slotMask : Int32) (wt_many : Int32) (wt_greatest : Int32) (wtgo : Nat → Int32) (w0 : Int32) (w1 : Int32) (w2 : Int32) (w3 : Nat → Int32), L_X1_begin K  n 0 l1 l2 l3 wt_slotMask wt_many wt_greatest wtgo = some (w0, w1, w2, w3) → ∀ (H : Heap) (locs : List Loc), va_P (dC, dI) vwCl [(wt, .inr (1, [.ref wtf, .ref wts, .ref wtz, .ref wto, .int wt_slotMask, .int wt_many, .int wt_greatest])), (wtf, aJ cJ 4096 wtgf), (wts, aJ cJ 4096 wtgs), (wtz, aI cI 4096 wtgz), (wto, aI cI 8192 wtgo)] H → va_D A [(wt, .inr (1, [.ref wtf, .ref wts, .ref wtz, .ref wto, .int wt_slotMask, .int wt_many, .int wt_greatest])), (wtf, aJ cJ 4096 wtgf), (wts, aJ cJ 4096 wtgs), (wtz, aI cI 4096 wtgz), (wto, aI cI 8192 wtgo)] → va_S A ss_.heap H locs → ∀ ls : Array Slot, lv_has ls 4 [(0, .ref wt), (1, .int l1)] → W pp_ l ee_ (headSpec wsX1_begin ({ frames := 1, cells := 0, slots := 0, locals := 13 })).room ss_ mm_ #[.ref wt, .int y1] below meth cc_ H locs 0 0 (MQ below (va_Qv (fun (_ : Unit) => True) (BE dC dI A (fun _ => [(wt, .inr (1, [.ref wtf, .ref wts, .ref wtz, .ref wto, .int w0, .int w1, .int w2])), (wtf, aJ cJ 4096 wtgf), (wts, aJ cJ 4096 wtgs), (wtz, aI cI 4096 wtgz), (wto, aI cI 8192 w3)])) A) #[.ref wt, .int y1] ss_ 0 0 A) (F0 mm_ 0 ls [])) ∧ (∀ (l1 : Int32) (l2 : Int32) (l3 : Int32) (wt_slotMask : Int32) (wt_many : Int32) (wt_greatest : Int32) (wtgo : Nat → Int32) (w0 : Int32) (w1 : Int32) (w2 : Int32) (w3 : Nat → Int32), L_X1_begin K  n 1 l1 l2 l3 wt_slotMask wt_many wt_greatest wtgo = some (w0, w1, w2, w3) → ∀ (H : Heap) (locs : List Loc), va_P (dC, dI) vwCl [(wt, .inr (1, [.ref wtf, .ref wts, .ref wtz, .ref wto, .int wt_slotMask, .int wt_many, .int wt_greatest])), (wtf, aJ cJ 4096 wtgf), (wts, aJ cJ 4096 wtgs), (wtz, aI cI 4096 wtgz), (wto, aI cI 8192 wtgo)] H → va_D A [(wt, .inr (1, [.ref wtf, .ref wts, .ref wtz, .ref wto, .int wt_slotMask, .int wt_many, .int wt_greatest])), (wtf, aJ cJ 4096 wtgf), (wts, aJ cJ 4096 wtgs), (wtz, aI cI 4096 wtgz), (wto, aI cI 8192 wtgo)] → va_S A ss_.heap H locs → ∀ ls : Array Slot, lv_has ls 4 [(0, .ref wt), (1, .int l1), (2, .int l2), (3, .int l3)] → W pp_ l ee_ (headSpec wsX1_begin ({ frames := 1, cells := 0, slots := 0, locals := 13 })).room ss_ mm_ #[.ref wt, .int y1] below meth cc_ H locs 0 0 (MQ below (va_Qv (fun (_ : Unit) => True) (BE dC dI A (fun _ => [(wt, .inr (1, [.ref wtf, .ref wts, .ref wtz, .ref wto, .int w0, .int w1, .int w2])), (wtf, aJ cJ 4096 wtgf), (wts, aJ cJ 4096 wtgs), (wtz, aI cI 4096 wtgz), (wto, aI cI 8192 w3)])) A) #[.ref wt, .int y1] ss_ 0 0 A) (F0 mm_ 14 ls [])) := by
    intro n
    induction n with
    | zero => exact ⟨(fun _ _ _ _ _ _ _ _ _ _ _ hF => absurd hF (fun e => by cases e)), (fun _ _ _ _ _ _ _ _ _ _ _ hF => absurd hF (fun e => by cases e))⟩
    | succ n ih =>
      obtain ⟨ih0, ih1⟩ := ih
      refine ⟨?_, ?_⟩
      · intro l1 l2 l3 wt_slotMask wt_many wt_greatest wtgo w0 w1 w2 w3 hB H locs hP hD hS ls hl
        replace hB := Eq.trans (L_X1_begin_e0 K  n l1 l2 l3 wt_slotMask wt_many wt_greatest wtgo).symm hB
        unfold B_X1_begin_0 at hB
        refine lv_iconst (v := 2) hx hb dX1_begin_0 (by decide) ?_
        refine lv_iload_n hx hb dX1_begin_1 rfl (lv_at hl 1 rfl) ?_
        refine lv_imul hx hb dX1_begin_2 ?_
        refine lv_aload_n hx hb dX1_begin_3 rfl (lv_at hl 0 rfl) ?_
        refine va_get (D := (dC, dI)) (ci := 1) (v := .ref wto) (C := RX1) (T := TX1) (N := 7) hx hb hts hiX1 hown hK hP 0 rfl rfl 3 (by decide) (hts (.fieldLink RX1 22 "WatchedPrograms$HeapTable" "slots" "[I") (by decide +kernel)) (fun _ h9 => h9) rfl dX1_begin_4 ?_
        refine va_alen hx hb hK hP 4 0 rfl rfl (v := 8192) rfl dX1_begin_7 ?_
        refine va_mmin hx hb (hml.trans hl.1.symm) hown (hts (.methodLink RX1 25 Lib.Math.min.name) (by decide +kernel)) (hts (.static Lib.Math.min.name) (by decide +kernel)) (hts (.initialized "java/lang/Math") (by decide +kernel)) (hts (.code Lib.Math.min.name Lib.Math.min.code 2 (some .int)) (by decide +kernel)) (Nat.le_of_ble_eq_true rfl) (Nat.le_of_ble_eq_true rfl) (Nat.le_of_ble_eq_true rfl) (Nat.le_of_ble_eq_true rfl) dX1_begin_8 ?_
        refine lv_istore_n (lv' := [(2, .int (if 8192 < (2 * l1) then 8192 else (2 * l1))), (0, .ref wt), (1, .int l1)]) hx hb dX1_begin_11 rfl hl (by decide) rfl (fun ls hl => ?_)
        refine lv_iconst (v := 0) hx hb dX1_begin_12 (by decide) ?_
        refine lv_istore_n (lv' := [(3, .int 0), (2, .int (if 8192 < (2 * l1) then 8192 else (2 * l1))), (0, .ref wt), (1, .int l1)]) hx hb dX1_begin_13 rfl hl (by decide) rfl (fun ls hl => ?_)
        exact ih1 l1 (if 8192 < (2 * l1) then 8192 else (2 * l1)) 0 wt_slotMask wt_many wt_greatest wtgo _ _ _ _ hB _ _ (hP.sub (ws' := [(wt, .inr (1, [.ref wtf, .ref wts, .ref wtz, .ref wto, .int wt_slotMask, .int wt_many, .int wt_greatest])), (wtf, aJ cJ 4096 wtgf), (wts, aJ cJ 4096 wtgs), (wtz, aI cI 4096 wtgz), (wto, aI cI 8192 wtgo)]) [0, 1, 2, 3, 4] rfl) (hD.sub (ws' := [(wt, .inr (1, [.ref wtf, .ref wts, .ref wtz, .ref wto, .int wt_slotMask, .int wt_many, .int wt_greatest])), (wtf, aJ cJ 4096 wtgf), (wts, aJ cJ 4096 wtgs), (wtz, aI cI 4096 wtgz), (wto, aI cI 8192 wtgo)]) [0, 1, 2, 3, 4] (by decide) rfl) hS ls (lv_sub hl [2, 3, 1, 0] rfl)
      · intro l1 l2 l3 wt_slotMask wt_many wt_greatest wtgo w0 w1 w2 w3 hB H locs hP hD hS ls hl
        replace hB := Eq.trans (L_X1_begin_e1 K  n l1 l2 l3 wt_slotMask wt_many wt_greatest wtgo).symm hB
        unfold B_X1_begin_1 at hB
        refine lv_iload_n hx hb dX1_begin_14 rfl (lv_at hl 3 rfl) ?_
        refine lv_iload_n hx hb dX1_begin_15 rfl (lv_at hl 2 rfl) ?_
        refine lv_icmp_ge (tgt := 32) hx hb dX1_begin_16 (by decide) (fun c_1 => ?_) (fun c_1 => ?_)
        · rw [if_pos c_1] at hB
          refine lv_aload_n hx hb dX1_begin_32 rfl (lv_at hl 0 rfl) ?_
          refine lv_iload_n hx hb dX1_begin_33 rfl (lv_at hl 2 rfl) ?_
          refine lv_iconst (v := 1) hx hb dX1_begin_34 (by decide) ?_
          refine lv_isub hx hb dX1_begin_35 ?_
          refine va_put (D := (dC, dI)) (ci := 1) (v := .int (l2 - 1)) (ty := .int) (C := RX1) (T := TX1) (N := 7) hx hb hts hiX1 tyX1 tyX1_ok nmX1 hown hK hP hD hS 0 rfl rfl 4 (by decide) (hts (.fieldLink RX1 31 "WatchedPrograms$HeapTable" "slotMask" "I") (by decide +kernel)) (fun _ h9 => h9) rfl (by decide +kernel) rfl rfl (Nat.le_of_ble_eq_true rfl) dX1_begin_36 (fun H locs hP hD hS => ?_)
          have hP : va_P (dC, dI) vwCl [(wt, .inr (1, [.ref wtf, .ref wts, .ref wtz, .ref wto, .int (l2 - 1), .int wt_many, .int wt_greatest])), (wtf, aJ cJ 4096 wtgf), (wts, aJ cJ 4096 wtgs), (wtz, aI cI 4096 wtgz), (wto, aI cI 8192 wtgo)] H := hP
          have hD : va_D A [(wt, .inr (1, [.ref wtf, .ref wts, .ref wtz, .ref wto, .int (l2 - 1), .int wt_many, .int wt_greatest])), (wtf, aJ cJ 4096 wtgf), (wts, aJ cJ 4096 wtgs), (wtz, aI cI 4096 wtgz), (wto, aI cI 8192 wtgo)] := hD
          refine lv_aload_n hx hb dX1_begin_39 rfl (lv_at hl 0 rfl) ?_
          refine lv_iconst (v := 0) hx hb dX1_begin_40 (by decide) ?_
          refine va_put (D := (dC, dI)) (ci := 1) (v := .int 0) (ty := .int) (C := RX1) (T := TX1) (N := 7) hx hb hts hiX1 tyX1 tyX1_ok nmX1 hown hK hP hD hS 0 rfl rfl 5 (by decide) (hts (.fieldLink RX1 35 "WatchedPrograms$HeapTable" "many" "I") (by decide +kernel)) (fun _ h9 => h9) rfl (by decide +kernel) rfl rfl (Nat.le_of_ble_eq_true rfl) dX1_begin_41 (fun H locs hP hD hS => ?_)
          have hP : va_P (dC, dI) vwCl [(wt, .inr (1, [.ref wtf, .ref wts, .ref wtz, .ref wto, .int (l2 - 1), .int 0, .int wt_greatest])), (wtf, aJ cJ 4096 wtgf), (wts, aJ cJ 4096 wtgs), (wtz, aI cI 4096 wtgz), (wto, aI cI 8192 wtgo)] H := hP
          have hD : va_D A [(wt, .inr (1, [.ref wtf, .ref wts, .ref wtz, .ref wto, .int (l2 - 1), .int 0, .int wt_greatest])), (wtf, aJ cJ 4096 wtgf), (wts, aJ cJ 4096 wtgs), (wtz, aI cI 4096 wtgz), (wto, aI cI 8192 wtgo)] := hD
          refine lv_aload_n hx hb dX1_begin_44 rfl (lv_at hl 0 rfl) ?_
          refine lv_iconst (v := 0) hx hb dX1_begin_45 (by decide) ?_
          refine va_put (D := (dC, dI)) (ci := 1) (v := .int 0) (ty := .int) (C := RX1) (T := TX1) (N := 7) hx hb hts hiX1 tyX1 tyX1_ok nmX1 hown hK hP hD hS 0 rfl rfl 6 (by decide) (hts (.fieldLink RX1 38 "WatchedPrograms$HeapTable" "greatest" "I") (by decide +kernel)) (fun _ h9 => h9) rfl (by decide +kernel) rfl rfl (Nat.le_of_ble_eq_true rfl) dX1_begin_46 (fun H locs hP hD hS => ?_)
          have hP : va_P (dC, dI) vwCl [(wt, .inr (1, [.ref wtf, .ref wts, .ref wtz, .ref wto, .int (l2 - 1), .int 0, .int 0])), (wtf, aJ cJ 4096 wtgf), (wts, aJ cJ 4096 wtgs), (wtz, aI cI 4096 wtgz), (wto, aI cI 8192 wtgo)] H := hP
          have hD : va_D A [(wt, .inr (1, [.ref wtf, .ref wts, .ref wtz, .ref wto, .int (l2 - 1), .int 0, .int 0])), (wtf, aJ cJ 4096 wtgf), (wts, aJ cJ 4096 wtgs), (wtz, aI cI 4096 wtgz), (wto, aI cI 8192 wtgo)] := hD
          simp only [Option.some.injEq, Prod.mk.injEq] at hB
          obtain ⟨rfl, rfl, rfl, rfl⟩ := hB
          have hP9 := (hP.sub (ws' := [(wt, .inr (1, [.ref wtf, .ref wts, .ref wtz, .ref wto, .int (l2 - 1), .int 0, .int 0])), (wtf, aJ cJ 4096 wtgf), (wts, aJ cJ 4096 wtgs), (wtz, aI cI 4096 wtgz), (wto, aI cI 8192 wtgo)]) [0, 1, 2, 3, 4] rfl)
          have hD9 := (hD.sub (ws' := [(wt, .inr (1, [.ref wtf, .ref wts, .ref wtz, .ref wto, .int (l2 - 1), .int 0, .int 0])), (wtf, aJ cJ 4096 wtgf), (wts, aJ cJ 4096 wtgs), (wtz, aI cI 4096 wtgz), (wto, aI cI 8192 wtgo)]) [0, 1, 2, 3, 4] (by decide) rfl)
          exact W.vret hx hb hr (fun tt_ ht hW => ⟨⟨(), rfl, trivial, by rw [ht]; exact hP9, hD9⟩, hS.F ht⟩) hS.2.2 dX1_begin_49
        · rw [if_neg c_1] at hB
          refine lv_aload_n hx hb dX1_begin_19 rfl (lv_at hl 0 rfl) ?_
          refine va_get (D := (dC, dI)) (ci := 1) (v := .ref wto) (C := RX1) (T := TX1) (N := 7) hx hb hts hiX1 hown hK hP 0 rfl rfl 3 (by decide) (hts (.fieldLink RX1 22 "WatchedPrograms$HeapTable" "slots" "[I") (by decide +kernel)) (fun _ h9 => h9) rfl dX1_begin_20 ?_
          refine lv_iload_n hx hb dX1_begin_23 rfl (lv_at hl 3 rfl) ?_
          refine lv_iconst (v := 0) hx hb dX1_begin_24 (by decide) ?_
          by_cases k_2 : okIx l3 8192 = true
          case neg => rw [if_neg k_2] at hB; cases hB
          rw [if_pos k_2] at hB
          refine va_iast hx hb hK hP hD hS 4 0 rfl rfl (okIx_in k_2) dX1_begin_25 (fun H locs hP hD hS => ?_)
          have hP : va_P (dC, dI) vwCl [(wt, .inr (1, [.ref wtf, .ref wts, .ref wtz, .ref wto, .int wt_slotMask, .int wt_many, .int wt_greatest])), (wtf, aJ cJ 4096 wtgf), (wts, aJ cJ 4096 wtgs), (wtz, aI cI 4096 wtgz), (wto, aI cI 8192 (upd wtgo (l3).toNatClampNeg 0))] H := hP
          have hD : va_D A [(wt, .inr (1, [.ref wtf, .ref wts, .ref wtz, .ref wto, .int wt_slotMask, .int wt_many, .int wt_greatest])), (wtf, aJ cJ 4096 wtgf), (wts, aJ cJ 4096 wtgs), (wtz, aI cI 4096 wtgz), (wto, aI cI 8192 (upd wtgo (l3).toNatClampNeg 0))] := hD
          refine lv_iinc (v := (l3 + 1)) (lv' := [(3, .int (l3 + 1)), (0, .ref wt), (1, .int l1), (2, .int l2)]) hx hb dX1_begin_26 hl (k := 3) rfl (rfl) (by decide) rfl (fun ls hl => ?_)
          refine lv_goto (tgt := 14) hx hb dX1_begin_29 (by decide) ?_
          exact ih1 l1 l2 (l3 + 1) wt_slotMask wt_many wt_greatest (upd wtgo (l3).toNatClampNeg 0) _ _ _ _ hB _ _ (hP.sub (ws' := [(wt, .inr (1, [.ref wtf, .ref wts, .ref wtz, .ref wto, .int wt_slotMask, .int wt_many, .int wt_greatest])), (wtf, aJ cJ 4096 wtgf), (wts, aJ cJ 4096 wtgs), (wtz, aI cI 4096 wtgz), (wto, aI cI 8192 (upd wtgo (l3).toNatClampNeg 0))]) [0, 1, 2, 3, 4] rfl) (hD.sub (ws' := [(wt, .inr (1, [.ref wtf, .ref wts, .ref wtz, .ref wto, .int wt_slotMask, .int wt_many, .int wt_greatest])), (wtf, aJ cJ 4096 wtgf), (wts, aJ cJ 4096 wtgs), (wtz, aI cI 4096 wtgz), (wto, aI cI 8192 (upd wtgo (l3).toNatClampNeg 0))]) [0, 1, 2, 3, 4] (by decide) rfl) hS ls (lv_sub hl [1, 2, 3, 0] rfl)
  exact (key K).1 y1 0 0 wt_slotMask wt_many wt_greatest wtgo w0 w1 w2 w3 hF _ _ hP hD hS ls hl
def B_X1_grow_0 (K : Nat)  (rec : Nat → Int32 → Int32 → (Nat → Int32) → Option (Int32 × (Nat → Int32))) (l1 : Int32) (wt_greatest : Int32) (wtgz : Nat → Int32) : Option (Int32 × (Nat → Int32)) := if okIx l1 4096 = true then (if okIx l1 4096 = true then (if okIx l1 4096 = true then (some ((if wt_greatest < ((upd wtgz (l1).toNatClampNeg ((wtgz (l1).toNatClampNeg) + 1)) (l1).toNatClampNeg) then ((upd wtgz (l1).toNatClampNeg ((wtgz (l1).toNatClampNeg) + 1)) (l1).toNatClampNeg) else wt_greatest), (upd wtgz (l1).toNatClampNeg ((wtgz (l1).toNatClampNeg) + 1)))) else none) else none) else none
def L_X1_grow (K : Nat)  : Nat → Nat → Int32 → Int32 → (Nat → Int32) → Option (Int32 × (Nat → Int32))
  | 0 => fun _ _ _ _ => none
  | n + 1 => fun c l1 wt_greatest wtgz => match c with | 0 => B_X1_grow_0 K  (L_X1_grow K  n) l1 wt_greatest wtgz | _ => none
theorem L_X1_grow_e0 (K : Nat)  (n : Nat) (l1 : Int32) (wt_greatest : Int32) (wtgz : Nat → Int32) : L_X1_grow K  (n + 1) 0 l1 wt_greatest wtgz = B_X1_grow_0 K  (L_X1_grow K  n) l1 wt_greatest wtgz := rfl
def F_X1_grow (K : Nat) (l1 : Int32) (wt_greatest : Int32) (wtgz : Nat → Int32) : Option (Int32 × (Nat → Int32)) := L_X1_grow K K 0 l1 wt_greatest wtgz
set_option maxHeartbeats 2000000 in
set_option maxRecDepth 100000 in
theorem c_X1_grow (l : Launch) (dC : Nat → ClassId) (dI : Nat → Nat → Nat) (cI cJ cS : ClassId) (sz K : Nat) (wt : Nat) (y1 : Int32) (wtf : Nat) (wts : Nat) (wtz : Nat) (wto : Nat) (wt_slotMask : Int32) (wt_many : Int32) (wt_greatest : Int32) (wtgf : Nat → Int64) (wtgs : Nat → Int64) (wtgz : Nat → Int32) (wtgo : Nat → Int32) (w0 : Int32) (w1 : Nat → Int32) (hF : F_X1_grow K y1 wt_greatest wtgz = some (w0, w1)) : Met l yX1_grow wsX1_grow ({ frames := 1, cells := 0, slots := 0, locals := 14 }) (va_Pc [.ref wt, .int y1] (PE dC dI cI cJ cS [(wt, .inr (1, [.ref wtf, .ref wts, .ref wtz, .ref wto, .int wt_slotMask, .int wt_many, .int wt_greatest])), (wtf, aJ cJ 4096 wtgf), (wts, aJ cJ 4096 wtgs), (wtz, aI cI 4096 wtgz), (wto, aI cI 8192 wtgo)] sz)) (va_Qv (fun (_ : Unit) => True) (BE dC dI (va_A [(wt, .inr (1, [.ref wtf, .ref wts, .ref wtz, .ref wto, .int wt_slotMask, .int wt_many, .int wt_greatest])), (wtf, aJ cJ 4096 wtgf), (wts, aJ cJ 4096 wtgs), (wtz, aI cI 4096 wtgz), (wto, aI cI 8192 wtgo)] sz) (fun _ => [(wt, .inr (1, [.ref wtf, .ref wts, .ref wtz, .ref wto, .int wt_slotMask, .int wt_many, .int w0])), (wtf, aJ cJ 4096 wtgf), (wts, aJ cJ 4096 wtgs), (wtz, aI cI 4096 w1), (wto, aI cI 8192 wtgo)])) (va_A [(wt, .inr (1, [.ref wtf, .ref wts, .ref wtz, .ref wto, .int wt_slotMask, .int wt_many, .int wt_greatest])), (wtf, aJ cJ 4096 wtgf), (wts, aJ cJ 4096 wtgs), (wtz, aI cI 4096 wtgz), (wto, aI cI 8192 wtgo)] sz)) 0 0 (va_A [(wt, .inr (1, [.ref wtf, .ref wts, .ref wtz, .ref wto, .int wt_slotMask, .int wt_many, .int wt_greatest])), (wtf, aJ cJ 4096 wtgf), (wts, aJ cJ 4096 wtgs), (wtz, aI cI 4096 wtgz), (wto, aI cI 8192 wtgo)] sz) := by
  refine Met.ofW (cc := cX1_grow) (maxL := 2) (ret := none) (by decide) rfl ?_
  intro pp_ ee_ ss_ mm_ args below meth cc_ s₁ B hml hv
  obtain ⟨rfl, hsz, hP, hE, hD0⟩ := hv
  have hx := B.exec
  have hb := B.bytes
  have hr := B.returns
  have hts := atoms_spec (ws := wsX1_grow) B.pre
  have hown : ss_.vm.findClass RX1 = some mm_.cls := findClass_of_methodNamed B.named
  have hlocks := B.notSynchronized
  have hK := hE.1
  have hiX1 : ∀ w ∈ wsX10, w ∈ wsX1_grow := fun _ h => (List.mem_cons_of_mem _ (List.mem_append_right _ h))
  subst hsz
  have hD := hD0.self (sz := ss_.heap.size)
  generalize hAe : va_A [(wt, .inr (1, [.ref wtf, .ref wts, .ref wtz, .ref wto, .int wt_slotMask, .int wt_many, .int wt_greatest])), (wtf, aJ cJ 4096 wtgf), (wts, aJ cJ 4096 wtgs), (wtz, aI cI 4096 wtgz), (wto, aI cI 8192 wtgo)] ss_.heap.size = A at hD ⊢
  have hA : ∀ q : Nat, ss_.heap.size ≤ q → A q := fun q h => by rw [← hAe]; exact Or.inr h
  have hS : va_S A ss_.heap ss_.heap [] := va_S.rf
  have hl := lv_entry ([.ref wt, .int y1]) (n := 2) (Nat.le_of_ble_eq_true rfl)
  rw [lg_entry_eq]
  generalize (lg_sl ([.ref wt, .int y1]) ++ List.replicate (2 - (lg_sl ([.ref wt, .int y1])).length) Slot.unset).toArray = ls at hl ⊢
  have hl : lv_has ls 2 [(0, .ref wt), (1, .int y1)] := hl
  have key : ∀ n : Nat, (∀ (l1 : Int32) (wt_greatest : Int32) (wtgz : Nat → Int32) (w0 : Int32) (w1 : Nat → Int32), L_X1_grow K  n 0 l1 wt_greatest wtgz = some (w0, w1) → ∀ (H : Heap) (locs : List Loc), va_P (dC, dI) vwCl [(wt, .inr (1, [.ref wtf, .ref wts, .ref wtz, .ref wto, .int wt_slotMask, .int wt_many, .int wt_greatest])), (wtf, aJ cJ 4096 wtgf), (wts, aJ cJ 4096 wtgs), (wtz, aI cI 4096 wtgz), (wto, aI cI 8192 wtgo)] H → va_D A [(wt, .inr (1, [.ref wtf, .ref wts, .ref wtz, .ref wto, .int wt_slotMask, .int wt_many, .int wt_greatest])), (wtf, aJ cJ 4096 wtgf), (wts, aJ cJ 4096 wtgs), (wtz, aI cI 4096 wtgz), (wto, aI cI 8192 wtgo)] → va_S A ss_.heap H locs → ∀ ls : Array Slot, lv_has ls 2 [(0, .ref wt), (1, .int l1)] → W pp_ l ee_ (headSpec wsX1_grow ({ frames := 1, cells := 0, slots := 0, locals := 14 })).room ss_ mm_ #[.ref wt, .int y1] below meth cc_ H locs 0 0 (MQ below (va_Qv (fun (_ : Unit) => True) (BE dC dI A (fun _ => [(wt, .inr (1, [.ref wtf, .ref wts, .ref wtz, .ref wto, .int wt_slotMask, .int wt_many, .int w0])), (wtf, aJ cJ 4096 wtgf), (wts, aJ cJ 4096 wtgs), (wtz, aI cI 4096 w1), (wto, aI cI 8192 wtgo)])) A) #[.ref wt, .int y1] ss_ 0 0 A) (F0 mm_ 0 ls [])) := by
    intro n
    induction n with
    | zero => exact fun _ _ _ _ _ hF => absurd hF (fun e => by cases e)
    | succ n ih =>
      intro l1 wt_greatest wtgz w0 w1 hB H locs hP hD hS ls hl
      replace hB := Eq.trans (L_X1_grow_e0 K  n l1 wt_greatest wtgz).symm hB
      unfold B_X1_grow_0 at hB
      refine lv_aload_n hx hb dX1_grow_0 rfl (lv_at hl 0 rfl) ?_
      refine va_get (D := (dC, dI)) (ci := 1) (v := .ref wtz) (C := RX1) (T := TX1) (N := 7) hx hb hts hiX1 hown hK hP 0 rfl rfl 2 (by decide) (hts (.fieldLink RX1 18 "WatchedPrograms$HeapTable" "sizes" "[I") (by decide +kernel)) (fun _ h9 => h9) rfl dX1_grow_1 ?_
      refine lv_iload_n hx hb dX1_grow_4 rfl (lv_at hl 1 rfl) ?_
      refine lv_dup2_11 hx hb dX1_grow_5 rfl rfl ?_
      by_cases k_1 : okIx l1 4096 = true
      case neg => rw [if_neg k_1] at hB; cases hB
      rw [if_pos k_1] at hB
      refine va_iald hx hb hK hP 3 0 rfl rfl (okIx_in k_1) dX1_grow_6 ?_
      refine lv_iconst (v := 1) hx hb dX1_grow_7 (by decide) ?_
      refine lv_iadd hx hb dX1_grow_8 ?_
      by_cases k_2 : okIx l1 4096 = true
      case neg => rw [if_neg k_2] at hB; cases hB
      rw [if_pos k_2] at hB
      refine va_iast hx hb hK hP hD hS 3 0 rfl rfl (okIx_in k_2) dX1_grow_9 (fun H locs hP hD hS => ?_)
      have hP : va_P (dC, dI) vwCl [(wt, .inr (1, [.ref wtf, .ref wts, .ref wtz, .ref wto, .int wt_slotMask, .int wt_many, .int wt_greatest])), (wtf, aJ cJ 4096 wtgf), (wts, aJ cJ 4096 wtgs), (wtz, aI cI 4096 (upd wtgz (l1).toNatClampNeg ((wtgz (l1).toNatClampNeg) + 1))), (wto, aI cI 8192 wtgo)] H := hP
      have hD : va_D A [(wt, .inr (1, [.ref wtf, .ref wts, .ref wtz, .ref wto, .int wt_slotMask, .int wt_many, .int wt_greatest])), (wtf, aJ cJ 4096 wtgf), (wts, aJ cJ 4096 wtgs), (wtz, aI cI 4096 (upd wtgz (l1).toNatClampNeg ((wtgz (l1).toNatClampNeg) + 1))), (wto, aI cI 8192 wtgo)] := hD
      refine lv_aload_n hx hb dX1_grow_10 rfl (lv_at hl 0 rfl) ?_
      refine lv_aload_n hx hb dX1_grow_11 rfl (lv_at hl 0 rfl) ?_
      refine va_get (D := (dC, dI)) (ci := 1) (v := .int wt_greatest) (C := RX1) (T := TX1) (N := 7) hx hb hts hiX1 hown hK hP 0 rfl rfl 6 (by decide) (hts (.fieldLink RX1 38 "WatchedPrograms$HeapTable" "greatest" "I") (by decide +kernel)) (fun _ h9 => h9) rfl dX1_grow_12 ?_
      refine lv_aload_n hx hb dX1_grow_15 rfl (lv_at hl 0 rfl) ?_
      refine va_get (D := (dC, dI)) (ci := 1) (v := .ref wtz) (C := RX1) (T := TX1) (N := 7) hx hb hts hiX1 hown hK hP 0 rfl rfl 2 (by decide) (hts (.fieldLink RX1 18 "WatchedPrograms$HeapTable" "sizes" "[I") (by decide +kernel)) (fun _ h9 => h9) rfl dX1_grow_16 ?_
      refine lv_iload_n hx hb dX1_grow_19 rfl (lv_at hl 1 rfl) ?_
      by_cases k_3 : okIx l1 4096 = true
      case neg => rw [if_neg k_3] at hB; cases hB
      rw [if_pos k_3] at hB
      refine va_iald hx hb hK hP 3 0 rfl rfl (okIx_in k_3) dX1_grow_20 ?_
      refine va_mmax hx hb (hml.trans hl.1.symm) hown (hts (.methodLink RX1 53 Lib.Math.max.name) (by decide +kernel)) (hts (.static Lib.Math.max.name) (by decide +kernel)) (hts (.initialized "java/lang/Math") (by decide +kernel)) (hts (.code Lib.Math.max.name Lib.Math.max.code 2 (some .int)) (by decide +kernel)) (Nat.le_of_ble_eq_true rfl) (Nat.le_of_ble_eq_true rfl) (Nat.le_of_ble_eq_true rfl) (Nat.le_of_ble_eq_true rfl) dX1_grow_21 ?_
      refine va_put (D := (dC, dI)) (ci := 1) (v := .int (if wt_greatest < ((upd wtgz (l1).toNatClampNeg ((wtgz (l1).toNatClampNeg) + 1)) (l1).toNatClampNeg) then ((upd wtgz (l1).toNatClampNeg ((wtgz (l1).toNatClampNeg) + 1)) (l1).toNatClampNeg) else wt_greatest)) (ty := .int) (C := RX1) (T := TX1) (N := 7) hx hb hts hiX1 tyX1 tyX1_ok nmX1 hown hK hP hD hS 0 rfl rfl 6 (by decide) (hts (.fieldLink RX1 38 "WatchedPrograms$HeapTable" "greatest" "I") (by decide +kernel)) (fun _ h9 => h9) rfl (by decide +kernel) rfl rfl (Nat.le_of_ble_eq_true rfl) dX1_grow_24 (fun H locs hP hD hS => ?_)
      have hP : va_P (dC, dI) vwCl [(wt, .inr (1, [.ref wtf, .ref wts, .ref wtz, .ref wto, .int wt_slotMask, .int wt_many, .int (if wt_greatest < ((upd wtgz (l1).toNatClampNeg ((wtgz (l1).toNatClampNeg) + 1)) (l1).toNatClampNeg) then ((upd wtgz (l1).toNatClampNeg ((wtgz (l1).toNatClampNeg) + 1)) (l1).toNatClampNeg) else wt_greatest)])), (wtf, aJ cJ 4096 wtgf), (wts, aJ cJ 4096 wtgs), (wtz, aI cI 4096 (upd wtgz (l1).toNatClampNeg ((wtgz (l1).toNatClampNeg) + 1))), (wto, aI cI 8192 wtgo)] H := hP
      have hD : va_D A [(wt, .inr (1, [.ref wtf, .ref wts, .ref wtz, .ref wto, .int wt_slotMask, .int wt_many, .int (if wt_greatest < ((upd wtgz (l1).toNatClampNeg ((wtgz (l1).toNatClampNeg) + 1)) (l1).toNatClampNeg) then ((upd wtgz (l1).toNatClampNeg ((wtgz (l1).toNatClampNeg) + 1)) (l1).toNatClampNeg) else wt_greatest)])), (wtf, aJ cJ 4096 wtgf), (wts, aJ cJ 4096 wtgs), (wtz, aI cI 4096 (upd wtgz (l1).toNatClampNeg ((wtgz (l1).toNatClampNeg) + 1))), (wto, aI cI 8192 wtgo)] := hD
      simp only [Option.some.injEq, Prod.mk.injEq] at hB
      obtain ⟨rfl, rfl⟩ := hB
      have hP9 := (hP.sub (ws' := [(wt, .inr (1, [.ref wtf, .ref wts, .ref wtz, .ref wto, .int wt_slotMask, .int wt_many, .int (if wt_greatest < ((upd wtgz (l1).toNatClampNeg ((wtgz (l1).toNatClampNeg) + 1)) (l1).toNatClampNeg) then ((upd wtgz (l1).toNatClampNeg ((wtgz (l1).toNatClampNeg) + 1)) (l1).toNatClampNeg) else wt_greatest)])), (wtf, aJ cJ 4096 wtgf), (wts, aJ cJ 4096 wtgs), (wtz, aI cI 4096 (upd wtgz (l1).toNatClampNeg ((wtgz (l1).toNatClampNeg) + 1))), (wto, aI cI 8192 wtgo)]) [0, 1, 2, 3, 4] rfl)
      have hD9 := (hD.sub (ws' := [(wt, .inr (1, [.ref wtf, .ref wts, .ref wtz, .ref wto, .int wt_slotMask, .int wt_many, .int (if wt_greatest < ((upd wtgz (l1).toNatClampNeg ((wtgz (l1).toNatClampNeg) + 1)) (l1).toNatClampNeg) then ((upd wtgz (l1).toNatClampNeg ((wtgz (l1).toNatClampNeg) + 1)) (l1).toNatClampNeg) else wt_greatest)])), (wtf, aJ cJ 4096 wtgf), (wts, aJ cJ 4096 wtgs), (wtz, aI cI 4096 (upd wtgz (l1).toNatClampNeg ((wtgz (l1).toNatClampNeg) + 1))), (wto, aI cI 8192 wtgo)]) [0, 1, 2, 3, 4] (by decide) rfl)
      exact W.vret hx hb hr (fun tt_ ht hW => ⟨⟨(), rfl, trivial, by rw [ht]; exact hP9, hD9⟩, hS.F ht⟩) hS.2.2 dX1_grow_27
  exact (key K) y1 wt_greatest wtgz w0 w1 hF _ _ hP hD hS ls hl
