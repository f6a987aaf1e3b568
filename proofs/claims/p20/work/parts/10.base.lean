/-! my own base rows: booleans as ints, the world's constant part, calls with the frame in one row -/
def bI (P : Prop) [Decidable P] : Int32 := if P then 1 else 0
theorem bI_t {P : Prop} [Decidable P] (h : P) : bI P = 1 := if_pos h
theorem bI_f {P : Prop} [Decidable P] (h : ¬ P) : bI P = 0 := if_neg h
theorem bI_0 {P : Prop} [Decidable P] {r : Int32} (h : r = bI P) (h0 : r = 0) : ¬ P := fun k => by
  rw [bI_t k] at h; rw [h] at h0; exact absurd h0 (by decide)
theorem bI_1 {P : Prop} [Decidable P] {r : Int32} (h : r = bI P) (h0 : ¬ r = 0) : P := by
  by_cases k : P
  · exact k
  · rw [bI_f k] at h; exact absurd h h0
abbrev aI (c : ClassId) (n : Nat) (f : Nat → Int32) : va_E := .inl (c, n, .inl f)
abbrev aJ (c : ClassId) (n : Nat) (f : Nat → Int64) : va_E := .inl (c, n, .inr (.inl f))
abbrev aR (c : ClassId) (n : Nat) (f : Nat → Option Nat) : va_E := .inl (c, n, .inr (.inr (.inr (.inr f))))
abbrev TY (cI cJ cS : ClassId) : List (ClassId × FieldType) := [(cI, .int), (cJ, .long), (cS, .object "WatchedPrograms$Statement")]
/-- the links to private members of nest mates -/
def NW (U : State) : Prop :=
  va_Nw (.methodLinkNest RX9 15 yX6_init RX9) U ∧ va_Nw (.methodLinkNest RX9 22 yX3_init RX9) U ∧ va_Nw (.methodLinkNest RX3 11 yX7_init RX9) U ∧
  va_Nw (.methodLinkNest RX4 21 yX5_init RX9) U ∧ va_Nw (.methodLinkNest RX9 29 yX2_init RX9) U ∧ va_Nw (.methodLinkNest RX9 36 yX8_init RX9) U ∧
  va_Nw (.methodLinkNest RX8 13 yX2_init RX9) U ∧ va_Nw (.methodLinkNest RX8 20 yX1_init RX9) U ∧ va_Nw (.methodLinkNest RX9 43 yX0_init RX9) U ∧
  va_Nw (.methodLinkNest RX8 72 yX9_numbersOf RX9) U ∧ va_Nw (.methodLinkNest RX8 160 yX9_isWithin RX9) U ∧ va_Nw (.methodLinkNest RX8 88 yX9_following RX9) U ∧
  va_Nw (.methodLinkNest RX0 49 yX9_isWithin RX9) U ∧ va_AO "WatchedPrograms$Statement" U
theorem NW.warm {s U : State} (hW : s.WarmedH U.vm) (h : NW s) : NW U := by
  obtain ⟨h1, h2, h3, h4, h5, h6, h7, h8, h9, h10, h11, h12, h13, h14⟩ := h
  exact ⟨va_Nw.warmM hW h1, va_Nw.warmM hW h2, va_Nw.warmM hW h3, va_Nw.warmM hW h4, va_Nw.warmM hW h5, va_Nw.warmM hW h6, va_Nw.warmM hW h7, va_Nw.warmM hW h8, va_Nw.warmM hW h9, va_Nw.warmM hW h10, va_Nw.warmM hW h11, va_Nw.warmM hW h12, va_Nw.warmM hW h13, va_AO.moved hW.alike h14⟩
theorem NW.same {u U : State} (e : u.vm = U.vm) (h : NW u) : NW U := by
  obtain ⟨h1, h2, h3, h4, h5, h6, h7, h8, h9, h10, h11, h12, h13, h14⟩ := h
  exact ⟨h1.same rfl e, h2.same rfl e, h3.same rfl e, h4.same rfl e, h5.same rfl e, h6.same rfl e, h7.same rfl e, h8.same rfl e, h9.same rfl e, h10.same rfl e, h11.same rfl e, h12.same rfl e, h13.same rfl e, h14.moved (e ▸ Vm.Alike.refl u.vm)⟩
/-- the constant part: classes, array classes, nest links -/
def EV (dC : Nat → ClassId) (dI : Nat → Nat → Nat) (cI cJ cS : ClassId) (U : State) : Prop := va_K (dC, dI) vwCl (TY cI cJ cS) U ∧ NW U
theorem EV.warm {dC : Nat → ClassId} {dI : Nat → Nat → Nat} {cI cJ cS : ClassId} {s U : State} (hW : s.WarmedH U.vm) (h : EV dC dI cI cJ cS s) : EV dC dI cI cJ cS U := ⟨va_K.moved hW.alike h.1, NW.warm hW h.2⟩
theorem EV.calling {dC : Nat → ClassId} {dI : Nat → Nat → Nat} {cI cJ cS : ClassId} {U : State} (g : JFrame) (mk : MethodId) (a : Array Value) (h : EV dC dI cI cJ cS U) : EV dC dI cI cJ cS (U.calling g mk a) := ⟨va_K.moved (u := U) (U := U.calling g mk a) (Vm.Alike.refl U.vm) h.1, NW.same (u := U) (U := U.calling g mk a) rfl h.2⟩
/-- starts: of a method that writes; of one that only reads -/
def PE (dC : Nat → ClassId) (dI : Nat → Nat → Nat) (cI cJ cS : ClassId) (ws : va_W) (sz : Nat) : State → Prop := fun U => U.heap.size = sz ∧ va_P (dC, dI) vwCl ws U.heap ∧ EV dC dI cI cJ cS U ∧ va_D (fun _ => True) ws
def PR (dC : Nat → ClassId) (dI : Nat → Nat → Nat) (cI cJ cS : ClassId) (ws : va_W) : State → Prop := fun U => va_P (dC, dI) vwCl ws U.heap ∧ EV dC dI cI cJ cS U
/-- the world behind a method that writes -/
def BE (dC : Nat → ClassId) (dI : Nat → Nat → Nat) (A : Nat → Prop) {S : Type} (wo : S → va_W) : S → State → Prop := fun u t => va_P (dC, dI) vwCl (wo u) t.heap ∧ va_D A (wo u)
section ZB
variable {dC : Nat → ClassId} {dI : Nat → Nat → Nat} {cI cJ cS : ClassId} {ws : va_W} {sz : Nat} {s : State} {H : Heap} {A : Nat → Prop} {As : List Value} {b ci : Nat} {q : vw_C} {fs : List Value} {tys : List (ClassId × FieldType)}
theorem fbE {av : List Value} : FrameBlind (va_Pc av (PE dC dI cI cJ cS ws sz)) := fun a U g mk q => ⟨q.1, q.2.1, q.2.2.1, q.2.2.2.1.calling g mk a, q.2.2.2.2⟩
theorem fbR {av : List Value} : FrameBlind (va_Pc av (PR dC dI cI cJ cS ws)) := fun a U g mk q => ⟨q.1, q.2.1, q.2.2.calling g mk a⟩
theorem preE (hP : va_P (dC, dI) vwCl ws H) (hE : EV dC dI cI cJ cS s) (hD : va_D A ws) : PreS s H (va_Pc As (PE dC dI cI cJ cS ws H.size)) As := ⟨fbE, fun U hU hW => ⟨rfl, by rw [hU], by rw [hU]; exact hP, hE.warm hW, hD.weaken (fun _ _ _ _ => trivial)⟩⟩
theorem preR (hP : va_P (dC, dI) vwCl ws H) (hE : EV dC dI cI cJ cS s) : PreS s H (va_Pc As (PR dC dI cI cJ cS ws)) As := ⟨fbR, fun U hU hW => ⟨rfl, by rw [hU]; exact hP, hE.warm hW⟩⟩
theorem preEV (hP : va_P (dC, dI) vwCl ws H) (hE : EV dC dI cI cJ cS s) (hD : va_D A ws) (q0 : Nat) (hc : vwCl[ci]? = some q) (he : ws[q0]? = some (b, .inr (ci, fs))) : PreV s H q.1 b (va_Pc (.ref b :: As) (PE dC dI cI cJ cS ws H.size)) As := ⟨fbE, va_recv hE.1 hP hc he, (preE (As := .ref b :: As) hP hE hD).2⟩
theorem preRV (hP : va_P (dC, dI) vwCl ws H) (hE : EV dC dI cI cJ cS s) (q0 : Nat) (hc : vwCl[ci]? = some q) (he : ws[q0]? = some (b, .inr (ci, fs))) : PreV s H q.1 b (va_Pc (.ref b :: As) (PR dC dI cI cJ cS ws)) As := ⟨fbR, va_recv hE.1 hP hc he, (preR (As := .ref b :: As) hP hE).2⟩
end ZB
section ZC
variable {p : Program} {l : Launch} {e : Env} {R : Room} {s : State} {m : MethodId} {args : Array Value} {below : List Frame} {meth : Method} {c : Code} {H : Heap} {locs : List Loc} {cells slots : Nat} {Q : State → Prop}
variable {pc : Nat} {ls : Array Slot} {rest st0 : List Value} {a : Array Value} {A0 : Nat → Prop} {H0 : Heap} {mc ms : Nat} {dC : Nat → ClassId} {dI : Nat → Nat → Nat} {ws wc wr : va_W} {S : Type} {wo : S → va_W}
theorem zi {x y : Int32} (h : x = y) (k : W p l e R s m args below meth c H locs cells slots Q (F0 m pc ls (.int y :: rest))) : W p l e R s m args below meth c H locs cells slots Q (F0 m pc ls (.int x :: rest)) := h ▸ k
theorem zl {x y : Int64} (h : x = y) (k : W p l e R s m args below meth c H locs cells slots Q (F0 m pc ls (.long y :: rest))) : W p l e R s m args below meth c H locs cells slots Q (F0 m pc ls (.long x :: rest)) := h ▸ k
theorem zCi {post : Int32 → S → Prop} (hP : va_P (dC, dI) vwCl ws H) (hD : va_D A0 ws) (hS : va_S A0 H0 H locs) (hF : ∀ q, va_A wc H.size q → A0 q) (isC isR : List Nat) (hC : isC.map (fun i => ws[i]?) = wc.map some) (hR : isR.map (fun i => ws[i]?) = wr.map some) (hn : va_nd isR = true) (hdis : ∀ i ∈ isR, i ∉ isC)
    (hr : va_Run p l e R s m args below meth c H locs cells slots mc ms (F0 m pc ls st0) rest (va_Qi post (BE dC dI (va_A wc H.size) wo) (va_A wc H.size) a) (va_A wc H.size))
    (kk : ∀ (r : Int32) (u : S) (H1 : Heap) (locs1 : List Loc), post r u → va_P (dC, dI) vwCl (wr ++ wo u) H1 → va_D A0 (wr ++ wo u) → va_S A0 H0 H1 locs1 → W p l e R s m args below meth c H1 locs1 (cells + mc) (slots + ms) Q (F0 m (pc + 3) ls (.int r :: rest))) : W p l e R s m args below meth c H locs cells slots Q (F0 m pc ls st0) := by
  refine va_calli hr hS (fun q _ h => hF q h) hF (fun r u t H1 locs1 ht hvm hw hB hz1 hk1 hS1 => ?_)
  obtain ⟨hP1, hD1⟩ := hB
  rw [ht] at hP1
  obtain ⟨hP2, hD2⟩ := va_join hP hD isC isR hC hR hn hdis hk1 hF hP1 hD1
  exact kk r u H1 locs1 hw hP2 hD2 hS1
theorem zCl {post : Int64 → S → Prop} (hP : va_P (dC, dI) vwCl ws H) (hD : va_D A0 ws) (hS : va_S A0 H0 H locs) (hF : ∀ q, va_A wc H.size q → A0 q) (isC isR : List Nat) (hC : isC.map (fun i => ws[i]?) = wc.map some) (hR : isR.map (fun i => ws[i]?) = wr.map some) (hn : va_nd isR = true) (hdis : ∀ i ∈ isR, i ∉ isC)
    (hr : va_Run p l e R s m args below meth c H locs cells slots mc ms (F0 m pc ls st0) rest (va_Ql post (BE dC dI (va_A wc H.size) wo) (va_A wc H.size) a) (va_A wc H.size))
    (kk : ∀ (r : Int64) (u : S) (H1 : Heap) (locs1 : List Loc), post r u → va_P (dC, dI) vwCl (wr ++ wo u) H1 → va_D A0 (wr ++ wo u) → va_S A0 H0 H1 locs1 → W p l e R s m args below meth c H1 locs1 (cells + mc) (slots + ms) Q (F0 m (pc + 3) ls (.long r :: rest))) : W p l e R s m args below meth c H locs cells slots Q (F0 m pc ls st0) := by
  refine va_calll hr hS (fun q _ h => hF q h) hF (fun r u t H1 locs1 ht hvm hw hB hz1 hk1 hS1 => ?_)
  obtain ⟨hP1, hD1⟩ := hB
  rw [ht] at hP1
  obtain ⟨hP2, hD2⟩ := va_join hP hD isC isR hC hR hn hdis hk1 hF hP1 hD1
  exact kk r u H1 locs1 hw hP2 hD2 hS1
theorem zCv {post : S → Prop} (hP : va_P (dC, dI) vwCl ws H) (hD : va_D A0 ws) (hS : va_S A0 H0 H locs) (hF : ∀ q, va_A wc H.size q → A0 q) (isC isR : List Nat) (hC : isC.map (fun i => ws[i]?) = wc.map some) (hR : isR.map (fun i => ws[i]?) = wr.map some) (hn : va_nd isR = true) (hdis : ∀ i ∈ isR, i ∉ isC)
    (hr : va_Run p l e R s m args below meth c H locs cells slots mc ms (F0 m pc ls st0) rest (va_Qv post (BE dC dI (va_A wc H.size) wo) (va_A wc H.size) a) (va_A wc H.size))
    (kk : ∀ (u : S) (H1 : Heap) (locs1 : List Loc), post u → va_P (dC, dI) vwCl (wr ++ wo u) H1 → va_D A0 (wr ++ wo u) → va_S A0 H0 H1 locs1 → W p l e R s m args below meth c H1 locs1 (cells + mc) (slots + ms) Q (F0 m (pc + 3) ls rest)) : W p l e R s m args below meth c H locs cells slots Q (F0 m pc ls st0) := by
  refine va_callv hr hS (fun q _ h => hF q h) hF (fun u t H1 locs1 ht hvm hw hB hz1 hk1 hS1 => ?_)
  obtain ⟨hP1, hD1⟩ := hB
  rw [ht] at hP1
  obtain ⟨hP2, hD2⟩ := va_join hP hD isC isR hC hR hn hdis hk1 hF hP1 hD1
  exact kk u H1 locs1 hw hP2 hD2 hS1
theorem zCr {post : S → Prop} {wo2 : S → Nat → va_W} (hP : va_P (dC, dI) vwCl ws H) (hD : va_D A0 ws) (hS : va_S A0 H0 H locs) (hF : ∀ q, va_A wc H.size q → A0 q) (isC isR : List Nat) (hC : isC.map (fun i => ws[i]?) = wc.map some) (hR : isR.map (fun i => ws[i]?) = wr.map some) (hn : va_nd isR = true) (hdis : ∀ i ∈ isR, i ∉ isC)
    (hr : va_Run p l e R s m args below meth c H locs cells slots mc ms (F0 m pc ls st0) rest (va_Qr post (fun u q t => BE dC dI (va_A wc H.size) (fun u => wo2 u q) u t) (va_A wc H.size) a) (va_A wc H.size))
    (kk : ∀ (u : S) (ra : Nat) (H1 : Heap) (locs1 : List Loc), post u → va_P (dC, dI) vwCl (wr ++ wo2 u ra) H1 → va_D A0 (wr ++ wo2 u ra) → va_S A0 H0 H1 locs1 → W p l e R s m args below meth c H1 locs1 (cells + mc) (slots + ms) Q (F0 m (pc + 3) ls (.ref ra :: rest))) : W p l e R s m args below meth c H locs cells slots Q (F0 m pc ls st0) := by
  refine va_callr hr hS (fun q _ h => hF q h) hF (fun u ra t H1 locs1 ht hvm hw hB hz1 hk1 hS1 => ?_)
  obtain ⟨hP1, hD1⟩ := hB
  rw [ht] at hP1
  obtain ⟨hP2, hD2⟩ := va_join hP hD isC isR hC hR hn hdis hk1 hF hP1 hD1
  exact kk u ra H1 locs1 hw hP2 hD2 hS1
theorem zCq {post : S → Prop} {q0 : Nat} (hP : va_P (dC, dI) vwCl ws H) (hD : va_D A0 ws) (hS : va_S A0 H0 H locs) (hF : ∀ q, va_A wc H.size q → A0 q) (isC isR : List Nat) (hC : isC.map (fun i => ws[i]?) = wc.map some) (hR : isR.map (fun i => ws[i]?) = wr.map some) (hn : va_nd isR = true) (hdis : ∀ i ∈ isR, i ∉ isC)
    (hr : va_Run p l e R s m args below meth c H locs cells slots mc ms (F0 m pc ls st0) rest (va_Qr post (fun u a t => a = q0 ∧ BE dC dI (va_A wc H.size) wo u t) (va_A wc H.size) a) (va_A wc H.size))
    (kk : ∀ (u : S) (H1 : Heap) (locs1 : List Loc), post u → va_P (dC, dI) vwCl (wr ++ wo u) H1 → va_D A0 (wr ++ wo u) → va_S A0 H0 H1 locs1 → W p l e R s m args below meth c H1 locs1 (cells + mc) (slots + ms) Q (F0 m (pc + 3) ls (.ref q0 :: rest))) : W p l e R s m args below meth c H locs cells slots Q (F0 m pc ls st0) := by
  refine va_callr hr hS (fun q _ h => hF q h) hF (fun u ra t H1 locs1 ht hvm hw hB hz1 hk1 hS1 => ?_)
  obtain ⟨rfl, hP1, hD1⟩ := hB
  rw [ht] at hP1
  obtain ⟨hP2, hD2⟩ := va_join hP hD isC isR hC hR hn hdis hk1 hF hP1 hD1
  exact kk u H1 locs1 hw hP2 hD2 hS1
end ZC
theorem K_same {D : va_G} {cl : List vw_C} {tys : List (ClassId × FieldType)} {s : State} {a b : ClassId} {ty : FieldType} (hK : va_K D cl tys s) (i j : Nat) (hi : tys[i]? = some (a, ty)) (hj : tys[j]? = some (b, ty)) : a = b := by
  have h1 := (hK.2 i _ hi).2
  have h2 := (hK.2 j _ hj).2
  cases ty with
  | object C =>
    obtain ⟨_, _, -, -, -, e1⟩ := h1
    obtain ⟨_, _, -, -, -, e2⟩ := h2
    exact Option.some.inj (e1.symm.trans e2)
  | _ => exact Option.some.inj (Eq.trans (Eq.symm h1) h2)
theorem tI_0 : Int32.toInt 0 = 0 := by decide
theorem tI_1 : Int32.toInt 1 = 1 := by decide
theorem tI_2 : Int32.toInt 2 = 2 := by decide
theorem tI_3 : Int32.toInt 3 = 3 := by decide
theorem tI_4 : Int32.toInt 4 = 4 := by decide
theorem tI_5 : Int32.toInt 5 = 5 := by decide
theorem tI_6 : Int32.toInt 6 = 6 := by decide
theorem tI_7 : Int32.toInt 7 = 7 := by decide
theorem tI_8 : Int32.toInt 8 = 8 := by decide
theorem tI_20 : Int32.toInt 20 = 20 := by decide
theorem tI_30 : Int32.toInt 30 = 30 := by decide
theorem tI_300 : Int32.toInt 300 = 300 := by decide
theorem tI_400 : Int32.toInt 400 = 400 := by decide
theorem tI_4095 : Int32.toInt 4095 = 4095 := by decide
theorem tI_4096 : Int32.toInt 4096 = 4096 := by decide
theorem tI_m1 : Int32.toInt (-1) = -1 := by decide
theorem tI_m2 : Int32.toInt (-2) = -2 := by decide
theorem tI_m3 : Int32.toInt (-3) = -3 := by decide
theorem tI_m9 : Int32.toInt (-9) = -9 := by decide
abbrev inR (v a b : Int32) : Prop := a ≤ v ∧ v ≤ b
theorem bI_nar {P : Prop} [Decidable P] {r : Int32} (h : r = bI P) : narrow .boolean (.int r) = .int r := by
  by_cases k : P
  · rw [h, bI_t k]; rfl
  · rw [h, bI_f k]; rfl
def okE (P : Prop) [Decidable P] (a : Int32) : Int32 := if P then a else (-1)
theorem vp_in_r {v b : Int32} (n : Nat) (h : inR v 0 b) (hb : b.toInt < n) : vp_in v n := by
  obtain ⟨h1, h2⟩ := h
  rw [Int32.le_iff_toInt_le] at h1 h2
  rw [vp_in_iff]
  have h0 : (0 : Int32).toInt = 0 := by decide
  omega
theorem in01 {t : Int32} (h : inR t 0 1) : t = 0 ∨ t = 1 := by
  simp only [inR, Int32.le_iff_toInt_le, ← Int32.toInt_inj, tI_0, tI_1, tI_2, tI_3, tI_4, tI_5, tI_6, tI_7, tI_8, tI_20, tI_30, tI_300, tI_400, tI_4095, tI_4096, tI_m1, tI_m2, tI_m3, tI_m9] at h ⊢
  omega
theorem in00 {t : Int32} (h : inR t 0 0) : t = 0 := by
  simp only [inR, Int32.le_iff_toInt_le, ← Int32.toInt_inj, tI_0, tI_1, tI_2, tI_3, tI_4, tI_5, tI_6, tI_7, tI_8, tI_20, tI_30, tI_300, tI_400, tI_4095, tI_4096, tI_m1, tI_m2, tI_m3, tI_m9] at h ⊢
  omega
theorem inR_nat {n : Int32} (h : inR n 1 8) : ∃ N : Nat, 1 ≤ N ∧ N ≤ 8 ∧ n = nI N := by
  obtain ⟨h1, h2⟩ := h
  have h0 : ¬ n < 0 := by
    simp only [Int32.le_iff_toInt_le, Int32.lt_iff_toInt_lt, tI_0, tI_1, tI_2, tI_3, tI_4, tI_5, tI_6, tI_7, tI_8, tI_20, tI_30, tI_300, tI_400, tI_4095, tI_4096, tI_m1, tI_m2, tI_m3, tI_m9] at h1 h2 ⊢
    omega
  obtain ⟨j, hj, rfl⟩ := nI_of2 (n := 8) (M := 8) (by decide) h0 h2
  refine ⟨j, ?_, hj, rfl⟩
  rcases Nat.eq_zero_or_pos j with h | h
  · subst h; exact absurd h1 (by decide)
  · exact h
theorem inR_of_nat {N : Nat} (h1 : 1 ≤ N) (h8 : N ≤ 8) : inR (nI N) 1 8 := ⟨nI_le (a := 1) h1 (by omega), nI_le (b := 8) h8 (by decide)⟩
theorem and3 (z : Int32) : z &&& 3 = 0 ∨ z &&& 3 = 1 ∨ z &&& 3 = 2 ∨ z &&& 3 = 3 := by
  obtain ⟨j, hj, e⟩ := pk_andE z (m := 3) 2 (by decide)
  rw [e]
  have : j = 0 ∨ j = 1 ∨ j = 2 ∨ j = 3 := by omega
  rcases this with rfl | rfl | rfl | rfl
  · exact Or.inl rfl
  · exact Or.inr (Or.inl rfl)
  · exact Or.inr (Or.inr (Or.inl rfl))
  · exact Or.inr (Or.inr (Or.inr rfl))
theorem view_in (z : Int32) : vp_in ((z &&& 3) <<< ((12 : Int32) &&& 31)) 16384 := by
  unfold vp_in
  rcases and3 z with e | e | e | e <;> rw [e] <;> decide
theorem view_rd (z : Int32) : (vp_updL (vp_updL (vp_updL (vp_updL (fun _ => 0) 0 1) 4096 1) 8192 1) 12288 1) ((z &&& 3) <<< ((12 : Int32) &&& 31)).toNatClampNeg = 1 := by
  rcases and3 z with e | e | e | e <;> rw [e] <;> decide
theorem raise_rd {c : Int32} (h : inR c 0 5) : (upd (upd (upd (upd (upd (upd (fun _ => 0) 0 0) 1 0) 2 0) 3 0) 4 0) 5 0) (c).toNatClampNeg = 0 := by
  simp [upd]
theorem and1L {z : Int32} {x : Int64} (h : z = (x &&& 1).toInt32) : z = 0 ∨ z = 1 := by
  have hx : (x &&& 1) = 0 ∨ (x &&& 1) = 1 := by
    have e : (x &&& 1).toBitVec = x.toBitVec &&& 1#64 := rfl
    have e2 := BitVec.and_one_eq_setWidth_ofBool_getLsbD (x := x.toBitVec)
    rcases hb : x.toBitVec.getLsbD 0 with _ | _
    · left; apply Int64.toBitVec_inj.mp; rw [e, e2, hb]; rfl
    · right; apply Int64.toBitVec_inj.mp; rw [e, e2, hb]; rfl
  rcases hx with e | e
  · left; rw [h, e]; rfl
  · right; rw [h, e]; rfl
theorem cnt3 {k : Int32} (h : (0 : Int32) = (k - 3)) : k = 3 := by
  have h2 : k - 3 + 3 = 0 + 3 := by rw [← h]
  rw [Int32.sub_add_cancel] at h2
  exact h2
theorem cnt3n {k : Int32} (h : ¬ (0 : Int32) = (k - 3)) : ¬ k = 3 := fun e => h (by rw [e]; decide)
theorem count_r (k : Int32) : (if (0 : Int32) = (k - 3) then (6 : Int32) else 0) = (if k = 3 then 6 else 0) := by
  by_cases h : (0 : Int32) = (k - 3)
  · rw [if_pos h, if_pos (cnt3 h)]
  · rw [if_neg h, if_neg (cnt3n h)]
theorem run_bits {n : Int32} (h : inR n 0 4095) : ((((((((n >>> (0 &&& 31)) &&& 3) <<< (0 &&& 31)) ||| (((n >>> (2 &&& 31)) &&& 3) <<< (2 &&& 31))) ||| (((n >>> (4 &&& 31)) &&& 3) <<< (4 &&& 31))) ||| (((n >>> (6 &&& 31)) &&& 3) <<< (6 &&& 31))) ||| (((n >>> (8 &&& 31)) &&& 3) <<< (8 &&& 31))) ||| (((n >>> (10 &&& 31)) &&& 3) <<< (10 &&& 31))) = n := by
  obtain ⟨h1, h2⟩ := h
  have h0 : ¬ n < 0 := by
    simp only [Int32.le_iff_toInt_le, Int32.lt_iff_toInt_lt, tI_0, tI_1, tI_2, tI_3, tI_4, tI_5, tI_6, tI_7, tI_8, tI_20, tI_30, tI_300, tI_400, tI_4095, tI_4096, tI_m1, tI_m2, tI_m3, tI_m9] at h1 ⊢
    omega
  obtain ⟨j, hj, rfl⟩ := nI_of2 (n := 4095) (M := 4095) (by decide) h0 h2
  exact co_dec (N := 4096) (P := fun j => ((((((((nI j >>> (0 &&& 31)) &&& 3) <<< (0 &&& 31)) ||| (((nI j >>> (2 &&& 31)) &&& 3) <<< (2 &&& 31))) ||| (((nI j >>> (4 &&& 31)) &&& 3) <<< (4 &&& 31))) ||| (((nI j >>> (6 &&& 31)) &&& 3) <<< (6 &&& 31))) ||| (((nI j >>> (8 &&& 31)) &&& 3) <<< (8 &&& 31))) ||| (((nI j >>> (10 &&& 31)) &&& 3) <<< (10 &&& 31))) = nI j) (by decide +kernel) (by omega)
theorem newI (N : Nat) (cA : ClassId) : vp_cell cA (N, .inl (fun _ => 0)) = arrV cA N (fun _ => defaultValue .int) := rfl
theorem newJ (N : Nat) (cA : ClassId) : vp_cell cA (N, .inr (.inl (fun _ => 0))) = arrV cA N (fun _ => defaultValue .long) := rfl
