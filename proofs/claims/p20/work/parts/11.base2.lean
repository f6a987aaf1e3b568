/-! rows for the decompiled methods: tests of places, booleans, the pool of statements -/
def okIx (i : Int32) (n : Nat) : Bool := decide (0 ≤ i.toInt) && decide (i.toInt < n)
theorem okIx_in {i : Int32} {n : Nat} (h : okIx i n = true) : vp_in i n := by
  rw [vp_in_iff]
  simp only [okIx, Bool.and_eq_true, decide_eq_true_eq] at h
  exact h
theorem zN {v : Int32} (h : v = 0 ∨ v = 1) : narrow .boolean (.int v) = .int v := by
  rcases h with rfl | rfl <;> rfl
abbrev sE (sv : Nat → Nat → Int32) (a : Nat) : va_E := .inr (5, [.int (sv a 0), .int (sv a 1), .int (sv a 2), .int (sv a 3), .int (sv a 4), .int (sv a 5), .int (sv a 6), .int (sv a 7), .int (sv a 8)])
def sU (sv : Nat → Nat → Int32) (a k : Nat) (v : Int32) : Nat → Nat → Int32 := fun b j => if b = a then (if j = k then v else sv b j) else sv b j
theorem sE_up0 (sv : Nat → Nat → Int32) (a : Nat) (v : Int32) (b : Nat) : va_up (sE sv) a (.inr (5, [.int v, .int (sv a 1), .int (sv a 2), .int (sv a 3), .int (sv a 4), .int (sv a 5), .int (sv a 6), .int (sv a 7), .int (sv a 8)])) b = sE (sU sv a 0 v) b := by
  by_cases h : b = a
  · subst h; simp [va_up, sE, sU]
  · simp [va_up, sE, sU, h]
theorem sE_up1 (sv : Nat → Nat → Int32) (a : Nat) (v : Int32) (b : Nat) : va_up (sE sv) a (.inr (5, [.int (sv a 0), .int v, .int (sv a 2), .int (sv a 3), .int (sv a 4), .int (sv a 5), .int (sv a 6), .int (sv a 7), .int (sv a 8)])) b = sE (sU sv a 1 v) b := by
  by_cases h : b = a
  · subst h; simp [va_up, sE, sU]
  · simp [va_up, sE, sU, h]
theorem sE_up2 (sv : Nat → Nat → Int32) (a : Nat) (v : Int32) (b : Nat) : va_up (sE sv) a (.inr (5, [.int (sv a 0), .int (sv a 1), .int v, .int (sv a 3), .int (sv a 4), .int (sv a 5), .int (sv a 6), .int (sv a 7), .int (sv a 8)])) b = sE (sU sv a 2 v) b := by
  by_cases h : b = a
  · subst h; simp [va_up, sE, sU]
  · simp [va_up, sE, sU, h]
theorem sE_up3 (sv : Nat → Nat → Int32) (a : Nat) (v : Int32) (b : Nat) : va_up (sE sv) a (.inr (5, [.int (sv a 0), .int (sv a 1), .int (sv a 2), .int v, .int (sv a 4), .int (sv a 5), .int (sv a 6), .int (sv a 7), .int (sv a 8)])) b = sE (sU sv a 3 v) b := by
  by_cases h : b = a
  · subst h; simp [va_up, sE, sU]
  · simp [va_up, sE, sU, h]
theorem sE_up4 (sv : Nat → Nat → Int32) (a : Nat) (v : Int32) (b : Nat) : va_up (sE sv) a (.inr (5, [.int (sv a 0), .int (sv a 1), .int (sv a 2), .int (sv a 3), .int v, .int (sv a 5), .int (sv a 6), .int (sv a 7), .int (sv a 8)])) b = sE (sU sv a 4 v) b := by
  by_cases h : b = a
  · subst h; simp [va_up, sE, sU]
  · simp [va_up, sE, sU, h]
theorem sE_up5 (sv : Nat → Nat → Int32) (a : Nat) (v : Int32) (b : Nat) : va_up (sE sv) a (.inr (5, [.int (sv a 0), .int (sv a 1), .int (sv a 2), .int (sv a 3), .int (sv a 4), .int v, .int (sv a 6), .int (sv a 7), .int (sv a 8)])) b = sE (sU sv a 5 v) b := by
  by_cases h : b = a
  · subst h; simp [va_up, sE, sU]
  · simp [va_up, sE, sU, h]
theorem sE_up6 (sv : Nat → Nat → Int32) (a : Nat) (v : Int32) (b : Nat) : va_up (sE sv) a (.inr (5, [.int (sv a 0), .int (sv a 1), .int (sv a 2), .int (sv a 3), .int (sv a 4), .int (sv a 5), .int v, .int (sv a 7), .int (sv a 8)])) b = sE (sU sv a 6 v) b := by
  by_cases h : b = a
  · subst h; simp [va_up, sE, sU]
  · simp [va_up, sE, sU, h]
theorem sE_up7 (sv : Nat → Nat → Int32) (a : Nat) (v : Int32) (b : Nat) : va_up (sE sv) a (.inr (5, [.int (sv a 0), .int (sv a 1), .int (sv a 2), .int (sv a 3), .int (sv a 4), .int (sv a 5), .int (sv a 6), .int v, .int (sv a 8)])) b = sE (sU sv a 7 v) b := by
  by_cases h : b = a
  · subst h; simp [va_up, sE, sU]
  · simp [va_up, sE, sU, h]
theorem sE_up8 (sv : Nat → Nat → Int32) (a : Nat) (v : Int32) (b : Nat) : va_up (sE sv) a (.inr (5, [.int (sv a 0), .int (sv a 1), .int (sv a 2), .int (sv a 3), .int (sv a 4), .int (sv a 5), .int (sv a 6), .int (sv a 7), .int v])) b = sE (sU sv a 8 v) b := by
  by_cases h : b = a
  · subst h; simp [va_up, sE, sU]
  · simp [va_up, sE, sU, h]
theorem zq_freeP {A0 : Nat → Prop} {X cx pl : va_W} {H0 H : Heap} {locs : List Loc} (hD : va_D A0 (X ++ pl)) (hS : va_S A0 H0 H locs) (hA : ∀ q, H0.size ≤ q → A0 q) (isC : List Nat) (hn : va_nd isC = true) (hC : isC.map (fun i => X[i]?) = cx.map some) : ∀ q, va_A (cx ++ pl) H.size q → A0 q := by
  intro q h
  rcases h with ⟨k, e, h⟩ | h
  · exact (hD.part isC hn hC).2 k (q, e) h
  · exact hA q (Nat.le_trans hS.1 h)
section ZP
variable {p : Program} {l : Launch} {e : Env} {R : Room} {s : State} {m : MethodId} {args : Array Value} {below : List Frame} {meth : Method} {c : Code} {H : Heap} {locs : List Loc} {cells slots : Nat} {Q : State → Prop}
variable {pc : Nat} {ls : Array Slot} {rest st0 : List Value} {a : Array Value} {A0 : Nat → Prop} {H0 : Heap} {mc ms : Nat} {dC : Nat → ClassId} {dI : Nat → Nat → Nat} {X cx wr rx pl pl1 w1 : va_W}
/-- behind a call whose world holds the pool -/
theorem zPi {r0 : Int32} (hP : va_P (dC, dI) vwCl (X ++ pl) H) (hD : va_D A0 (X ++ pl)) (hS : va_S A0 H0 H locs) (hF : ∀ q, va_A (cx ++ pl) H.size q → A0 q) (isC isR : List Nat) (hC : isC.map (fun i => X[i]?) = cx.map some) (hR : isR.map (fun i => X[i]?) = wr.map some) (hn : va_nd isR = true) (hdis : ∀ i ∈ isR, i ∉ isC)
    (hr : va_Run p l e R s m args below meth c H locs cells slots mc ms (F0 m pc ls st0) rest (va_Qi (fun (r_ : Int32) (_ : Unit) => r_ = r0) (BE dC dI (va_A (cx ++ pl) H.size) (fun _ => rx ++ pl1)) (va_A (cx ++ pl) H.size) a) (va_A (cx ++ pl) H.size))
    (kk : ∀ (H1 : Heap) (locs1 : List Loc), va_P (dC, dI) vwCl ((wr ++ rx) ++ pl1) H1 → va_D A0 ((wr ++ rx) ++ pl1) → va_S A0 H0 H1 locs1 → W p l e R s m args below meth c H1 locs1 (cells + mc) (slots + ms) Q (F0 m (pc + 3) ls (.int r0 :: rest))) : W p l e R s m args below meth c H locs cells slots Q (F0 m pc ls st0) := by
  refine va_calli hr hS (fun q _ h => hF q h) hF (fun r u t H1 locs1 ht hvm hw hB hz1 hk1 hS1 => ?_)
  obtain ⟨hP1, hD1⟩ := hB
  rw [ht] at hP1
  obtain ⟨hP2, hD2⟩ := va_joinP hP hD isC isR hC hR hn hdis hk1 hF hP1 hD1
  subst hw
  exact kk H1 locs1 hP2 hD2 hS1
theorem zPv (hP : va_P (dC, dI) vwCl (X ++ pl) H) (hD : va_D A0 (X ++ pl)) (hS : va_S A0 H0 H locs) (hF : ∀ q, va_A (cx ++ pl) H.size q → A0 q) (isC isR : List Nat) (hC : isC.map (fun i => X[i]?) = cx.map some) (hR : isR.map (fun i => X[i]?) = wr.map some) (hn : va_nd isR = true) (hdis : ∀ i ∈ isR, i ∉ isC)
    (hr : va_Run p l e R s m args below meth c H locs cells slots mc ms (F0 m pc ls st0) rest (va_Qv (fun (_ : Unit) => True) (BE dC dI (va_A (cx ++ pl) H.size) (fun _ => rx ++ pl1)) (va_A (cx ++ pl) H.size) a) (va_A (cx ++ pl) H.size))
    (kk : ∀ (H1 : Heap) (locs1 : List Loc), va_P (dC, dI) vwCl ((wr ++ rx) ++ pl1) H1 → va_D A0 ((wr ++ rx) ++ pl1) → va_S A0 H0 H1 locs1 → W p l e R s m args below meth c H1 locs1 (cells + mc) (slots + ms) Q (F0 m (pc + 3) ls rest)) : W p l e R s m args below meth c H locs cells slots Q (F0 m pc ls st0) := by
  refine va_callv hr hS (fun q _ h => hF q h) hF (fun u t H1 locs1 ht hvm hw hB hz1 hk1 hS1 => ?_)
  obtain ⟨hP1, hD1⟩ := hB
  rw [ht] at hP1
  obtain ⟨hP2, hD2⟩ := va_joinP hP hD isC isR hC hR hn hdis hk1 hF hP1 hD1
  exact kk H1 locs1 hP2 hD2 hS1
theorem zPq {r0 : Nat} (hP : va_P (dC, dI) vwCl (X ++ pl) H) (hD : va_D A0 (X ++ pl)) (hS : va_S A0 H0 H locs) (hF : ∀ q, va_A (cx ++ pl) H.size q → A0 q) (isC isR : List Nat) (hC : isC.map (fun i => X[i]?) = cx.map some) (hR : isR.map (fun i => X[i]?) = wr.map some) (hn : va_nd isR = true) (hdis : ∀ i ∈ isR, i ∉ isC)
    (hr : va_Run p l e R s m args below meth c H locs cells slots mc ms (F0 m pc ls st0) rest (va_Qr (fun (_ : Unit) => True) (fun u b t => b = r0 ∧ BE dC dI (va_A (cx ++ pl) H.size) (fun _ => rx ++ pl1) u t) (va_A (cx ++ pl) H.size) a) (va_A (cx ++ pl) H.size))
    (kk : ∀ (H1 : Heap) (locs1 : List Loc), va_P (dC, dI) vwCl ((wr ++ rx) ++ pl1) H1 → va_D A0 ((wr ++ rx) ++ pl1) → va_S A0 H0 H1 locs1 → W p l e R s m args below meth c H1 locs1 (cells + mc) (slots + ms) Q (F0 m (pc + 3) ls (.ref r0 :: rest))) : W p l e R s m args below meth c H locs cells slots Q (F0 m pc ls st0) := by
  refine va_callr hr hS (fun q _ h => hF q h) hF (fun u ra t H1 locs1 ht hvm hw hB hz1 hk1 hS1 => ?_)
  obtain ⟨rfl, hP1, hD1⟩ := hB
  rw [ht] at hP1
  obtain ⟨hP2, hD2⟩ := va_joinP hP hD isC isR hC hR hn hdis hk1 hF hP1 hD1
  exact kk H1 locs1 hP2 hD2 hS1
/-- behind a call whose world doesn't hold it -/
theorem zNi {r0 : Int32} (hP : va_P (dC, dI) vwCl (X ++ pl) H) (hD : va_D A0 (X ++ pl)) (hS : va_S A0 H0 H locs) (hF : ∀ q, va_A cx H.size q → A0 q) (isC isR : List Nat) (hC : isC.map (fun i => X[i]?) = cx.map some) (hR : isR.map (fun i => X[i]?) = wr.map some) (hn : va_nd isR = true) (hdis : ∀ i ∈ isR, i ∉ isC)
    (hr : va_Run p l e R s m args below meth c H locs cells slots mc ms (F0 m pc ls st0) rest (va_Qi (fun (r_ : Int32) (_ : Unit) => r_ = r0) (BE dC dI (va_A cx H.size) (fun _ => w1)) (va_A cx H.size) a) (va_A cx H.size))
    (kk : ∀ (H1 : Heap) (locs1 : List Loc), va_P (dC, dI) vwCl ((wr ++ w1) ++ pl) H1 → va_D A0 ((wr ++ w1) ++ pl) → va_S A0 H0 H1 locs1 → W p l e R s m args below meth c H1 locs1 (cells + mc) (slots + ms) Q (F0 m (pc + 3) ls (.int r0 :: rest))) : W p l e R s m args below meth c H locs cells slots Q (F0 m pc ls st0) := by
  refine va_calli hr hS (fun q _ h => hF q h) hF (fun r u t H1 locs1 ht hvm hw hB hz1 hk1 hS1 => ?_)
  obtain ⟨hP1, hD1⟩ := hB
  rw [ht] at hP1
  obtain ⟨hP2, hD2⟩ := va_joinQ hP hD isC isR hC hR hn hdis hk1 hF hP1 hD1
  subst hw
  exact kk H1 locs1 hP2 hD2 hS1
theorem zNl {r0 : Int64} (hP : va_P (dC, dI) vwCl (X ++ pl) H) (hD : va_D A0 (X ++ pl)) (hS : va_S A0 H0 H locs) (hF : ∀ q, va_A cx H.size q → A0 q) (isC isR : List Nat) (hC : isC.map (fun i => X[i]?) = cx.map some) (hR : isR.map (fun i => X[i]?) = wr.map some) (hn : va_nd isR = true) (hdis : ∀ i ∈ isR, i ∉ isC)
    (hr : va_Run p l e R s m args below meth c H locs cells slots mc ms (F0 m pc ls st0) rest (va_Ql (fun (r_ : Int64) (_ : Unit) => r_ = r0) (BE dC dI (va_A cx H.size) (fun _ => w1)) (va_A cx H.size) a) (va_A cx H.size))
    (kk : ∀ (H1 : Heap) (locs1 : List Loc), va_P (dC, dI) vwCl ((wr ++ w1) ++ pl) H1 → va_D A0 ((wr ++ w1) ++ pl) → va_S A0 H0 H1 locs1 → W p l e R s m args below meth c H1 locs1 (cells + mc) (slots + ms) Q (F0 m (pc + 3) ls (.long r0 :: rest))) : W p l e R s m args below meth c H locs cells slots Q (F0 m pc ls st0) := by
  refine va_calll hr hS (fun q _ h => hF q h) hF (fun r u t H1 locs1 ht hvm hw hB hz1 hk1 hS1 => ?_)
  obtain ⟨hP1, hD1⟩ := hB
  rw [ht] at hP1
  obtain ⟨hP2, hD2⟩ := va_joinQ hP hD isC isR hC hR hn hdis hk1 hF hP1 hD1
  subst hw
  exact kk H1 locs1 hP2 hD2 hS1
theorem zNv (hP : va_P (dC, dI) vwCl (X ++ pl) H) (hD : va_D A0 (X ++ pl)) (hS : va_S A0 H0 H locs) (hF : ∀ q, va_A cx H.size q → A0 q) (isC isR : List Nat) (hC : isC.map (fun i => X[i]?) = cx.map some) (hR : isR.map (fun i => X[i]?) = wr.map some) (hn : va_nd isR = true) (hdis : ∀ i ∈ isR, i ∉ isC)
    (hr : va_Run p l e R s m args below meth c H locs cells slots mc ms (F0 m pc ls st0) rest (va_Qv (fun (_ : Unit) => True) (BE dC dI (va_A cx H.size) (fun _ => w1)) (va_A cx H.size) a) (va_A cx H.size))
    (kk : ∀ (H1 : Heap) (locs1 : List Loc), va_P (dC, dI) vwCl ((wr ++ w1) ++ pl) H1 → va_D A0 ((wr ++ w1) ++ pl) → va_S A0 H0 H1 locs1 → W p l e R s m args below meth c H1 locs1 (cells + mc) (slots + ms) Q (F0 m (pc + 3) ls rest)) : W p l e R s m args below meth c H locs cells slots Q (F0 m pc ls st0) := by
  refine va_callv hr hS (fun q _ h => hF q h) hF (fun u t H1 locs1 ht hvm hw hB hz1 hk1 hS1 => ?_)
  obtain ⟨hP1, hD1⟩ := hB
  rw [ht] at hP1
  obtain ⟨hP2, hD2⟩ := va_joinQ hP hD isC isR hC hR hn hdis hk1 hF hP1 hD1
  exact kk H1 locs1 hP2 hD2 hS1
end ZP
