/-! the reference learns: one run by numbers o and secret s, a row of it, all rows put to heaps -/
theorem u6 {ub : List Bool} (hub : ub.length = 6) {c : Nat} (h : ub[c]? = some true) : c < 6 := by
  obtain ⟨h1, _⟩ := List.getElem?_eq_some_iff.mp h
  omega
theorem FnX {D : List SRc} {M N : Nat → Nat} {wo : Int32} {ub : List Bool} (hU : UsD D (fun c => ub[c]? = some true)) (hub : ub.length = 6) {g : Nat → Int32} {x : Nat} (h : ∀ c : Nat, c < 6 → g c = gN x c) : (∀ c : Nat, c < 6 → (exC D M N wo 0 D.length (g, 0, [])).1 c = (FnR D M N wo x).1 c) ∧ (exC D M N wo 0 D.length (g, 0, [])).2 = (FnR D M N wo x).2 := by
  have hU6 : UsD D (fun c => c < 6) := fun i => ⟨fun y hy h4 h16 => u6 hub ((hU i).1 y hy h4 h16), fun hk hi => u6 hub ((hU i).2 hk hi)⟩
  exact exR_U hU6 _ _ _ _ _ ⟨h, rfl⟩
theorem wi_y (lv : Nat → Int32) (w : Int32) : ∀ c : Nat, c < 6 → ((wiL lv w)[c]? = some true ↔ ((wiP (lv c) w ∧ (1 : Int32) = 1) ∨ (¬ wiP (lv c) w ∧ (1 : Int32) = 0))) := by
  intro c hc
  rw [wiL_at lv w c hc]
  have e : ¬ (1 : Int32) = 0 := by decide
  constructor
  · intro h
    exact Or.inl ⟨of_decide_eq_true (Option.some.inj h), rfl⟩
  · rintro (⟨h, _⟩ | ⟨_, h⟩)
    · exact congrArg some (decide_eq_true h)
    · exact absurd h e
theorem wi_n (lv : Nat → Int32) (w : Int32) : ∀ c : Nat, c < 6 → ((ntB (wiL lv w))[c]? = some true ↔ ((wiP (lv c) w ∧ (0 : Int32) = 1) ∨ (¬ wiP (lv c) w ∧ (0 : Int32) = 0))) := by
  intro c hc
  rw [ntB_at (wiL_len lv w) c hc, wiL_at lv w c hc]
  have e : ¬ (0 : Int32) = 1 := by decide
  constructor
  · intro h
    exact Or.inr ⟨fun hw => h (congrArg some (decide_eq_true hw)), rfl⟩
  · rintro (⟨_, h⟩ | ⟨h, _⟩)
    · exact absurd h e
    · intro h9
      exact h (of_decide_eq_true (Option.some.inj h9))
theorem Z_m18 {z : Int64} {n : Nat} {x : Int32} (hz : z.toBitVec.toNat = n) (hn : n < 2 ^ 41) (hx : 0 ≤ x.toInt) : (262144 * z + x.toInt64).toBitVec.toNat = 262144 * n + x.toInt.toNat := by
  have h1 := i64s x hx
  have h2 : x.toInt.toNat < 2147483648 := by have := i32r x; omega
  have e : (262144 * z + x.toInt64).toBitVec = 262144#64 * z.toBitVec + x.toInt64.toBitVec := rfl
  have e4 : (262144#64).toNat = 262144 := rfl
  rw [e, BitVec.toNat_add, BitVec.toNat_mul, hz, h1, e4]
  omega
/-- what three places of a row tell of a run -/
def RwV (f : Nat → Int64) (b : Nat) (bs : List Bool) (w : Int32) (al : Nat) (F : RSt) : Prop := (f b).toBitVec.toNat = 262144 * snN (owT bs F.1 6) + al ∧ (f (b + 1)).toBitVec.toNat = snN (vsL w F.2.2) ∧ f (b + 2) = 1
theorem i64_n {a b : Int64} (h : a.toBitVec.toNat = b.toBitVec.toNat) : a = b := Int64.toBitVec_inj.mp (BitVec.eq_of_toNat_eq h)
theorem ow_41 {bs : List Bool} {g : Nat → Int32} (hg : vl3 g) : snN (owT bs g 6) < 2 ^ 41 := by
  obtain ⟨h1, h2⟩ := owT_4 (bs := bs) hg 6 (Nat.le_refl _)
  exact snN_lt h1 (by omega)
theorem RwV_eq {f g : Nat → Int64} {b : Nat} {bs : List Bool} {w : Int32} {al bl : Nat} {F G : RSt} (h1 : RwV f b bs w al F) (h2 : RwV g b bs w bl G) (ha : al < 262144) (hb : bl < 262144) (hF : OkS F) (hFo : OkO F) (hG : OkS G) (hGo : OkO G) : (f b = g b ∧ f (b + 1) = g (b + 1) ∧ f (b + 2) = g (b + 2)) ↔ ((∀ c : Nat, c < 6 → bs[c]? = some true → F.1 c = G.1 c) ∧ vsL w F.2.2 = vsL w G.2.2 ∧ al = bl) := by
  obtain ⟨a1, a2, a3⟩ := h1
  obtain ⟨b1, b2, b3⟩ := h2
  obtain ⟨p1, _⟩ := owT_4 (bs := bs) hF.1 6 (Nat.le_refl _)
  obtain ⟨p2, _⟩ := owT_4 (bs := bs) hG.1 6 (Nat.le_refl _)
  have he := owT_eq (bs := bs) hF.1 hG.1 6 (Nat.le_refl _)
  constructor
  · rintro ⟨q1, q2, _⟩
    rw [q1, b1] at a1
    rw [q2, b2] at a2
    have e1 : snN (owT bs G.1 6) = snN (owT bs F.1 6) ∧ bl = al := by omega
    exact ⟨he.mp (snN_inj p1 p2 e1.1.symm), snN_inj (vsL_4 hFo) (vsL_4 hGo) a2.symm, e1.2.symm⟩
  · rintro ⟨q1, q2, q3⟩
    refine ⟨i64_n ?_, i64_n ?_, by rw [a3, b3]⟩
    · rw [a1, b1, he.mpr q1, q3]
    · rw [a2, b2, q2]
theorem stB2_lt {t : Int32} {F : RSt} (h : OkS F) : stB2 t F.2.1 ≤ 400 := by
  unfold stB2
  have := h.2.1
  split <;> omega
theorem stB2_eq {t : Int32} {x y : Nat} : stB2 t x = stB2 t y ↔ (t = 1 → x = y) := by
  unfold stB2
  by_cases h : t = 1
  · rw [if_pos h, if_pos h]; exact ⟨fun e _ => e, fun e => e h⟩
  · rw [if_neg h, if_neg h]; exact ⟨fun _ e => absurd e h, fun _ => rfl⟩
/-- the row of secret s: m views -/
def RwR (D : List SRc) (M N : Nat → Nat) (wo w t : Int32) (bs : List Bool) (o : Nat → Nat) (m : Nat) (f : Nat → Int64) (s : Nat) : Prop :=
  RwV f 0 bs w (stB2 t (FnR D M N wo (xOS bs (o 0) s)).2.1) (FnR D M N wo (xOS bs (o 0) s)) ∧
  (m = 2 → RwV f 3 bs w (512 * stB2 t (FnR D M N wo (xOS bs (o 0) s)).2.1 + stB2 t (FnR D M N wo (xOS bs (o 1) s)).2.1) (FnR D M N wo (xOS bs (o 1) s))) ∧
  (m = 1 → ∀ j : Nat, 3 ≤ j → j < 6 → f j = 0)
theorem RwR.cg {D : List SRc} {M N : Nat → Nat} {wo w t : Int32} {bs : List Bool} {o : Nat → Nat} {m : Nat} {f g : Nat → Int64} {s : Nat} (h : RwR D M N wo w t bs o m f s) (e : ∀ k : Nat, k < 6 → g k = f k) : RwR D M N wo w t bs o m g s := by
  obtain ⟨⟨a1, a2, a3⟩, h2, h3⟩ := h
  refine ⟨⟨by rw [e 0 (by omega)]; exact a1, by rw [e 1 (by omega)]; exact a2, by rw [e 2 (by omega)]; exact a3⟩, fun hm => ?_, fun hm j h1 h6 => by rw [e j h6]; exact h3 hm j h1 h6⟩
  obtain ⟨b1, b2, b3⟩ := h2 hm
  exact ⟨by rw [e 3 (by omega)]; exact b1, by rw [e 4 (by omega)]; exact b2, by rw [e 5 (by omega)]; exact b3⟩
/-- two secrets are told alike by m views -/
def LkR (D : List SRc) (M N : Nat → Nat) (wo w t : Int32) (bs : List Bool) (o : Nat → Nat) (m : Nat) (s s2 : Nat) : Prop := HpR D M N wo w t bs (o 0) s s2 ∧ (m = 2 → HpR D M N wo w t bs (o 1) s s2)
theorem RwR_eq {D : List SRc} {M N : Nat → Nat} {wo w t : Int32} {bs : List Bool} {o : Nat → Nat} {m : Nat} {sen : Nat → Int64} {s s2 : Nat} (hV : VlD D) (hm : m = 1 ∨ m = 2) (h1 : RwR D M N wo w t bs o m (fun k => sen (6 * s + k)) s) (h2 : RwR D M N wo w t bs o m (fun k => sen (6 * s2 + k)) s2) : RwE sen s s2 ↔ LkR D M N wo w t bs o m s s2 := by
  obtain ⟨a1, a2, a3⟩ := h1
  obtain ⟨b1, b2, b3⟩ := h2
  obtain ⟨f1, f2⟩ := FnR_ok (D := D) (M := M) (N := N) (wo := wo) (x := xOS bs (o 0) s) hV
  obtain ⟨f3, f4⟩ := FnR_ok (D := D) (M := M) (N := N) (wo := wo) (x := xOS bs (o 0) s2) hV
  obtain ⟨g1, g2⟩ := FnR_ok (D := D) (M := M) (N := N) (wo := wo) (x := xOS bs (o 1) s) hV
  obtain ⟨g3, g4⟩ := FnR_ok (D := D) (M := M) (N := N) (wo := wo) (x := xOS bs (o 1) s2) hV
  have l1 := stB2_lt (t := t) f1
  have l2 := stB2_lt (t := t) f3
  have l3 := stB2_lt (t := t) g1
  have l4 := stB2_lt (t := t) g3
  have e1 := RwV_eq a1 b1 (by omega) (by omega) f1 f2 f3 f4
  have s6 : RwE sen s s2 ↔ ((sen (6 * s + 0) = sen (6 * s2 + 0) ∧ sen (6 * s + (0 + 1)) = sen (6 * s2 + (0 + 1)) ∧ sen (6 * s + (0 + 2)) = sen (6 * s2 + (0 + 2))) ∧ (sen (6 * s + 3) = sen (6 * s2 + 3) ∧ sen (6 * s + (3 + 1)) = sen (6 * s2 + (3 + 1)) ∧ sen (6 * s + (3 + 2)) = sen (6 * s2 + (3 + 2)))) := by
    constructor
    · intro h
      exact ⟨⟨h 0 (by omega), h 1 (by omega), h 2 (by omega)⟩, h 3 (by omega), h 4 (by omega), h 5 (by omega)⟩
    · rintro ⟨⟨q0, q1, q2⟩, q3, q4, q5⟩ k hk
      rcases (show k = 0 ∨ k = 1 ∨ k = 2 ∨ k = 3 ∨ k = 4 ∨ k = 5 by omega) with rfl | rfl | rfl | rfl | rfl | rfl
      · exact q0
      · exact q1
      · exact q2
      · exact q3
      · exact q4
      · exact q5
  have e1' : (sen (6 * s + 0) = sen (6 * s2 + 0) ∧ sen (6 * s + (0 + 1)) = sen (6 * s2 + (0 + 1)) ∧ sen (6 * s + (0 + 2)) = sen (6 * s2 + (0 + 2))) ↔ HpR D M N wo w t bs (o 0) s s2 := by
    refine Iff.trans e1 ?_
    unfold HpR SAl
    rw [stB2_eq]
    exact ⟨fun h => ⟨h.2.1, h.1, h.2.2⟩, fun h => ⟨h.2.1, h.1, h.2.2⟩⟩
  rw [s6, e1']
  unfold LkR
  rcases hm with hm | hm
  · have z3 := a3 hm
    have y3 := b3 hm
    constructor
    · intro h
      exact ⟨h.1, fun h2 => absurd (h2.symm.trans hm) (by decide)⟩
    · intro h
      refine ⟨h.1, ?_, ?_, ?_⟩
      · exact (z3 3 (by omega) (by omega)).trans (y3 3 (by omega) (by omega)).symm
      · exact (z3 4 (by omega) (by omega)).trans (y3 4 (by omega) (by omega)).symm
      · exact (z3 5 (by omega) (by omega)).trans (y3 5 (by omega) (by omega)).symm
  · have e2 := RwV_eq (a2 hm) (b2 hm) (by omega) (by omega) g1 g2 g3 g4
    constructor
    · rintro ⟨h, k⟩
      refine ⟨h, fun _ => ?_⟩
      obtain ⟨k1, k2, k3⟩ := e2.mp k
      refine ⟨k2, k1, ?_⟩
      rw [← stB2_eq (t := t)]
      omega
    · rintro ⟨h, k⟩
      refine ⟨h, e2.mpr ?_⟩
      obtain ⟨k1, k2, k3⟩ := k hm
      refine ⟨k2, k1, ?_⟩
      have j1 := (stB2_eq (t := t)).mpr h.2.2
      have j2 := (stB2_eq (t := t)).mpr k3
      rw [j1, j2]
set_option maxHeartbeats 2000000 in
theorem E_m_half (K : Nat) (hK : 1000000000 ≤ K) (n : Nat) (w tm l3 l4 : Int32) (s o k : Nat) (hk : k < 2) (hs4 : s < 4096) (ho : o < 4096) (l6 : Int32) (al : Nat) (h6 : l6.toInt = (al : Int)) (hal : al < 512) (imany a1 a2 wo isec heaps : Int32) (alev astm asm avls abke abko abkl acel atap atpl : Nat → Int32) (sen : Nat → Int64) (hpo hpm bgn chn : Nat → Int32) (sgt : Nat → Int64) (D : List SRc) (M N dp : Nat → Nat) (hs : imany.toInt = (D.length : Int)) (hD : D.length ≤ 30) (hF : FRw astm asm D M N) (hN : NsT D M N dp) (hV : VlD D) (hwo : 0 ≤ wo.toInt) (ub : List Bool) (hub : ub.length = 6) (hU : UsD D (fun c => ub[c]? = some true)) (P : (Int32 × Int32 × Int32 × Int32 × (Nat → Int32) × (Nat → Int32) × (Nat → Int32) × (Nat → Int32) × (Nat → Int32) × (Nat → Int32) × (Nat → Int32) × (Nat → Int64) × (Nat → Int32) × (Nat → Int32) × (Nat → Int32) × (Nat → Int32) × (Nat → Int64)) → Prop)
    (kk : ∀ (q : Nat) (st cm l6' : Int32) (av ke ko kl ac tp tl : Nat → Int32) (sg : Nat → Int64), q < n → l6'.toInt = ((512 * al + stB2 tm (FnR D M N wo (xOS (wiL alev w) o s)).2.1 : Nat) : Int) → RwV sg (3 * k) (wiL alev w) w (512 * al + stB2 tm (FnR D M N wo (xOS (wiL alev w) o s)).2.1) (FnR D M N wo (xOS (wiL alev w) o s)) → (∀ j : Nat, (j < 3 * k ∨ 3 * k + 2 < j) → sg j = sgt j) → Par (L_m_learns K q 2 w tm l3 l4 (Int32.ofNat s) l6' (Int32.ofNat (k + 1)) 0 0 0 imany st cm wo isec heaps alev astm asm av ke ko kl ac tp tl sen hpo hpm bgn chn sg) P) :
    Par (L_m_learns K n 4 w tm l3 l4 (Int32.ofNat s) l6 (Int32.ofNat k) (Int32.ofNat o) 1 w imany a1 a2 wo isec heaps alev astm asm avls abke abko abkl acel atap atpl sen hpo hpm bgn chn sgt) P := by
  have hb6 := wiL_len alev w
  have e3 : 3 * Int32.ofNat k = Int32.ofNat (3 * k) := by
    rcases (show k = 0 ∨ k = 1 by omega) with rfl | rfl <;> decide
  have e3c : (Int32.ofNat (3 * k)).toNatClampNeg = 3 * k := by
    rcases (show k = 0 ∨ k = 1 by omega) with rfl | rfl <;> decide
  have ek : Int32.ofNat k + 1 = Int32.ofNat (k + 1) := by
    rcases (show k = 0 ∨ k = 1 by omega) with rfl | rfl <;> decide
  cases n with
  | zero => exact Par.no
  | succ n =>
    rw [L_m_learns_e4]; unfold B_m_learns_4
    refine Par.bd (E_m_tells K hK w 1 o (by omega) alev acel (wiL alev w) hb6 (wi_y alev w)) (fun o1 h1 => ?_)
    refine Par.bd (E_m_tells K hK w 0 s (by omega) alev o1 (ntB (wiL alev w)) (ntB_len hb6) (wi_n alev w)) (fun o6 h2 => ?_)
    have hc : ∀ c : Nat, c < 6 → o6 c = gN (xOS (wiL alev w) o s) c := by
      intro c hc
      by_cases hb : (wiL alev w)[c]? = some true
      · rw [(h2 c hc).2 (fun h => ((ntB_at hb6 c hc).mp h) hb), (h1 c hc).1 hb, gN_inj, xOS_dg hb6 _ _ c hc, if_pos hb]
      · rw [(h2 c hc).1 ((ntB_at hb6 c hc).mpr hb), gN_inj, xOS_dg hb6 _ _ c hc, if_neg hb]
    have hg : vl3 o6 := fun c hc9 => by rw [hc c hc9]; exact gN_v3 _ c hc9
    refine Par.bd (E_m_runs K hK imany a1 a2 wo astm asm avls abke abko abkl o6 atap atpl D M N dp hs hD hF hN hV hwo hg) (fun r hr => ?_)
    obtain ⟨x1, x2⟩ := FnX (M := M) (N := N) (wo := wo) hU hub hc
    obtain ⟨r1, r2, r3, r4⟩ := hr
    rw [x2] at r2 r3 r4
    obtain ⟨fo1, fo2⟩ := FnR_ok (D := D) (M := M) (N := N) (wo := wo) (x := xOS (wiL alev w) o s) hV
    rw [e3]
    refine Par.bd (E_m_sees K hK w r.2.1 (3 * k) (by omega) alev _ _ _ sgt (FnR D M N wo (xOS (wiL alev w) o s)) fo1 fo2 (fun c hc9 => by rw [r1]; exact x1 c hc9) r3 r4) (fun sg hsg => ?_)
    obtain ⟨z0, z1, rfl, hz0, hz1⟩ := hsg
    have hst := stB2_lt (t := tm) fo1
    generalize hX : stB2 tm (FnR D M N wo (xOS (wiL alev w) o s)).2.1 = X at kk hst
    have five : ∀ x : Int32, x.toInt = (X : Int) → Par (L_m_learns K n 5 w tm l3 l4 (Int32.ofNat s) l6 (Int32.ofNat k) x (512 * l6) 0 imany r.1 r.2.1 wo isec heaps alev astm asm r.2.2.1 r.2.2.2.1 r.2.2.2.2.1 r.2.2.2.2.2.1 r.2.2.2.2.2.2.1 r.2.2.2.2.2.2.2.1 r.2.2.2.2.2.2.2.2 sen hpo hpm bgn chn (vp_updL (vp_updL (vp_updL sgt (3 * k) z0) (3 * k + 1) z1) (3 * k + 2) 1)) P := by
      intro x hx
      cases n with
      | zero => exact Par.no
      | succ n =>
        rw [L_m_learns_e5]; unfold B_m_learns_5
        refine Par.br (fun _ => Par.br (fun _ => ?_) (fun _ => Par.no)) (fun _ => Par.no)
        rw [e3, e3c, ek]
        have h512 : (512 * l6 : Int32).toInt = ((512 * al : Nat) : Int) := by
          rw [Int32.toInt_mul, h6]
          simp only [Int32.reduceToInt]
          rw [bmI (by omega) (by omega)]
          omega
        have h7 : (512 * l6 + x : Int32).toInt = ((512 * al + X : Nat) : Int) := by
          rw [Int32.toInt_add, h512, hx, bmI (by omega) (by omega)]
          omega
        refine kk n _ _ _ _ _ _ _ _ _ _ _ (by omega) h7 ⟨?_, ?_, ?_⟩ (fun j hj => ?_)
        · rw [updL_eq, updL_ne _ _ (by omega), updL_ne _ _ (by omega), updL_eq, Z_m18 hz0 (ow_41 fo1.1) (by omega), h7]
          omega
        · rw [updL_ne _ _ (by omega), updL_ne _ _ (by omega), updL_eq]
          exact hz1
        · rw [updL_ne _ _ (by omega), updL_eq]
        · rw [updL_ne _ _ (by omega), updL_ne _ _ (by omega), updL_ne _ _ (by omega), updL_ne _ _ (by omega)]
    refine Par.br (fun ht => five _ ?_) (fun ht => five _ ?_)
    · rw [← hX, r2]
      unfold stB2
      rw [if_pos ht]
    · rw [← hX]
      unfold stB2
      rw [if_neg ht]
      rfl
theorem of_s (s : Nat) (h : s < 100000) : Int32.ofNat s + 1 = Int32.ofNat (s + 1) := by
  apply Int32.toInt_inj.mp
  rw [ad1 (Int32.ofNat s) s (ofn_i s (by omega)) (by omega), ofn_i (s + 1) (by omega)]
theorem E_m_clears (K : Nat) (hK : 1000000000 ≤ K) (l1 a1 a2 : Int32) (n : Nat) (h1 : l1.toInt = (n : Int)) (hn : n ≤ 4096) (abgn : Nat → Int32) (asgt : Nat → Int64) : Par (F_m_clears K l1 a1 a2 abgn asgt) (fun r => r.1 = l1 ∧ r.2.1 = 0 ∧ (∀ j : Nat, j < 2 * n → r.2.2.1 j = -9) ∧ ∀ j : Nat, j < 6 → r.2.2.2 j = 0) := by
  have h2 : (2 * l1 : Int32).toInt = ((2 * n : Nat) : Int) := by
    rw [Int32.toInt_mul, h1]
    simp only [Int32.reduceToInt]
    rw [bmI (by omega) (by omega)]
    omega
  have two : ∀ (q j : Nat) (l2 : Int32) (bg : Nat → Int32) (sg : Nat → Int64), l2.toInt = (j : Int) → j ≤ 6 → (∀ i : Nat, i < 2 * n → bg i = -9) → (∀ i : Nat, i < j → sg i = 0) → Par (L_m_clears K q 2 l1 l2 l1 0 bg sg) (fun r => r.1 = l1 ∧ r.2.1 = 0 ∧ (∀ j : Nat, j < 2 * n → r.2.2.1 j = -9) ∧ ∀ j : Nat, j < 6 → r.2.2.2 j = 0) := by
    intro q
    induction q using Nat.strongRecOn with
    | _ q ih =>
    intro j l2 bg sg hj hj6 hb hg
    cases q with
    | zero => exact Par.no
    | succ q =>
      rw [L_m_clears_e2]; unfold B_m_clears_2
      refine Par.br (fun h => Par.ret ⟨rfl, rfl, hb, fun i hi => hg i ?_⟩) (fun h => Par.br (fun _ => ?_) (fun _ => Par.no))
      · rw [Int32.le_iff_toInt_le, hj] at h
        simp only [Int32.reduceToInt] at h
        omega
      · rw [Int32.le_iff_toInt_le, hj] at h
        simp only [Int32.reduceToInt] at h
        rw [cl1 l2 j hj]
        refine ih q (by omega) (j + 1) _ _ _ (ad1 l2 j hj (by omega)) (by omega) hb (fun i hi => ?_)
        by_cases e : i = j
        · rw [e, updL_eq]
        · rw [updL_ne _ _ e]; exact hg i (by omega)
  have one : ∀ (q j : Nat) (l2 : Int32) (bg : Nat → Int32), l2.toInt = (j : Int) → j ≤ 2 * n → (∀ i : Nat, i < j → bg i = -9) → Par (L_m_clears K q 1 l1 l2 l1 0 bg asgt) (fun r => r.1 = l1 ∧ r.2.1 = 0 ∧ (∀ j : Nat, j < 2 * n → r.2.2.1 j = -9) ∧ ∀ j : Nat, j < 6 → r.2.2.2 j = 0) := by
    intro q
    induction q using Nat.strongRecOn with
    | _ q ih =>
    intro j l2 bg hj hj6 hb
    cases q with
    | zero => exact Par.no
    | succ q =>
      rw [L_m_clears_e1]; unfold B_m_clears_1
      refine Par.br (fun h => two q 0 0 _ _ rfl (Nat.zero_le _) (fun i hi => hb i ?_) (fun i hi => absurd hi (Nat.not_lt_zero _))) (fun h => Par.br (fun _ => ?_) (fun _ => Par.no))
      · rw [Int32.le_iff_toInt_le, hj, h2] at h
        omega
      · rw [Int32.le_iff_toInt_le, hj, h2] at h
        rw [cl1 l2 j hj]
        refine ih q (by omega) (j + 1) _ _ (ad1 l2 j hj (by omega)) (by omega) (fun i hi => ?_)
        by_cases e : i = j
        · rw [e, upd_eq]
        · rw [upd_ne _ _ e]; exact hb i (by omega)
  unfold F_m_clears
  obtain ⟨n9, rfl⟩ : ∃ n9, K = n9 + 1 := ⟨K - 1, by omega⟩
  rw [L_m_clears_e0]; unfold B_m_clears_0
  exact one n9 0 0 _ rfl (Nat.zero_le _) (fun i hi => absurd hi (Nat.not_lt_zero _))
theorem TkI0 {isec : Int32} {sen : Nat → Int64} {hpo hpm bgn chn : Nat → Int32} (h : ∀ b : Nat, b < 2 * isec.toInt.toNat → bgn b = -9) : TkI isec 0 0 sen hpo hpm bgn chn := by
  refine ⟨fun j hj => absurd hj (Nat.not_lt_zero _), rfl, fun r hr => absurd hr (Nat.not_lt_zero _), fun _ => [], fun b hb => ⟨h b hb, fun r hr => by simp at hr, fun r hr => absurd hr (Nat.not_lt_zero _)⟩⟩
abbrev R17l : Type := Int32 × Int32 × Int32 × Int32 × (Nat → Int32) × (Nat → Int32) × (Nat → Int32) × (Nat → Int32) × (Nat → Int32) × (Nat → Int32) × (Nat → Int32) × (Nat → Int64) × (Nat → Int32) × (Nat → Int32) × (Nat → Int32) × (Nat → Int32) × (Nat → Int64)
/-- all is learnt: the rows stand, and are put to their heaps -/
def LnS (D : List SRc) (M N : Nat → Nat) (wo w t : Int32) (bs : List Bool) (o : Nat → Nat) (m : Nat) (isec heaps : Int32) (sen : Nat → Int64) (hpo hpm bgn chn : Nat → Int32) : Prop := isec.toInt = ((4 ^ cnB (ntB bs) : Nat) : Int) ∧ TkI isec (4 ^ cnB (ntB bs)) heaps sen hpo hpm bgn chn ∧ ∀ s : Nat, s < 4 ^ cnB (ntB bs) → RwR D M N wo w t bs o m (fun k => sen (6 * s + k)) s
def LnQ (D : List SRc) (M N : Nat → Nat) (wo w t : Int32) (bs : List Bool) (o : Nat → Nat) (m : Nat) (r : R17l) : Prop := LnS D M N wo w t bs o m r.2.2.1 r.2.2.2.1 r.2.2.2.2.2.2.2.2.2.2.2.1 r.2.2.2.2.2.2.2.2.2.2.2.2.1 r.2.2.2.2.2.2.2.2.2.2.2.2.2.1 r.2.2.2.2.2.2.2.2.2.2.2.2.2.2.1 r.2.2.2.2.2.2.2.2.2.2.2.2.2.2.2.1
theorem p4_e {bs : List Bool} (h : bs.length = 6) : (1 : Int32) <<< ((2 * Int32.ofNat (cnB bs)) &&& 31) = Int32.ofNat (4 ^ cnB bs) := (p4_tab ⟨cnB bs, by have := cnB_le h; omega⟩).2.1
theorem p4_le {bs : List Bool} (h : bs.length = 6) : 4 ^ cnB bs ≤ 4096 ∧ 1 ≤ 4 ^ cnB bs := ⟨(p4_tab ⟨cnB bs, by have := cnB_le h; omega⟩).2.2, Nat.pow_pos (by omega)⟩
set_option maxHeartbeats 4000000 in
theorem E_m_learns (K : Nat) (hK : 1000000000 ≤ K) (w tm l3 l4 : Int32) (o : Nat → Nat) (m : Nat) (hm : (m = 1 ∧ l4 = -1) ∨ (m = 2 ∧ l4 = Int32.ofNat (o 1))) (h3 : l3 = Int32.ofNat (o 0)) (ho : o 0 < 4096 ∧ o 1 < 4096) (imany a1 a2 wo isec heaps : Int32) (alev astm asm avls abke abko abkl acel atap atpl : Nat → Int32) (sen : Nat → Int64) (hpo hpm bgn chn : Nat → Int32) (sgt : Nat → Int64) (D : List SRc) (M N dp : Nat → Nat) (hs : imany.toInt = (D.length : Int)) (hD : D.length ≤ 30) (hF : FRw astm asm D M N) (hN : NsT D M N dp) (hV : VlD D) (hwo : 0 ≤ wo.toInt) (ub : List Bool) (hub : ub.length = 6) (hU : UsD D (fun c => ub[c]? = some true)) : Par (F_m_learns K w tm l3 l4 imany a1 a2 wo isec heaps alev astm asm avls abke abko abkl acel atap atpl sen hpo hpm bgn chn sgt) (LnQ D M N wo w tm (wiL alev w) o m) := by
  subst h3
  have hb6 := wiL_len alev w
  obtain ⟨hS4, hS1⟩ := p4_le (ntB_len hb6)
  have hm12 : m = 1 ∨ m = 2 := by rcases hm with h | h <;> omega
  unfold F_m_learns
  obtain ⟨n, rfl⟩ : ∃ n9, K = n9 + 1 := ⟨K - 1, by omega⟩
  rw [L_m_learns_e0]; unfold B_m_learns_0
  refine Par.bd (E_m_cells _ hK w 0 alev (ntB (wiL alev w)) (ntB_len hb6) (wi_n alev w)) (fun o1 h1 => ?_)
  subst h1
  rw [p4_e (ntB_len hb6)]
  generalize hSd : 4 ^ cnB (ntB (wiL alev w)) = S at hS4 hS1
  have hSi : (Int32.ofNat S).toInt = (S : Int) := ofn_i S (by omega)
  refine Par.bd (E_m_clears _ hK (Int32.ofNat S) isec heaps S hSi hS4 bgn sgt) (fun o6 h6 => ?_)
  obtain ⟨c1, c2, c3, c4⟩ := h6
  rw [c1, c2]
  generalize hK9 : n + 1 = K at hK ⊢
  have key : ∀ (q s : Nat) (st cm hps : Int32) (av ke ko kl ac tp tl : Nat → Int32) (sen : Nat → Int64) (hpo hpm bgn chn : Nat → Int32) (sgt : Nat → Int64), s ≤ S → TkI (Int32.ofNat S) s hps sen hpo hpm bgn chn → (∀ j : Nat, j < s → RwR D M N wo w tm (wiL alev w) o m (fun k => sen (6 * j + k)) j) → (m = 1 → ∀ j : Nat, 3 ≤ j → j < 6 → sgt j = 0) → Par (L_m_learns K q 1 w tm (Int32.ofNat (o 0)) l4 (Int32.ofNat s) 0 0 0 0 0 imany st cm wo (Int32.ofNat S) hps alev astm asm av ke ko kl ac tp tl sen hpo hpm bgn chn sgt) (LnQ D M N wo w tm (wiL alev w) o m) := by
    intro q
    induction q using Nat.strongRecOn with
    | _ q ih =>
    intro s st cm hps av ke ko kl ac tp tl sen hpo hpm bgn chn sgt hsS hT hR hz
    have hsi : (Int32.ofNat s).toInt = (s : Int) := ofn_i s (by omega)
    cases q with
    | zero => exact Par.no
    | succ q =>
      rw [L_m_learns_e1]; unfold B_m_learns_1
      refine Par.br (fun h => ?_) (fun h => ?_)
      · rw [Int32.le_iff_toInt_le, hSi, hsi] at h
        have e : s = S := by omega
        subst e
        refine Par.ret ?_
        show LnS D M N wo w tm (wiL alev w) o m _ _ _ _ _ _ _
        unfold LnS
        rw [hSd]
        exact ⟨hSi, hT, hR⟩
      · rw [Int32.le_iff_toInt_le, hSi, hsi] at h
        have hlt : s < S := by omega
        -- the row is full: it is put to its heap
        have tk : ∀ (q2 : Nat) (x6 x7 y0 y1 st cm : Int32) (av ke ko kl ac tp tl : Nat → Int32) (sg : Nat → Int64), q2 < q + 1 → y0 ≤ y1 → RwR D M N wo w tm (wiL alev w) o m sg s → Par (L_m_learns K q2 3 w tm (Int32.ofNat (o 0)) l4 (Int32.ofNat s) x6 x7 y0 y1 0 imany st cm wo (Int32.ofNat S) hps alev astm asm av ke ko kl ac tp tl sen hpo hpm bgn chn sg) (LnQ D M N wo w tm (wiL alev w) o m) := by
          intro q2 x6 x7 y0 y1 st cm av ke ko kl ac tp tl sg hq2 hy hrow
          cases q2 with
          | zero => exact Par.no
          | succ q2 =>
            rw [L_m_learns_e3]; unfold B_m_learns_3
            refine Par.yes hy ?_
            refine Par.bd (E_m_takes K hK (Int32.ofNat s) (Int32.ofNat S) hps s S sen hpo hpm bgn chn sg hsi hSi hS1 hS4 hlt hT) (fun r hr => ?_)
            obtain ⟨t1, t2, t3⟩ := hr
            rw [of_s s (by omega)]
            refine ih q2 (by omega) (s + 1) _ _ _ _ _ _ _ _ _ _ _ _ _ _ _ _ (by omega) t1 (fun j hj => ?_) hrow.2.2
            by_cases e : j = s
            · subst e
              exact hrow.cg (fun k hk => t2 k hk)
            · exact (hR j (by omega)).cg (fun k hk => t3 (6 * j + k) (by omega))
        cases q with
        | zero => exact Par.no
        | succ q =>
          rw [L_m_learns_e2]; unfold B_m_learns_2
          have first : ∀ y0 : Int32, ¬ y0 ≤ 0 → Par (L_m_learns K q 3 w tm (Int32.ofNat (o 0)) l4 (Int32.ofNat s) 0 0 y0 0 0 imany st cm wo (Int32.ofNat S) hps alev astm asm av ke ko kl ac tp tl sen hpo hpm bgn chn sgt) (LnQ D M N wo w tm (wiL alev w) o m) := by
            intro y0 hy0
            cases q with
            | zero => exact Par.no
            | succ q =>
              rw [L_m_learns_e3]; unfold B_m_learns_3
              refine Par.not hy0 (Par.yes rfl ?_)
              refine E_m_half K hK q w tm (Int32.ofNat (o 0)) l4 s (o 0) 0 (by omega) (by omega) ho.1 0 0 rfl (by omega) imany st cm wo (Int32.ofNat S) hps alev astm asm av ke ko kl ac tp tl sen hpo hpm bgn chn sgt D M N dp hs hD hF hN hV hwo ub hub hU _ (fun q2 st cm l6 av ke ko kl ac tp tl sg hq2 hl6 hrow hold => ?_)
              have hr0 : RwV sg 0 (wiL alev w) w (stB2 tm (FnR D M N wo (xOS (wiL alev w) (o 0) s)).2.1) (FnR D M N wo (xOS (wiL alev w) (o 0) s)) := by
                have e : 512 * 0 + stB2 tm (FnR D M N wo (xOS (wiL alev w) (o 0) s)).2.1 = stB2 tm (FnR D M N wo (xOS (wiL alev w) (o 0) s)).2.1 := by omega
                rw [e] at hrow
                exact hrow
              have hl6' : l6.toInt = ((stB2 tm (FnR D M N wo (xOS (wiL alev w) (o 0) s)).2.1 : Nat) : Int) := by rw [hl6]; omega
              obtain ⟨fo1, fo2⟩ := FnR_ok (D := D) (M := M) (N := N) (wo := wo) (x := xOS (wiL alev w) (o 0) s) hV
              have hst := stB2_lt (t := tm) fo1
              cases q2 with
              | zero => exact Par.no
              | succ q2 =>
                rw [L_m_learns_e2]; unfold B_m_learns_2
                rcases hm with ⟨hm1, hl4⟩ | ⟨hm2, hl4⟩
                · refine Par.not (by rw [hl4]; decide) ?_
                  exact tk q2 _ _ _ _ _ _ _ _ _ _ _ _ _ sg (by omega) (by decide) ⟨hr0, fun h2 => absurd (h2.symm.trans hm1) (by decide), fun _ j hj1 hj2 => by rw [hold j (by omega)]; exact hz hm1 j hj1 hj2⟩
                · refine Par.yes (by rw [hl4, Int32.le_iff_toInt_le, ofn_i _ (by omega)]; simp only [Int32.reduceToInt]; omega) ?_
                  cases q2 with
                  | zero => exact Par.no
                  | succ q2 =>
                    rw [L_m_learns_e3]; unfold B_m_learns_3
                    refine Par.not (by decide) (Par.not (by decide) ?_)
                    rw [hl4]
                    refine E_m_half K hK q2 w tm (Int32.ofNat (o 0)) (Int32.ofNat (o 1)) s (o 1) 1 (by omega) (by omega) ho.2 l6 _ hl6' (by omega) imany _ _ wo (Int32.ofNat S) hps alev astm asm av ke ko kl ac tp tl sen hpo hpm bgn chn sg D M N dp hs hD hF hN hV hwo ub hub hU _ (fun q3 st cm l6 av ke ko kl ac tp tl sg2 hq3 hl62 hrow2 hold2 => ?_)
                    cases q3 with
                    | zero => exact Par.no
                    | succ q3 =>
                      rw [L_m_learns_e2]; unfold B_m_learns_2
                      refine Par.yes (by rw [Int32.le_iff_toInt_le, ofn_i _ (by omega)]; simp only [Int32.reduceToInt]; omega) ?_
                      rw [← hl4]
                      refine tk q3 _ _ _ _ _ _ _ _ _ _ _ _ _ sg2 (by omega) (by decide) ⟨?_, fun _ => hrow2, fun h1 => absurd (h1.symm.trans hm2) (by decide)⟩
                      obtain ⟨v1, v2, v3⟩ := hr0
                      exact ⟨by rw [hold2 0 (by omega)]; exact v1, by rw [hold2 1 (by omega)]; exact v2, by rw [hold2 2 (by omega)]; exact v3⟩
          rcases hm with ⟨hm1, hl4⟩ | ⟨hm2, hl4⟩
          · exact Par.not (by rw [hl4]; decide) (first 1 (by decide))
          · exact Par.yes (by rw [hl4, Int32.le_iff_toInt_le, ofn_i _ (by omega)]; simp only [Int32.reduceToInt]; omega) (first 2 (by decide))
  refine key n 0 _ _ 0 _ _ _ _ _ _ _ _ _ _ _ _ _ (Nat.zero_le _) (TkI0 (fun b hb => c3 b ?_)) (fun j hj => absurd hj (Nat.not_lt_zero _)) (fun _ j _ hj => c4 j hj)
  rw [hSi] at hb
  omega
