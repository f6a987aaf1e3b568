/-! both watchers: the reference -/
def ahN (lv : Nat → Int32) (x : Nat) : Nat → Nat
  | 0 => 0
  | c + 1 => 4 * ahN lv x c + (if lv c = 1 ∨ lv c = 2 then dgN x c else 0)
theorem ahN_lt (lv : Nat → Int32) (x : Nat) : ∀ n : Nat, ahN lv x n < 4 ^ n := by
  intro n
  induction n with
  | zero => exact Nat.one_pos
  | succ n ih =>
    have h9 := dgN_lt x n
    rw [Nat.pow_succ]
    unfold ahN
    split <;> omega
theorem ahN_eq (lv : Nat → Int32) (x y : Nat) : ∀ n : Nat, ahN lv x n = ahN lv y n ↔ ∀ c : Nat, c < n → (lv c = 1 ∨ lv c = 2) → dgN x c = dgN y c := by
  intro n
  induction n with
  | zero => exact ⟨fun _ c hc => absurd hc (Nat.not_lt_zero _), fun _ => rfl⟩
  | succ n ih =>
    have h8 := dgN_lt x n
    have h9 := dgN_lt y n
    unfold ahN
    by_cases hl : lv n = 1 ∨ lv n = 2
    · rw [if_pos hl, if_pos hl]
      constructor
      · intro h c hc hc2
        by_cases e : c = n
        · rw [e]; omega
        · exact ih.mp (by omega) c (by omega) hc2
      · intro h
        have h1 := ih.mpr (fun c hc hc2 => h c (by omega) hc2)
        have h2 := h n (by omega) hl
        omega
    · rw [if_neg hl, if_neg hl]
      constructor
      · intro h c hc hc2
        by_cases e : c = n
        · rw [e] at hc2; exact absurd hc2 hl
        · exact ih.mp (by omega) c (by omega) hc2
      · intro h
        have h1 := ih.mpr (fun c hc hc2 => h c (by omega) hc2)
        omega
theorem v3_four {x : Int32} (h : 0 ≤ x.toInt ∧ x.toInt ≤ 3) : x = 0 ∨ x = 1 ∨ x = 2 ∨ x = 3 := four_i x h
theorem sh_lv {lv : Nat → Int32} (h3 : lv3 lv) (c : Nat) (hc : c < 6) : (shB lv)[c]? = some true ↔ (lv c = 1 ∨ lv c = 2) := by
  rw [shB_at hc, wiL_at lv 1 c hc, wiL_at lv 2 c hc, wiL_at lv 0 c hc]
  rcases v3_four (h3 c hc) with e | e | e | e <;> rw [e] <;> decide
/-- the reference's row of secret s -/
def RwB (D : List SRc) (M N : Nat → Nat) (t : Int32) (lv : Nat → Int32) (o : Nat) (f : Nat → Int64) (s : Nat) : Prop :=
  (f 0).toBitVec.toNat = 512 * (4096 * snN (owT (wiL lv 1) (FnR D M N 0 (xOS (wiL lv 0) o s)).1 6) + ahN lv (xOS (wiL lv 0) o s) 6) + stB2 t (FnR D M N 0 (xOS (wiL lv 0) o s)).2.1 ∧
  (f 1).toBitVec.toNat = snN (vsL 1 (FnR D M N 0 (xOS (wiL lv 0) o s)).2.2) ∧ f 2 = 1 ∧
  (f 3).toBitVec.toNat = snN (owT (wiL lv 2) (FnR D M N 0 (xOS (wiL lv 0) o s)).1 6) ∧
  (f 4).toBitVec.toNat = snN (vsL 2 (FnR D M N 0 (xOS (wiL lv 0) o s)).2.2) ∧ f 5 = 1
theorem RwB.cg {D : List SRc} {M N : Nat → Nat} {t : Int32} {lv : Nat → Int32} {o : Nat} {f g : Nat → Int64} {s : Nat} (h : RwB D M N t lv o f s) (e : ∀ k : Nat, k < 6 → g k = f k) : RwB D M N t lv o g s := by
  obtain ⟨a0, a1, a2, a3, a4, a5⟩ := h
  exact ⟨by rw [e 0 (by omega)]; exact a0, by rw [e 1 (by omega)]; exact a1, by rw [e 2 (by omega)]; exact a2, by rw [e 3 (by omega)]; exact a3, by rw [e 4 (by omega)]; exact a4, by rw [e 5 (by omega)]; exact a5⟩
theorem RwB_eq {D : List SRc} {M N : Nat → Nat} {t : Int32} {lv : Nat → Int32} (h3 : lv3 lv) {o : Nat} {sen : Nat → Int64} {s s2 : Nat} (hV : VlD D) (h1 : RwB D M N t lv o (fun k => sen (6 * s + k)) s) (h2 : RwB D M N t lv o (fun k => sen (6 * s2 + k)) s2) : RwE sen s s2 ↔ BtR D M N t lv o s s2 := by
  obtain ⟨a0, a1, a2, a3, a4, a5⟩ := h1
  obtain ⟨b0, b1, b2, b3, b4, b5⟩ := h2
  obtain ⟨f1, f2⟩ := FnR_ok (D := D) (M := M) (N := N) (wo := 0) (x := xOS (wiL lv 0) o s) hV
  obtain ⟨g1, g2⟩ := FnR_ok (D := D) (M := M) (N := N) (wo := 0) (x := xOS (wiL lv 0) o s2) hV
  have l1 := stB2_lt (t := t) f1
  have l2 := stB2_lt (t := t) g1
  have hst := stB2_eq (t := t) (x := (FnR D M N 0 (xOS (wiL lv 0) o s)).2.1) (y := (FnR D M N 0 (xOS (wiL lv 0) o s2)).2.1)
  have n1 := ahN_lt lv (xOS (wiL lv 0) o s) 6
  have n2 := ahN_lt lv (xOS (wiL lv 0) o s2) 6
  have hah := ahN_eq lv (xOS (wiL lv 0) o s) (xOS (wiL lv 0) o s2) 6
  obtain ⟨p1, _⟩ := owT_4 (bs := wiL lv 1) f1.1 6 (Nat.le_refl _)
  obtain ⟨p2, _⟩ := owT_4 (bs := wiL lv 1) g1.1 6 (Nat.le_refl _)
  obtain ⟨p3, _⟩ := owT_4 (bs := wiL lv 2) f1.1 6 (Nat.le_refl _)
  obtain ⟨p4, _⟩ := owT_4 (bs := wiL lv 2) g1.1 6 (Nat.le_refl _)
  have ho1 := owT_eq (bs := wiL lv 1) f1.1 g1.1 6 (Nat.le_refl _)
  have ho2 := owT_eq (bs := wiL lv 2) f1.1 g1.1 6 (Nat.le_refl _)
  have e46 : (4 : Nat) ^ 6 = 4096 := by decide
  rw [e46] at n1 n2
  unfold BtR SAl
  generalize FnR D M N 0 (xOS (wiL lv 0) o s) = F at *
  generalize FnR D M N 0 (xOS (wiL lv 0) o s2) = G at *
  constructor
  · intro h
    have q0 : sen (6 * s + 0) = sen (6 * s2 + 0) := h 0 (by omega)
    have q1 : sen (6 * s + 1) = sen (6 * s2 + 1) := h 1 (by omega)
    have q3 : sen (6 * s + 3) = sen (6 * s2 + 3) := h 3 (by omega)
    have q4 : sen (6 * s + 4) = sen (6 * s2 + 4) := h 4 (by omega)
    have e0 := a0.symm.trans ((congrArg (fun z : Int64 => z.toBitVec.toNat) q0).trans b0)
    have e1 := a1.symm.trans ((congrArg (fun z : Int64 => z.toBitVec.toNat) q1).trans b1)
    have e3 := a3.symm.trans ((congrArg (fun z : Int64 => z.toBitVec.toNat) q3).trans b3)
    have e4 := a4.symm.trans ((congrArg (fun z : Int64 => z.toBitVec.toNat) q4).trans b4)
    have c1 : snN (owT (wiL lv 1) F.1 6) = snN (owT (wiL lv 1) G.1 6) ∧ ahN lv (xOS (wiL lv 0) o s) 6 = ahN lv (xOS (wiL lv 0) o s2) 6 ∧ stB2 t F.2.1 = stB2 t G.2.1 := by omega
    obtain ⟨c1, c2, c3⟩ := c1
    exact ⟨fun c hc hs => hah.mp c2 c hc ((sh_lv h3 c hc).mp hs), ⟨snN_inj (vsL_4 f2) (vsL_4 g2) e1, ho1.mp (snN_inj p1 p2 c1), hst.mp c3⟩, snN_inj (vsL_4 f2) (vsL_4 g2) e4, ho2.mp (snN_inj p3 p4 e3), hst.mp c3⟩
  · rintro ⟨h0, ⟨h1, h2, h4⟩, h5, h6, _⟩ k hk
    have c2 := hah.mpr (fun c hc hl => h0 c hc ((sh_lv h3 c hc).mpr hl))
    have c3 := hst.mpr h4
    have c1 := ho1.mpr h2
    have c4 := ho2.mpr h6
    rcases (show k = 0 ∨ k = 1 ∨ k = 2 ∨ k = 3 ∨ k = 4 ∨ k = 5 by omega) with rfl | rfl | rfl | rfl | rfl | rfl
    · refine i64_n (a0.trans (Eq.trans ?_ b0.symm))
      rw [c1, c2, c3]
    · refine i64_n (a1.trans (Eq.trans ?_ b1.symm))
      rw [h1]
    · exact a2.trans b2.symm
    · refine i64_n (a3.trans (Eq.trans ?_ b3.symm))
      rw [c4]
    · refine i64_n (a4.trans (Eq.trans ?_ b4.symm))
      rw [h5]
    · exact a5.trans b5.symm
theorem Z_m2 {z j : Int64} {n m : Nat} {x : Int32} (hz : z.toBitVec.toNat = n) (hj : j.toBitVec.toNat = m) (hn : n < 2 ^ 41) (hm : m < 4096) (hx : 0 ≤ x.toInt) : ((512 * ((4096 * z) + j)) + x.toInt64).toBitVec.toNat = 512 * (4096 * n + m) + x.toInt.toNat := by
  have h1 := i64s x hx
  have h2 : x.toInt.toNat < 2147483648 := by have := i32r x; omega
  have e : ((512 * ((4096 * z) + j)) + x.toInt64).toBitVec = 512#64 * (4096#64 * z.toBitVec + j.toBitVec) + x.toInt64.toBitVec := rfl
  have e4 : (512#64).toNat = 512 := rfl
  have e5 : (4096#64).toNat = 4096 := rfl
  rw [e, BitVec.toNat_add, BitVec.toNat_mul, BitVec.toNat_add, BitVec.toNat_mul, hz, hj, h1, e4, e5]
  omega
set_option maxHeartbeats 4000000 in
theorem E_m_both (K : Nat) (hK : 1000000000 ≤ K) (tm l2 th : Int32) (imany a1 a2 ip isec heaps : Int32) (alev astm asm avls abke abko abkl acel atap atpl : Nat → Int32) (sen : Nat → Int64) (hpo hpm bgn chn : Nat → Int32) (sgt : Nat → Int64) (D : List SRc) (M N dp : Nat → Nat) (hs : imany.toInt = (D.length : Int)) (hD : D.length ≤ 30) (hF : FRw astm asm D M N) (hN : NsT D M N dp) (hV : VlD D) (ub : List Bool) (hub : ub.length = 6) (hU : UsD D (fun c => ub[c]? = some true)) (hlv : lv3 alev) : Par (F_m_both K tm l2 th imany a1 a2 ip isec heaps alev astm asm avls abke abko abkl acel atap atpl sen hpo hpm bgn chn sgt) (fun r => (¬ ((tm = 0 ∨ tm = 1) ∧ OpP (wiL alev 0) l2) ∧ r.1 = -1) ∨ (((tm = 0 ∨ tm = 1) ∧ OpP (wiL alev 0) l2) ∧ BotP D M N tm alev l2 r.1)) := by
  have hb6 := wiL_len alev 0
  unfold F_m_both
  obtain ⟨n, rfl⟩ : ∃ n9, K = n9 + 1 := ⟨K - 1, by omega⟩
  rw [L_m_both_e0]; unfold B_m_both_0
  generalize hQ : (fun r : R20 => (¬ ((tm = 0 ∨ tm = 1) ∧ OpP (wiL alev 0) l2) ∧ r.1 = -1) ∨ (((tm = 0 ∨ tm = 1) ∧ OpP (wiL alev 0) l2) ∧ BotP D M N tm alev l2 r.1)) = Q
  have one : ¬ ((tm = 0 ∨ tm = 1) ∧ OpP (wiL alev 0) l2) → ∀ (l3 : Int32) (j4 : Int64) (l6 s0 s1 : Int32) (u0 : Int64) (th imany a1 a2 ip isec heaps : Int32) (avls abke abko abkl acel atap atpl : Nat → Int32) (sen : Nat → Int64) (hpo hpm bgn chn : Nat → Int32) (sgt : Nat → Int64), Par (L_m_both (n + 1) n 1 tm l2 l3 j4 l6 s0 s1 u0 th imany a1 a2 ip isec heaps alev astm asm avls abke abko abkl acel atap atpl sen hpo hpm bgn chn sgt) Q := by
    intro h
    intros
    cases n with
    | zero => exact Par.no
    | succ n => rw [L_m_both_e1]; unfold B_m_both_1; rw [← hQ]; exact Par.ret (Or.inl ⟨h, rfl⟩)
  have c0 : (0 : Int32).toInt = 0 := by decide
  have c1 : (1 : Int32).toInt = 1 := by decide
  refine Par.bd (E_m_in _ hK tm 0 1) (fun o1 h1 => ?_)
  rw [c0, c1] at h1
  rcases h1 with ⟨e1, q1⟩ | ⟨e1, q1⟩
  rotate_left
  · exact Par.yes e1 (one (fun h => q1 ((two_i tm).mpr h.1)) _ _ _ _ _ _ _ _ _ _ _ _ _ _ _ _ _ _ _ _ _ _ _ _ _ _)
  refine Par.not (by rw [e1]; decide) ?_
  refine Par.bd (E_m_isOpen _ hK 0 l2 alev) (fun o2 h2 => ?_)
  rcases h2 with ⟨e2, q2⟩ | ⟨e2, q2⟩
  rotate_left
  · exact Par.yes e2 (one (fun h => q2 h.2) _ _ _ _ _ _ _ _ _ _ _ _ _ _ _ _ _ _ _ _ _ _ _ _ _ _)
  refine Par.not (by rw [e2]; decide) ?_
  have hall : (tm = 0 ∨ tm = 1) ∧ OpP (wiL alev 0) l2 := ⟨(two_i tm).mp q1, q2⟩
  obtain ⟨o, ho, ho4, hx, _⟩ := OpP_n hb6 q2
  refine Par.bd (E_m_cells _ hK 0 0 alev (ntB (wiL alev 0)) (ntB_len hb6) (wi_n alev 0)) (fun o3 h3 => ?_)
  subst h3
  rw [p4_e (ntB_len hb6)]
  obtain ⟨hS4, hS1⟩ := p4_le (ntB_len hb6)
  have fin : ∀ v : Int32, v.toInt = (ndQ (BtR D M N tm alev o) (4 ^ cnB (ntB (wiL alev 0))) : Int) → BotP D M N tm alev l2 v := fun v h => ⟨o, hx, ho, h⟩
  generalize hSd : 4 ^ cnB (ntB (wiL alev 0)) = S at hS4 hS1 fin
  have hSi : (Int32.ofNat S).toInt = (S : Int) := ofn_i S (by omega)
  refine Par.bd (E_m_clears _ hK (Int32.ofNat S) isec heaps S hSi hS4 bgn sgt) (fun o6 h6 => ?_)
  obtain ⟨d1, d2, d3, d4⟩ := h6
  rw [d1, d2]
  have key : ∀ (q s : Nat) (th st cm hps : Int32) (av ke ko kl ac tp tl : Nat → Int32) (sen : Nat → Int64) (hpo hpm bgn chn : Nat → Int32) (sgt : Nat → Int64), s ≤ S → TkI (Int32.ofNat S) s hps sen hpo hpm bgn chn → (∀ j : Nat, j < s → RwB D M N tm alev o (fun k => sen (6 * j + k)) j) → Par (L_m_both (n + 1) q 2 tm l2 (Int32.ofNat s) 0 0 0 0 0 th imany st cm 0 (Int32.ofNat S) hps alev astm asm av ke ko kl ac tp tl sen hpo hpm bgn chn sgt) Q := by
    intro q
    induction q using Nat.strongRecOn with
    | _ q ih =>
    intro s th st cm hps av ke ko kl ac tp tl sen hpo hpm bgn chn sgt hsS hT hR
    have hsi : (Int32.ofNat s).toInt = (s : Int) := ofn_i s (by omega)
    cases q with
    | zero => exact Par.no
    | succ q =>
      rw [L_m_both_e2]; unfold B_m_both_2
      refine Par.br (fun h => ?_) (fun h => ?_)
      · rw [Int32.le_iff_toInt_le, hSi, hsi] at h
        have e : s = S := by omega
        subst e
        refine Par.ret ?_
        rw [← hQ]
        obtain ⟨_, t2, _, _⟩ := hT
        refine Or.inr ⟨hall, fin _ ?_⟩
        show hps.toInt = _
        rw [t2, ndQ_cg (fun a b ha hb => RwB_eq hlv hV (hR a ha) (hR b hb))]
      · rw [Int32.le_iff_toInt_le, hSi, hsi] at h
        have hlt : s < S := by omega
        have hs4 : s < 4096 := by omega
        refine Par.bd (P := fun o1 => ∀ c : Nat, c < 6 → ((wiL alev 0)[c]? = some true → o1 c = gN (spB (wiL alev 0) o) c) ∧ ((wiL alev 0)[c]? ≠ some true → o1 c = ac c)) (by rw [hx]; exact E_m_tells (n + 1) hK 0 1 o (by omega) alev ac (wiL alev 0) hb6 (wi_y alev 0)) (fun o1 g1 => ?_)
        refine Par.bd (E_m_tells (n + 1) hK 0 0 s (by omega) alev o1 (ntB (wiL alev 0)) (ntB_len hb6) (wi_n alev 0)) (fun o7 g2 => ?_)
        have hc : ∀ c : Nat, c < 6 → o7 c = gN (xOS (wiL alev 0) o s) c := by
          intro c hc
          by_cases hb : (wiL alev 0)[c]? = some true
          · rw [(g2 c hc).2 (fun h => ((ntB_at hb6 c hc).mp h) hb), (g1 c hc).1 hb, gN_inj, xOS_dg hb6 _ _ c hc, if_pos hb]
          · rw [(g2 c hc).1 ((ntB_at hb6 c hc).mpr hb), gN_inj, xOS_dg hb6 _ _ c hc, if_neg hb]
        have hg : vl3 o7 := fun c hc9 => by rw [hc c hc9]; exact gN_v3 _ c hc9
        obtain ⟨x1, x2⟩ := FnX (D := D) (M := M) (N := N) (wo := 0) hU hub hc
        obtain ⟨fo1, fo2⟩ := FnR_ok (D := D) (M := M) (N := N) (wo := 0) (x := xOS (wiL alev 0) o s) hV
        -- the row is full: it is put to its heap
        have six : ∀ (q2 : Nat) (l6 s0 : Int32) (j4 : Int64) (th st cm : Int32) (av ke ko kl ac tp tl : Nat → Int32) (sg : Nat → Int64) (a0 : Int64), q2 < q + 1 → RwB D M N tm alev o (vp_updL sg 0 (512 * ((4096 * a0) + j4) + s0.toInt64)) s → Par (L_m_both (n + 1) q2 6 tm l2 (Int32.ofNat s) j4 l6 s0 0 (512 * ((4096 * a0) + j4)) th imany st cm 0 (Int32.ofNat S) hps alev astm asm av ke ko kl ac tp tl sen hpo hpm bgn chn sg) Q := by
          intro q2 l6 s0 j4 th st cm av ke ko kl ac tp tl sg a0 hq2 hrow
          cases q2 with
          | zero => exact Par.no
          | succ q2 =>
            rw [L_m_both_e6]; unfold B_m_both_6
            refine Par.br (fun _ => ?_) (fun _ => Par.no)
            have e0 : (0 : Int32).toNatClampNeg = 0 := by decide
            rw [e0]
            refine Par.bd (E_m_takes (n + 1) hK (Int32.ofNat s) (Int32.ofNat S) hps s S sen hpo hpm bgn chn _ hsi hSi hS1 hS4 hlt hT) (fun r hr => ?_)
            obtain ⟨t1, t2, t3⟩ := hr
            rw [of_s s (by omega)]
            refine ih q2 (by omega) (s + 1) _ _ _ _ _ _ _ _ _ _ _ _ _ _ _ _ _ (by omega) t1 (fun j hj => ?_)
            by_cases e : j = s
            · subst e
              exact hrow.cg (fun k hk => t2 k hk)
            · exact (hR j (by omega)).cg (fun k hk => t3 (6 * j + k) (by omega))
        -- what is shown ahead of the run
        have three : ∀ (q2 c : Nat) (l6 : Int32) (j4 : Int64) (th : Int32), q2 < q + 1 → l6.toInt = (c : Int) → c ≤ 6 → j4.toBitVec.toNat = ahN alev (xOS (wiL alev 0) o s) c → Par (L_m_both (n + 1) q2 3 tm l2 (Int32.ofNat s) j4 l6 0 0 0 th imany st cm 0 (Int32.ofNat S) hps alev astm asm av ke ko kl o7 tp tl sen hpo hpm bgn chn sgt) Q := by
          intro q2
          induction q2 using Nat.strongRecOn with
          | _ q2 ih2 =>
          intro c l6 j4 th hq2 h6 hc6 hj
          cases q2 with
          | zero => exact Par.no
          | succ q2 =>
            rw [L_m_both_e3]; unfold B_m_both_3
            refine Par.br (fun h => ?_) (fun h => ?_)
            · rw [Int32.le_iff_toInt_le, h6] at h
              simp only [Int32.reduceToInt] at h
              have ec : c = 6 := by omega
              subst ec
              refine Par.bd (E_m_runs (n + 1) hK imany st cm 0 astm asm av ke ko kl o7 tp tl D M N dp hs hD hF hN hV (by decide) hg) (fun r hr => ?_)
              obtain ⟨r1, r2, r3, r4⟩ := hr
              rw [x2] at r2 r3 r4
              have hcel : ∀ c : Nat, c < 6 → r.2.2.2.2.2.2.1 c = (FnR D M N 0 (xOS (wiL alev 0) o s)).1 c := fun c hc9 => by rw [r1]; exact x1 c hc9
              refine Par.bd (E_m_sees (n + 1) hK 1 r.2.1 0 (by omega) alev _ _ _ sgt (FnR D M N 0 (xOS (wiL alev 0) o s)) fo1 fo2 hcel r3 r4) (fun sg hsg => ?_)
              obtain ⟨z0, z1, rfl, hz0, hz1⟩ := hsg
              refine Par.bd (E_m_sees (n + 1) hK 2 r.2.1 3 (by omega) alev _ _ _ _ (FnR D M N 0 (xOS (wiL alev 0) o s)) fo1 fo2 hcel r3 r4) (fun sg hsg => ?_)
              obtain ⟨y0, y1, rfl, hy0, hy1⟩ := hsg
              have hlt41 := ow_41 (bs := wiL alev 1) fo1.1
              have hah := ahN_lt alev (xOS (wiL alev 0) o s) 6
              have e46 : (4 : Nat) ^ 6 = 4096 := by decide
              rw [e46] at hah
              have esg : (vp_updL (vp_updL (vp_updL (vp_updL (vp_updL (vp_updL sgt 0 z0) (0 + 1) z1) (0 + 2) 1) 3 y0) (3 + 1) y1) (3 + 2) 1) 0 = z0 := by
                rw [updL_ne _ _ (by omega), updL_ne _ _ (by omega), updL_ne _ _ (by omega), updL_ne _ _ (by omega), updL_ne _ _ (by omega), updL_eq]
              rw [esg]
              have row : ∀ x : Int32, x.toInt = ((stB2 tm (FnR D M N 0 (xOS (wiL alev 0) o s)).2.1 : Nat) : Int) → RwB D M N tm alev o (vp_updL (vp_updL (vp_updL (vp_updL (vp_updL (vp_updL (vp_updL sgt 0 z0) (0 + 1) z1) (0 + 2) 1) 3 y0) (3 + 1) y1) (3 + 2) 1) 0 (512 * ((4096 * z0) + j4) + x.toInt64)) s := by
                intro x hx
                refine ⟨?_, ?_, ?_, ?_, ?_, ?_⟩
                · rw [updL_eq, Z_m2 hz0 hj hlt41 hah (by omega)]
                  omega
                · rw [updL_ne _ _ (by omega), updL_ne _ _ (by omega), updL_ne _ _ (by omega), updL_ne _ _ (by omega), updL_ne _ _ (by omega), updL_eq]
                  exact hz1
                · rw [updL_ne _ _ (by omega), updL_ne _ _ (by omega), updL_ne _ _ (by omega), updL_ne _ _ (by omega), updL_eq]
                · rw [updL_ne _ _ (by omega), updL_ne _ _ (by omega), updL_ne _ _ (by omega), updL_eq]
                  exact hy0
                · rw [updL_ne _ _ (by omega), updL_ne _ _ (by omega), updL_eq]
                  exact hy1
                · rw [updL_ne _ _ (by omega), updL_eq]
              refine Par.br (fun ht => ?_) (fun ht => ?_)
              · refine six q2 _ _ _ _ _ _ _ _ _ _ _ _ _ _ _ (by omega) (row _ ?_)
                rw [r2]
                unfold stB2
                rw [if_pos ht]
              · refine six q2 _ _ _ _ _ _ _ _ _ _ _ _ _ _ _ (by omega) (row _ ?_)
                unfold stB2
                rw [if_neg ht]
                rfl
            · rw [Int32.le_iff_toInt_le, h6] at h
              simp only [Int32.reduceToInt] at h
              have hlt6 : c < 6 := by omega
              have ecl := cl1 l6 c h6
              have hah := ahN_lt alev (xOS (wiL alev 0) o s) c
              have hpw : 4 ^ c ≤ 4 ^ 6 := Nat.pow_le_pow_right (by omega) (by omega)
              have e46 : (4 : Nat) ^ 6 = 4096 := by decide
              have five : ∀ (q3 : Nat) (x : Int32) (th : Int32), q3 < q2 + 1 → v3 x → x.toInt.toNat = (if alev c = 1 ∨ alev c = 2 then dgN (xOS (wiL alev 0) o s) c else 0) → Par (L_m_both (n + 1) q3 5 tm l2 (Int32.ofNat s) j4 l6 x 0 (4 * j4) th imany st cm 0 (Int32.ofNat S) hps alev astm asm av ke ko kl o7 tp tl sen hpo hpm bgn chn sgt) Q := by
                intro q3 x th hq3 hx3 hxv
                cases q3 with
                | zero => exact Par.no
                | succ q3 =>
                  rw [L_m_both_e5]; unfold B_m_both_5
                  refine ih2 q3 (by omega) (c + 1) _ _ _ (by omega) (ad1 l6 c h6 (by omega)) (by omega) ?_
                  rw [Z_m4 hj (by omega) hx3, hxv]
                  rfl
              have four : ∀ (th : Int32), (alev c = 1 ∨ alev c = 2) → Par (L_m_both (n + 1) q2 4 tm l2 (Int32.ofNat s) j4 l6 0 0 (4 * j4) th imany st cm 0 (Int32.ofNat S) hps alev astm asm av ke ko kl o7 tp tl sen hpo hpm bgn chn sgt) Q := by
                intro th hl
                cases q2 with
                | zero => exact Par.no
                | succ q2 =>
                  rw [L_m_both_e4]; unfold B_m_both_4
                  refine Par.br (fun _ => ?_) (fun _ => Par.no)
                  rw [ecl, hc c hlt6]
                  refine five q2 _ _ (by omega) (gN_v3 _ c hlt6) ?_
                  rw [if_pos hl]
                  have h9 := dgN_lt (xOS (wiL alev 0) o s) c
                  have h8 := ofn_i (dgN (xOS (wiL alev 0) o s) c) (by omega)
                  unfold gN
                  rw [h8]
                  omega
              refine Par.br (fun _ => ?_) (fun _ => Par.no)
              rw [ecl]
              refine Par.br (fun hl1 => four _ (Or.inl hl1)) (fun hl1 => ?_)
              refine Par.br (fun _ => ?_) (fun _ => Par.no)
              refine Par.br (fun hl2 => four _ (Or.inr hl2)) (fun hl2 => ?_)
              refine five q2 0 _ (by omega) (show 0 ≤ (0 : Int32).toInt ∧ (0 : Int32).toInt ≤ 3 by decide) ?_
              rw [if_neg (fun h9 => h9.elim hl1 hl2)]
              rfl
        refine three q 0 0 0 _ (by omega) rfl (Nat.zero_le _) rfl
  exact key n 0 _ _ _ _ _ _ _ _ _ _ _ _ _ _ _ _ _ (Nat.zero_le _) (TkI0 (fun b hb => d3 b (by rw [hSi] at hb; omega))) (fun j hj => absurd hj (Nat.not_lt_zero _))
