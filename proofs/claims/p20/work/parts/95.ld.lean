/-! both watchers: the class -/
theorem ln_st : ∀ bs : List Bool, bs.length = 6 → ((Int64.ofNat ((2 ^ 41 - 1) + 2 ^ 41 * mkB bs + 2 ^ 53 * 511)) &&& 4602678819172646912) = 4602678819172646912 ∧ ((Int64.ofNat ((2 ^ 41 - 1) + 2 ^ 41 * mkB bs + 2 ^ 53 * 0)) &&& 4602678819172646912) = 0 ∧ (2 ^ 41 - 1) + 2 ^ 41 * mkB bs + 2 ^ 53 * 511 < 2 ^ 64 :=
  al6_of (P := fun bs => ((Int64.ofNat ((2 ^ 41 - 1) + 2 ^ 41 * mkB bs + 2 ^ 53 * 511)) &&& 4602678819172646912) = 4602678819172646912 ∧ ((Int64.ofNat ((2 ^ 41 - 1) + 2 ^ 41 * mkB bs + 2 ^ 53 * 0)) &&& 4602678819172646912) = 0 ∧ (2 ^ 41 - 1) + 2 ^ 41 * mkB bs + 2 ^ 53 * 511 < 2 ^ 64) (by unfold al6; decide +kernel)
theorem ln_bits {ln : Int64} {bs : List Bool} (hb : bs.length = 6) {t : Int32} (h : ln.toBitVec.toNat = lnN bs t) : (ln &&& 4602678819172646912) = if t = 1 then 4602678819172646912 else 0 := by
  obtain ⟨h1, h2, h3⟩ := ln_st bs hb
  have key : ∀ n : Nat, n < 2 ^ 64 → ln.toBitVec.toNat = n → ln = Int64.ofNat n := by
    intro n hn e
    refine i64_n ?_
    have e9 : (Int64.ofNat n).toBitVec = BitVec.ofNat 64 n := rfl
    rw [e, e9, BitVec.toNat_ofNat, Nat.mod_eq_of_lt hn]
  unfold lnN at h
  by_cases ht : t = 1
  · rw [if_pos ht] at h ⊢
    rw [key _ h3 h]
    exact h1
  · rw [if_neg ht] at h ⊢
    rw [key _ (by omega) h]
    exact h2
theorem E_X8_lensN (K : Nat) (hK : 1000000000 ≤ K) (bs b0 : List Bool) (hb : bs.length = 6) (hb0 : b0.length = 6) (t : Int32) (ln : Int64) (hl : ln.toBitVec.toNat = lnN b0 t) : Par (F_X8_lensOf K (mkI bs) (ln &&& 4602678819172646912)) (fun r => r.toBitVec.toNat = lnN bs t) := by
  have hle := E_X8_lens bs hb t
  rw [ln_bits hb0 hl]
  unfold F_X8_lensOf
  obtain ⟨n, rfl⟩ : ∃ n9, K = n9 + 1 := ⟨K - 1, by omega⟩
  rw [L_X8_lensOf_e0]; unfold B_X8_lensOf_0
  exact Par.ret hle
theorem sp_0 : ∀ bs : List Bool, spB bs 0 = 0 := by
  intro bs
  induction bs with
  | nil => rfl
  | cons b bs ih =>
    have es : spB (b :: bs) 0 = if b = true then 0 % 4 + 4 * spB bs (0 / 4) else 4 * spB bs 0 := rfl
    rw [es, Nat.zero_div, ih]
    split <;> rfl
set_option maxHeartbeats 4000000 in
theorem E_X8_countUnshown (K : Nat) (hK : 1000000000 ≤ K) (x0 : Nat) (hx : x0 < 4096) (ln : Int64) (lv : Nat → Int32) (t : Int32) (hln : ln.toBitVec.toNat = lnN (wiL lv 0) t) (LL : List Nat) (sv : Nat → Nat → Int32) (stp : Int32) (fv : Nat → Int64) (fk : Nat → Int32) (b1 b2 b3 : Int32) (fn fl : Nat → Int32) (t1 t2 t3 : Int32) (gf gs : Nat → Int64) (gz go : Nat → Int32) (sz us : Int32) (pg : Nat → Option Nat) (pk : Nat → Int32) (D : List SRc) (M N dp : Nat → Nat) (ub : List Bool) (hub : ub.length = 6) (hus : us = mkI ub) (hs : sz.toInt = (D.length : Int)) (hD : D.length ≤ 30) (hC : CRw pg sv pk D M N) (hN : NsT D M N dp) (hV : VlD D) (hca : CaI D M N stp fv fk) : Par (F_X8_countUnshown K (Int32.ofNat x0) (mkI (wiL lv 1)) (mkI (wiL lv 2)) LL sv stp ln (mkI (ntB (wiL lv 0))) fv fk b1 b2 b3 fn fl t1 t2 t3 gf gs gz go sz us pg pk) (fun r : R15 => r.1.toInt = (ndQ (fun c c2 => SAl 1 t (wiL lv 1) (FnR D M N 0 (kX x0 (sC9 lv ub) ub c)) (FnR D M N 0 (kX x0 (sC9 lv ub) ub c2)) ∧ SAl 2 t (wiL lv 2) (FnR D M N 0 (kX x0 (sC9 lv ub) ub c)) (FnR D M N 0 (kX x0 (sC9 lv ub) ub c2))) (4 ^ cnB (sC9 lv ub)) : Int) ∧ CaI D M N stp r.2.1 r.2.2.1) := by
  subst hus
  have htr := sC9_len (lv := lv) hub
  obtain ⟨hT4, hT1⟩ := p4_le htr
  have hc6 := cnB_le htr
  have hset : ((mkI (ntB (wiL lv 0)) &&& mkI ub) &&& ((mkI (wiL lv 1) ||| mkI (wiL lv 2)) ^^^ (-1))) = mkI (sC9 lv ub) := by
    rw [mkI_an _ (ntB_len (wiL_len lv 0)) ub hub, mkI_or _ (wiL_len lv 1) _ (wiL_len lv 2), mkI_dn _ (anB_len (ntB_len (wiL_len lv 0)) hub) _ (orB_len (wiL_len lv 1) (wiL_len lv 2))]
    rfl
  unfold F_X8_countUnshown
  obtain ⟨n, rfl⟩ : ∃ n9, K = n9 + 1 := ⟨K - 1, by omega⟩
  rw [L_X8_countUnshown_e0]; unfold B_X8_countUnshown_0
  rw [hset]
  refine Par.bd (E_X9_numbersOf _ hK (sC9 lv ub) htr) (fun o1 h1 => ?_)
  subst h1
  have hTi : (Int32.ofNat (4 ^ cnB (sC9 lv ub))).toInt = ((4 ^ cnB (sC9 lv ub) : Nat) : Int) := ofn_i _ (by omega)
  refine Par.bd (E_X8_lensN _ hK (wiL lv 1) (wiL lv 0) (wiL_len lv 1) (wiL_len lv 0) t ln hln) (fun ln1 hl1 => ?_)
  refine Par.bd (E_X8_lensN _ hK (wiL lv 2) (wiL lv 0) (wiL_len lv 2) (wiL_len lv 0) t ln hln) (fun ln2 hl2 => ?_)
  refine Par.bd (E_X1_begin _ hK (Int32.ofNat (4 ^ cnB (sC9 lv ub))) t1 t2 t3 (4 ^ cnB (sC9 lv ub)) hTi hT4 hT1 go) (fun o6 h6 => ?_)
  obtain ⟨s1, s2, s3, s4⟩ := h6
  rw [s2, s3]
  rw [p2_4] at s1 s4
  have hnZ : 4 ^ cnB (sC9 lv ub) < 2 ^ (2 * cnB (sC9 lv ub) + 1) := by rw [← p2_4]; omega
  have fin : ∀ r : R15, CntQ D M N stp (4 ^ cnB (sC9 lv ub)) (fun k => (pvO D M N 1 ln1 x0 (sC9 lv ub) ub k, pvO D M N 2 ln2 x0 (sC9 lv ub) ub k)) r → r.1.toInt = (ndQ (fun c c2 => SAl 1 t (wiL lv 1) (FnR D M N 0 (kX x0 (sC9 lv ub) ub c)) (FnR D M N 0 (kX x0 (sC9 lv ub) ub c2)) ∧ SAl 2 t (wiL lv 2) (FnR D M N 0 (kX x0 (sC9 lv ub) ub c)) (FnR D M N 0 (kX x0 (sC9 lv ub) ub c2))) (4 ^ cnB (sC9 lv ub)) : Int) ∧ CaI D M N stp r.2.1 r.2.2.1 := by
    intro r hr
    obtain ⟨r1, r2, sm, Z, hI⟩ := hr
    have hpq : ∀ i j : Nat, i < 4 ^ cnB (sC9 lv ub) → j < 4 ^ cnB (sC9 lv ub) → ((pvO D M N 1 ln1 x0 (sC9 lv ub) ub i, pvO D M N 2 ln2 x0 (sC9 lv ub) ub i) = (pvO D M N 1 ln1 x0 (sC9 lv ub) ub j, pvO D M N 2 ln2 x0 (sC9 lv ub) ub j) ↔ (SAl 1 t (wiL lv 1) (FnR D M N 0 (kX x0 (sC9 lv ub) ub i)) (FnR D M N 0 (kX x0 (sC9 lv ub) ub j)) ∧ SAl 2 t (wiL lv 2) (FnR D M N 0 (kX x0 (sC9 lv ub) ub i)) (FnR D M N 0 (kX x0 (sC9 lv ub) ub j)))) := by
      intro i j _ _
      have h9 := pv_eq (M := M) (N := N) hV (w := 1) (t := t) (wiL_len lv 1) hl1 (x0 := x0) (tr := sC9 lv ub) (ub := ub) i j
      have h8 := pv_eq (M := M) (N := N) hV (w := 2) (t := t) (wiL_len lv 2) hl2 (x0 := x0) (tr := sC9 lv ub) (ub := ub) i j
      constructor
      · intro e
        exact ⟨h9.mp (congrArg Prod.fst e), h8.mp (congrArg Prod.snd e)⟩
      · intro e
        rw [h9.mpr e.1, h8.mpr e.2]
    obtain ⟨m1, _⟩ := hI.ans hpq hT1
    exact ⟨by rw [r1, m1], r2⟩
  have key : ∀ (q k : Nat) (l10 l11 : Int32) (fv : Nat → Int64) (fk : Nat → Int32) (b1 b2 b3 : Int32) (fn fl : Nat → Int32) (mn gr : Int32) (gf gs : Nat → Int64) (gz go : Nat → Int32), l11.toInt = (k : Int) → k ≤ 4 ^ cnB (sC9 lv ub) → (k < 4 ^ cnB (sC9 lv ub) → l10 = Int32.ofNat (spB (sC9 lv ub) k)) → CaI D M N stp fv fk → TbI o6.1 (2 ^ (2 * cnB (sC9 lv ub) + 1)) k (fun k => (pvO D M N 1 ln1 x0 (sC9 lv ub) ub k, pvO D M N 2 ln2 x0 (sC9 lv ub) ub k)) mn gr gf gs gz go → Par (L_X8_countUnshown (n + 1) q 1 (Int32.ofNat x0) (mkI (wiL lv 1)) (mkI (wiL lv 2)) (mkI (sC9 lv ub)) (Int32.ofNat (4 ^ cnB (sC9 lv ub))) ln1 ln2 l10 l11 LL sv stp ln (mkI (ntB (wiL lv 0))) fv fk b1 b2 b3 fn fl o6.1 mn gr gf gs gz go sz (mkI ub) pg pk) (CntQ D M N stp (4 ^ cnB (sC9 lv ub)) (fun k => (pvO D M N 1 ln1 x0 (sC9 lv ub) ub k, pvO D M N 2 ln2 x0 (sC9 lv ub) ub k))) := by
    intro q
    induction q using Nat.strongRecOn with
    | _ q ih =>
    intro k l10 l11 fv fk b1 b2 b3 fn fl mn gr gf gs gz go h5 hkT h4 hca hI
    cases q with
    | zero => exact Par.no
    | succ q =>
      rw [L_X8_countUnshown_e1]; unfold B_X8_countUnshown_1
      refine Par.br (fun h => ?_) (fun h => ?_)
      · rw [Int32.le_iff_toInt_le, hTi, h5] at h
        have e : k = 4 ^ cnB (sC9 lv ub) := by omega
        rw [e] at hI
        exact Par.ret ⟨rfl, hca, o6.1, _, hI⟩
      · rw [Int32.le_iff_toInt_le, hTi, h5] at h
        have hk : k < 4 ^ cnB (sC9 lv ub) := by omega
        rw [h4 hk]
        refine Par.bd (E_lookO _ hK x0 1 hx (by omega) (sC9 lv ub) htr k 0 LL sv stp fv fk b1 b2 b3 fn fl sz (mkI ub) pg pk D M N dp ub hub rfl hs hD hC hN hV hca) (fun r hr => ?_)
        obtain ⟨r1, _, r3⟩ := hr
        refine Par.bd (E_lookO _ hK x0 2 hx (by omega) (sC9 lv ub) htr k 0 LL sv stp _ _ _ _ _ _ _ sz (mkI ub) pg pk D M N dp ub hub rfl hs hD hC hN hV r3) (fun u hu => ?_)
        obtain ⟨u1, _, u3⟩ := hu
        rw [r1, u1]
        refine Par.bd (E_X1_put _ hK _ _ o6.1 mn gr gf gs gz go (2 * cnB (sC9 lv ub) + 1) k (fun k => (pvO D M N 1 ln1 x0 (sC9 lv ub) ub k, pvO D M N 2 ln2 x0 (sC9 lv ub) ub k)) (by omega) s1 (by omega) (by omega) rfl hI) (fun r2 hr2 => ?_)
        refine Par.bd (P := fun y => k + 1 < 4 ^ cnB (sC9 lv ub) → y = Int32.ofNat (spB (sC9 lv ub) (k + 1))) ?_ (fun y hy => ?_)
        · by_cases hk1 : k + 1 < 4 ^ cnB (sC9 lv ub)
          · exact (E_X9_following _ hK k (sC9 lv ub) htr hk1).mono (fun y hy _ => hy)
          · exact fun y _ h9 => absurd h9 hk1
        · exact ih q (by omega) (k + 1) y _ _ _ _ _ _ _ _ _ _ _ _ _ _ (ad1 l11 k h5 (by omega)) (by omega) hy u3 hr2
  refine (key n 0 0 0 fv fk b1 b2 b3 fn fl 0 0 gf gs gz o6.2.2.2 rfl (Nat.zero_le _) (fun _ => ?_) hca (TbI0 s4)).mono fin
  rw [sp_0]
  rfl
set_option maxHeartbeats 4000000 in
theorem E_X8_countBoth (K : Nat) (hK : 1000000000 ≤ K) (o : Nat) (ln : Int64) (lv : Nat → Int32) (t : Int32) (hln : ln.toBitVec.toNat = lnN (wiL lv 0) t) (LL : List Nat) (sv : Nat → Nat → Int32) (stp : Int32) (fv : Nat → Int64) (fk : Nat → Int32) (b1 b2 b3 : Int32) (fn fl : Nat → Int32) (t1 t2 t3 : Int32) (gf gs : Nat → Int64) (gz go : Nat → Int32) (sz us : Int32) (pg : Nat → Option Nat) (pk : Nat → Int32) (D : List SRc) (M N dp : Nat → Nat) (ub : List Bool) (hub : ub.length = 6) (hus : us = mkI ub) (hU : UsD D (fun c => ub[c]? = some true)) (hs : sz.toInt = (D.length : Int)) (hD : D.length ≤ 30) (hC : CRw pg sv pk D M N) (hN : NsT D M N dp) (hV : VlD D) (hca : CaI D M N stp fv fk) : Par (F_X8_countBoth K (Int32.ofNat (spB (wiL lv 0) o)) (mkI (wiL lv 1)) (mkI (wiL lv 2)) LL sv stp ln (mkI (ntB (wiL lv 0))) fv fk b1 b2 b3 fn fl t1 t2 t3 gf gs gz go sz us pg pk) (fun r : R15 => r.1.toInt = (ndQ (BtR D M N t lv o) (4 ^ cnB (ntB (wiL lv 0))) : Int) ∧ CaI D M N stp r.2.1 r.2.2.1) := by
  subst hus
  have hA := sA9_len (lv := lv) hub
  have hB := sB9_len (lv := lv) hub
  have hC9 := sC9_len (lv := lv) hub
  obtain ⟨hA4, hA1⟩ := p4_le hA
  obtain ⟨hB4, hB1⟩ := p4_le hB
  obtain ⟨hC4, hC1⟩ := p4_le hC9
  have hsh : ((mkI (wiL lv 1) ||| mkI (wiL lv 2)) &&& mkI (ntB (wiL lv 0))) = mkI (shB lv) := by
    rw [mkI_or _ (wiL_len lv 1) _ (wiL_len lv 2), mkI_an _ (orB_len (wiL_len lv 1) (wiL_len lv 2)) _ (ntB_len (wiL_len lv 0))]
    rfl
  have hst : (mkI (shB lv) &&& mkI ub) = mkI (sA9 lv ub) := mkI_an _ (shB_len lv) ub hub
  have hsb : (mkI (shB lv) &&& (mkI ub ^^^ (-1))) = mkI (sB9 lv ub) := mkI_dn _ (shB_len lv) ub hub
  unfold F_X8_countBoth
  obtain ⟨n, rfl⟩ : ∃ n9, K = n9 + 1 := ⟨K - 1, by omega⟩
  rw [L_X8_countBoth_e0]; unfold B_X8_countBoth_0
  rw [hsh, hst]
  refine Par.bd (E_X9_numbersOf _ hK (sA9 lv ub) hA) (fun o1 h1 => ?_)
  subst h1
  have hTi : (Int32.ofNat (4 ^ cnB (sA9 lv ub))).toInt = ((4 ^ cnB (sA9 lv ub) : Nat) : Int) := ofn_i _ (by omega)
  have hnd := nd_bt (D := D) (M := M) (t := t) (lv := lv) hN hU hub o
  have hle := cntQ_le (fun s => ∀ j : Nat, j < s → ¬ BtR D M N t lv o j s) (4 ^ cnB (ntB (wiL lv 0)))
  have hle : ndQ (BtR D M N t lv o) (4 ^ cnB (ntB (wiL lv 0))) ≤ 4 ^ cnB (ntB (wiL lv 0)) := hle
  obtain ⟨hS4, _⟩ := p4_le (ntB_len (wiL_len lv 0))
  generalize hff : (fun k => ndQ (UnR D M N t lv ub o k) (4 ^ cnB (sC9 lv ub))) = ff at hnd
  have hfv : ∀ k : Nat, ff k = ndQ (UnR D M N t lv ub o k) (4 ^ cnB (sC9 lv ub)) := fun k => by rw [← hff]
  have hf4 : ∀ k : Nat, ff k ≤ 4096 := by
    intro k
    rw [hfv]
    have h9 : ndQ (UnR D M N t lv ub o k) (4 ^ cnB (sC9 lv ub)) ≤ 4 ^ cnB (sC9 lv ub) := cntQ_le (fun s => ∀ j : Nat, j < s → ¬ UnR D M N t lv ub o k j s) _
    omega
  have key : ∀ (q k : Nat) (l7 l8 l9 : Int32) (fv : Nat → Int64) (fk : Nat → Int32) (b1 b2 b3 : Int32) (fn fl : Nat → Int32) (t1 t2 t3 : Int32) (gf gs : Nat → Int64) (gz go : Nat → Int32), l9.toInt = (k : Int) → k ≤ 4 ^ cnB (sA9 lv ub) → (k < 4 ^ cnB (sA9 lv ub) → l7 = Int32.ofNat (spB (sA9 lv ub) k)) → l8.toInt = (smN ff k : Int) → CaI D M N stp fv fk → Par (L_X8_countBoth (n + 1) q 1 (Int32.ofNat (spB (wiL lv 0) o)) (mkI (wiL lv 1)) (mkI (wiL lv 2)) (mkI (shB lv)) (mkI (sA9 lv ub)) (Int32.ofNat (4 ^ cnB (sA9 lv ub))) l7 l8 l9 LL sv stp ln (mkI (ntB (wiL lv 0))) fv fk b1 b2 b3 fn fl t1 t2 t3 gf gs gz go sz (mkI ub) pg pk) (fun r : R15 => r.1.toInt = (ndQ (BtR D M N t lv o) (4 ^ cnB (ntB (wiL lv 0))) : Int) ∧ CaI D M N stp r.2.1 r.2.2.1) := by
    intro q
    induction q using Nat.strongRecOn with
    | _ q ih =>
    intro k l7 l8 l9 fv fk b1 b2 b3 fn fl t1 t2 t3 gf gs gz go h9 hkT h7 h8 hca
    cases q with
    | zero => exact Par.no
    | succ q =>
      rw [L_X8_countBoth_e1]; unfold B_X8_countBoth_1
      refine Par.br (fun h => ?_) (fun h => ?_)
      · rw [Int32.le_iff_toInt_le, hTi, h9] at h
        have e : k = 4 ^ cnB (sA9 lv ub) := by omega
        rw [hsb]
        refine Par.bd (E_X9_numbersOf _ hK (sB9 lv ub) hB) (fun o2 h2 => Par.ret ⟨?_, hca⟩)
        subst h2
        have hBi : (Int32.ofNat (4 ^ cnB (sB9 lv ub))).toInt = ((4 ^ cnB (sB9 lv ub) : Nat) : Int) := ofn_i _ (by omega)
        rw [e] at h8
        have hp : l8.toInt * ((4 ^ cnB (sB9 lv ub) : Nat) : Int) = (ndQ (BtR D M N t lv o) (4 ^ cnB (ntB (wiL lv 0))) : Int) := by
          rw [h8, hnd, Int.natCast_mul, Int.mul_comm]
        show (l8 * Int32.ofNat (4 ^ cnB (sB9 lv ub))).toInt = _
        rw [Int32.toInt_mul, hBi, hp]
        exact bmI (by omega) (by omega)
      · rw [Int32.le_iff_toInt_le, hTi, h9] at h
        have hk : k < 4 ^ cnB (sA9 lv ub) := by omega
        obtain ⟨e1, e2⟩ := n_or12 (spB (wiL lv 0) o) (spB (sA9 lv ub) k) (sp6 (wiL_len lv 0) o) (sp6 hA k)
        rw [h7 hk, e1]
        refine Par.bd (E_X8_countUnshown _ hK (spB (wiL lv 0) o ||| spB (sA9 lv ub) k) e2 ln lv t hln LL sv stp fv fk b1 b2 b3 fn fl t1 t2 t3 gf gs gz go sz (mkI ub) pg pk D M N dp ub hub rfl hs hD hC hN hV hca) (fun r hr => ?_)
        obtain ⟨r1, r2⟩ := hr
        have r1 : r.1.toInt = (ff k : Int) := by rw [hfv]; exact r1
        refine Par.bd (P := fun y => k + 1 < 4 ^ cnB (sA9 lv ub) → y = Int32.ofNat (spB (sA9 lv ub) (k + 1))) ?_ (fun y hy => ?_)
        · by_cases hk1 : k + 1 < 4 ^ cnB (sA9 lv ub)
          · exact (E_X9_following _ hK k (sA9 lv ub) hA hk1).mono (fun y hy _ => hy)
          · exact fun y _ h9 => absurd h9 hk1
        · refine ih q (by omega) (k + 1) y _ _ _ _ _ _ _ _ _ _ _ _ _ _ _ _ (ad1 l9 k h9 (by omega)) (by omega) hy ?_ r2
          have hsm := smN_le hf4 k
          have hfk := hf4 k
          have e3 : smN ff (k + 1) = smN ff k + ff k := rfl
          rw [Int32.toInt_add, h8, r1, e3, bmI (by omega) (by omega)]
          omega
  refine key n 0 0 0 0 fv fk b1 b2 b3 fn fl t1 t2 t3 gf gs gz go rfl (Nat.zero_le _) (fun _ => ?_) rfl hca
  rw [sp_0]
  rfl
def BotP (D : List SRc) (M N : Nat → Nat) (t : Int32) (lv : Nat → Int32) (x r : Int32) : Prop := ∃ o : Nat, x = Int32.ofNat o ∧ o < 4 ^ cnB (wiL lv 0) ∧ r.toInt = (ndQ (BtR D M N t lv o) (4 ^ cnB (ntB (wiL lv 0))) : Int)
theorem BotP_u {D : List SRc} {M N : Nat → Nat} {t : Int32} {lv : Nat → Int32} {x r q : Int32} (h1 : BotP D M N t lv x r) (h2 : BotP D M N t lv x q) : r = q := by
  obtain ⟨o, a1, a2, a3⟩ := h1
  obtain ⟨p, b1, b2, b3⟩ := h2
  obtain ⟨hS4, _⟩ := p4_le (wiL_len lv 0)
  have e : o = p := by
    have c1 := ofn_i o (by omega)
    have c2 := ofn_i p (by omega)
    rw [← a1] at c1
    rw [← b1] at c2
    omega
  subst e
  exact Int32.toInt_inj.mp (by rw [a3, b3])
set_option maxHeartbeats 4000000 in
theorem E_X9_both (K : Nat) (hK : 1000000000 ≤ K) (tm l2 : Int32) (pn : Nat) (LL : List Nat) (sv : Nat → Nat → Int32) (lvf : Nat → Int32) (stp : Int32) (wp : Nat) (x1 : Int32) (x2 : Int64) (x3 x4 : Int32) (fv : Nat → Int64) (fk : Nat → Int32) (b1 b2 b3 : Int32) (fn fl : Nat → Int32) (t1 t2 t3 : Int32) (gf gs : Nat → Int64) (gz go : Nat → Int32) (sz us : Int32) (pg : Nat → Option Nat) (pk : Nat → Int32) (D : List SRc) (M N dp : Nat → Nat) (ub : List Bool) (hub : ub.length = 6) (hus : us = mkI ub) (hU : UsD D (fun c => ub[c]? = some true)) (hs : sz.toInt = (D.length : Int)) (hD : D.length ≤ 30) (hC : CRw pg sv pk D M N) (hN : NsT D M N dp) (hV : VlD D) (hca : CaI D M N stp fv fk) : Par (F_X9_both K tm l2 pn LL sv lvf stp wp x1 x2 x3 x4 fv fk b1 b2 b3 fn fl t1 t2 t3 gf gs gz go sz us pg pk) (fun r => ((¬ ((tm = 0 ∨ tm = 1) ∧ OpP (wiL lvf 0) l2) ∧ r.1 = -1) ∨ (((tm = 0 ∨ tm = 1) ∧ OpP (wiL lvf 0) l2) ∧ BotP D M N tm lvf l2 r.1)) ∧ CaI D M N stp r.2.2.2.2.2.2.1 r.2.2.2.2.2.2.2.1) := by
  have hb6 := wiL_len lvf 0
  unfold F_X9_both
  obtain ⟨n, rfl⟩ : ∃ n9, K = n9 + 1 := ⟨K - 1, by omega⟩
  rw [L_X9_both_e0]; unfold B_X9_both_0
  generalize hQ : (fun r : R20c => ((¬ ((tm = 0 ∨ tm = 1) ∧ OpP (wiL lvf 0) l2) ∧ r.1 = -1) ∨ (((tm = 0 ∨ tm = 1) ∧ OpP (wiL lvf 0) l2) ∧ BotP D M N tm lvf l2 r.1)) ∧ CaI D M N stp r.2.2.2.2.2.2.1 r.2.2.2.2.2.2.2.1) = Q
  refine Par.bd (E_X9_isFlag _ hK tm) (fun o1 h1 => ?_)
  rcases h1 with ⟨e1, q1⟩ | ⟨e1, q1, q2⟩
  rotate_left
  · refine Par.yes e1 (Par.ret ?_)
    rw [← hQ]
    exact ⟨Or.inl ⟨fun h => h.1.elim q1 q2, rfl⟩, hca⟩
  refine Par.not (by rw [e1]; decide) ?_
  refine Par.bd (E_X9_cellsWithin _ hK 0 lvf) (fun o2 h2 => ?_)
  subst h2
  refine Par.bd (E_X9_isPacked _ hK l2 (wiL lvf 0) hb6) (fun o3 h3 => ?_)
  rcases h3 with ⟨e3, q3⟩ | ⟨e3, q3⟩
  rotate_left
  · refine Par.yes e3 (Par.ret ?_)
    rw [← hQ]
    exact ⟨Or.inl ⟨fun h => q3 h.2, rfl⟩, hca⟩
  refine Par.not (by rw [e3]; decide) ?_
  have hall : (tm = 0 ∨ tm = 1) ∧ OpP (wiL lvf 0) l2 := ⟨q1, q3⟩
  obtain ⟨o, ho, ho4, hx, _⟩ := OpP_n hb6 hall.2
  refine Par.bd (E_X8_aimW (n + 1) hK 0 (by omega) (wiL lvf 0) hb6 tm x1 x2 x3 x4) (fun a ha => ?_)
  obtain ⟨a1, a2, a3, a4⟩ := ha
  rw [hx]
  refine Par.bd (E_X9_spread _ hK o ho4 (wiL lvf 0) hb6) (fun y hy => ?_)
  subst hy
  refine Par.bd (E_X9_cellsWithin _ hK 1 lvf) (fun o4 h4 => ?_)
  subst h4
  refine Par.bd (E_X9_cellsWithin _ hK 2 lvf) (fun o5 h5 => ?_)
  subst h5
  rw [a4]
  refine Par.bd (E_X8_countBoth _ hK o a.2.1 lvf tm a2 LL sv stp fv fk b1 b2 b3 fn fl t1 t2 t3 gf gs gz go sz us pg pk D M N dp ub hub hus hU hs hD hC hN hV hca) (fun r hr => Par.ret ?_)
  rw [← hQ]
  exact ⟨Or.inr ⟨hall, o, hx, ho, hr.1⟩, hr.2⟩
