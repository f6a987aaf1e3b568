/-! the class counts heaps: its views of the tried secrets, put to the table -/
def vwZ (w : Int32) (F : RSt) : Int64 := Int64.ofNat (VwN w F)
theorem vwZ_of {z : Int64} {w : Int32} {F : RSt} (h : z.toBitVec.toNat = VwN w F) : z = vwZ w F := by
  refine i64_n ?_
  have e : (vwZ w F).toBitVec = BitVec.ofNat 64 (VwN w F) := rfl
  have h9 := z.toBitVec.isLt
  rw [e, BitVec.toNat_ofNat, ← h, Nat.mod_eq_of_lt h9]
theorem vwZ_n {z : Int64} {w : Int32} {F : RSt} (h : z.toBitVec.toNat = VwN w F) : (vwZ w F).toBitVec.toNat = VwN w F := by rw [← vwZ_of h, h]
def kX (x0 : Nat) (tr ub : List Bool) (k : Nat) : Nat := (x0 ||| spB tr k) &&& mkB ub
theorem gaB_sgm : ∀ (hs us : List Bool), hs.length = us.length → ∀ k : Nat, gaB hs (spB (anB hs us) k) = sgm hs us k := by
  intro hs
  induction hs with
  | nil =>
    intro us _ k
    cases us <;> rfl
  | cons h hs ih =>
    intro us hl k
    cases us with
    | nil => rw [List.length_cons, List.length_nil] at hl; omega
    | cons u us =>
      rw [List.length_cons, List.length_cons] at hl
      have ih := ih us (by omega)
      rw [anB_cons]
      have es : ∀ (b : Bool) (bs : List Bool) (k : Nat), spB (b :: bs) k = if b = true then k % 4 + 4 * spB bs (k / 4) else 4 * spB bs k := fun _ _ _ => rfl
      have eg : ∀ (b : Bool) (bs : List Bool) (k : Nat), gaB (b :: bs) k = if b = true then k % 4 + 4 * gaB bs (k / 4) else gaB bs (k / 4) := fun _ _ _ => rfl
      have et : sgm (h :: hs) (u :: us) k = if h = true then (if u = true then k % 4 + 4 * sgm hs us (k / 4) else 4 * sgm hs us k) else sgm hs us k := rfl
      rw [es, eg, et]
      by_cases hh : h = true
      · by_cases hu : u = true
        · have e1 : (k % 4 + 4 * spB (anB hs us) (k / 4)) / 4 = spB (anB hs us) (k / 4) := by omega
          have e2 : (k % 4 + 4 * spB (anB hs us) (k / 4)) % 4 = k % 4 := by omega
          have p1 : (h && u) = true := by rw [hh, hu]; rfl
          rw [if_pos hh, if_pos p1, if_pos hh, if_pos hu, e1, e2, ih]
        · have hz : (h && u) = false := by
            cases u
            · cases h <;> rfl
            · exact absurd rfl hu
          have e1 : 4 * spB (anB hs us) k / 4 = spB (anB hs us) k := by omega
          have e2 : 4 * spB (anB hs us) k % 4 = 0 := by omega
          have n1 : ¬ (h && u) = true := by rw [hz]; decide
          rw [if_pos hh, if_neg n1, if_pos hh, if_neg hu, e1, e2, ih]
          exact Nat.zero_add _
      · have hz : (h && u) = false := by
          cases h
          · rfl
          · exact absurd rfl hh
        have e1 : 4 * spB (anB hs us) k / 4 = spB (anB hs us) k := by omega
        have n1 : ¬ (h && u) = true := by rw [hz]; decide
        rw [if_neg hh, if_neg n1, if_neg hh, e1, ih]
theorem TbI.ans {sm : Int32} {Z n : Nat} {p : Nat → Int64 × Int64} {many greatest : Int32} {gf gs : Nat → Int64} {gz go : Nat → Int32} (h : TbI sm Z n p many greatest gf gs gz go) {R : Nat → Nat → Prop} (hR : ∀ i j : Nat, i < n → j < n → (p i = p j ↔ R i j)) (hn : 1 ≤ n) : many.toInt = (ndQ R n : Int) ∧ GmX R n greatest.toInt := by
  obtain ⟨i1, i2, i3, i4, i5, i6, i7⟩ := h
  have hc : ∀ (h s : Nat), s < n → (gf h, gs h) = p s → cntQ (fun j => (gf h, gs h) = p j) n = cntQ (R s) n := by
    intro h s hs e
    refine cntQ_congr (fun j hj => ?_)
    rw [e]
    exact hR s j hs hj
  refine ⟨by rw [i1, ndQ_cg (fun j s hj hs => hR j s hj hs)], fun s hs => ?_, ?_⟩
  · obtain ⟨h, hh, e⟩ := i2 s hs
    obtain ⟨_, q2, q3, _⟩ := i3 h hh
    rw [hc h s hs e] at q2
    omega
  · rcases i4 with i4 | ⟨h, hh, e⟩
    · exfalso
      obtain ⟨h, hh, e⟩ := i2 0 (by omega)
      obtain ⟨_, q2, q3, _⟩ := i3 h hh
      have h9 := cnt_pos (P := fun j => (gf h, gs h) = p j) (s := 0) e n (by omega)
      omega
    · obtain ⟨⟨j, q0, q1⟩, q2, _, _⟩ := i3 h hh
      exact ⟨j, q0, by rw [e, q2, hc h j q0 q1]⟩
theorem p2_4 (c : Nat) : 2 * 4 ^ c = 2 ^ (2 * c + 1) := by
  have e : (2 : Nat) ^ 2 = 4 := rfl
  rw [Nat.pow_succ, Nat.pow_mul, e]
  omega
theorem E_lookO (K : Nat) (hK : 1000000000 ≤ K) (x0 w : Nat) (hx : x0 < 4096) (hw : w < 4) (tr : List Bool) (htr : tr.length = 6) (k : Nat) (wo : Int32) (LL : List Nat) (sv : Nat → Nat → Int32) (stp : Int32) (fv : Nat → Int64) (fk : Nat → Int32) (b1 b2 b3 : Int32) (fn fl : Nat → Int32) (sz us : Int32) (pg : Nat → Option Nat) (pk : Nat → Int32) (D : List SRc) (M N dp : Nat → Nat) (ub : List Bool) (hub : ub.length = 6) (hus : us = mkI ub) (hs : sz.toInt = (D.length : Int)) (hD : D.length ≤ 30) (hC : CRw pg sv pk D M N) (hN : NsT D M N dp) (hV : VlD D) (hca : CaI D M N stp fv fk) : Par (F_X8_look K (Int32.ofNat x0 ||| Int32.ofNat (spB tr k)) (Int32.ofNat w) wo LL sv stp fv fk b1 b2 b3 fn fl sz us pg pk) (fun r => r.1 = vwZ (Int32.ofNat w) (FnR D M N wo (kX x0 tr ub k)) ∧ (vwZ (Int32.ofNat w) (FnR D M N wo (kX x0 tr ub k))).toBitVec.toNat = VwN (Int32.ofNat w) (FnR D M N wo (kX x0 tr ub k)) ∧ CaI D M N stp r.2.1 r.2.2.1) := by
  obtain ⟨e1, e2⟩ := n_or12 x0 (spB tr k) hx (sp6 htr k)
  rw [e1]
  exact (E_X8_look K hK (x0 ||| spB tr k) w e2 hw wo LL sv stp fv fk b1 b2 b3 fn fl sz us pg pk D M N dp ub hub hus hs hD hC hN hV hca).mono (fun r hr => ⟨vwZ_of hr.1, vwZ_n hr.1, hr.2⟩)
/-- one view of the tried secret k, under the lens -/
def pvO (D : List SRc) (M N : Nat → Nat) (w : Nat) (ln : Int64) (x0 : Nat) (tr ub : List Bool) (k : Nat) : Int64 := vwZ (Int32.ofNat w) (FnR D M N 0 (kX x0 tr ub k)) &&& ln
abbrev R15 : Type := Int32 × (Nat → Int64) × (Nat → Int32) × Int32 × Int32 × Int32 × (Nat → Int32) × (Nat → Int32) × Int32 × Int32 × Int32 × (Nat → Int64) × (Nat → Int64) × (Nat → Int32) × (Nat → Int32)
def CntQ (D : List SRc) (M N : Nat → Nat) (stp : Int32) (T : Nat) (p : Nat → Int64 × Int64) (r : R15) : Prop := r.1 = r.2.2.2.2.2.2.2.2.2.1 ∧ CaI D M N stp r.2.1 r.2.2.1 ∧ ∃ (sm : Int32) (Z : Nat), TbI sm Z T p r.2.2.2.2.2.2.2.2.2.1 r.2.2.2.2.2.2.2.2.2.2.1 r.2.2.2.2.2.2.2.2.2.2.2.1 r.2.2.2.2.2.2.2.2.2.2.2.2.1 r.2.2.2.2.2.2.2.2.2.2.2.2.2.1 r.2.2.2.2.2.2.2.2.2.2.2.2.2.2
set_option maxHeartbeats 2000000 in
theorem E_X8_countHeaps (K : Nat) (hK : 1000000000 ≤ K) (x0 w : Nat) (hx : x0 < 4096) (hw : w < 4) (ln : Int64) (hd : List Bool) (hhd : hd.length = 6) (LL : List Nat) (sv : Nat → Nat → Int32) (stp : Int32) (fv : Nat → Int64) (fk : Nat → Int32) (b1 b2 b3 : Int32) (fn fl : Nat → Int32) (t1 t2 t3 : Int32) (gf gs : Nat → Int64) (gz go : Nat → Int32) (sz us : Int32) (pg : Nat → Option Nat) (pk : Nat → Int32) (D : List SRc) (M N dp : Nat → Nat) (ub : List Bool) (hub : ub.length = 6) (hus : us = mkI ub) (hs : sz.toInt = (D.length : Int)) (hD : D.length ≤ 30) (hC : CRw pg sv pk D M N) (hN : NsT D M N dp) (hV : VlD D) (hca : CaI D M N stp fv fk) : Par (F_X8_countHeaps K (Int32.ofNat x0) LL sv stp (Int32.ofNat w) ln (mkI hd) fv fk b1 b2 b3 fn fl t1 t2 t3 gf gs gz go sz us pg pk) (CntQ D M N stp (4 ^ cnB (anB hd ub)) (fun k => (pvO D M N w ln x0 (anB hd ub) ub k, 0))) := by
  subst hus
  have htr := anB_len hhd hub
  obtain ⟨hT4, hT1⟩ := p4_le htr
  have hc6 := cnB_le htr
  unfold F_X8_countHeaps
  obtain ⟨n, rfl⟩ : ∃ n9, K = n9 + 1 := ⟨K - 1, by omega⟩
  rw [L_X8_countHeaps_e0]; unfold B_X8_countHeaps_0
  rw [mkI_an hd hhd ub hub]
  refine Par.bd (E_X9_numbersOf _ hK (anB hd ub) htr) (fun o1 h1 => ?_)
  subst h1
  have hTi : (Int32.ofNat (4 ^ cnB (anB hd ub))).toInt = ((4 ^ cnB (anB hd ub) : Nat) : Int) := ofn_i _ (by omega)
  refine Par.bd (E_X1_begin _ hK (Int32.ofNat (4 ^ cnB (anB hd ub))) t1 t2 t3 (4 ^ cnB (anB hd ub)) hTi hT4 hT1 go) (fun o6 h6 => ?_)
  obtain ⟨s1, s2, s3, s4⟩ := h6
  rw [s2, s3]
  rw [p2_4] at s1 s4
  have hnZ : 4 ^ cnB (anB hd ub) < 2 ^ (2 * cnB (anB hd ub) + 1) := by rw [← p2_4]; omega
  have key : ∀ (q k : Nat) (l4 l5 : Int32) (fv : Nat → Int64) (fk : Nat → Int32) (b1 b2 b3 : Int32) (fn fl : Nat → Int32) (mn gr : Int32) (gf gs : Nat → Int64) (gz go : Nat → Int32), l5.toInt = (k : Int) → k ≤ 4 ^ cnB (anB hd ub) → (k < 4 ^ cnB (anB hd ub) → l4 = Int32.ofNat (spB (anB hd ub) k)) → CaI D M N stp fv fk → TbI o6.1 (2 ^ (2 * cnB (anB hd ub) + 1)) k (fun k => (pvO D M N w ln x0 (anB hd ub) ub k, 0)) mn gr gf gs gz go → Par (L_X8_countHeaps (n + 1) q 1 (Int32.ofNat x0) (mkI (anB hd ub)) (Int32.ofNat (4 ^ cnB (anB hd ub))) l4 l5 LL sv stp (Int32.ofNat w) ln (mkI hd) fv fk b1 b2 b3 fn fl o6.1 mn gr gf gs gz go sz (mkI ub) pg pk) (CntQ D M N stp (4 ^ cnB (anB hd ub)) (fun k => (pvO D M N w ln x0 (anB hd ub) ub k, 0))) := by
    intro q
    induction q using Nat.strongRecOn with
    | _ q ih =>
    intro k l4 l5 fv fk b1 b2 b3 fn fl mn gr gf gs gz go h5 hkT h4 hca hI
    cases q with
    | zero => exact Par.no
    | succ q =>
      rw [L_X8_countHeaps_e1]; unfold B_X8_countHeaps_1
      refine Par.br (fun h => ?_) (fun h => ?_)
      · rw [Int32.le_iff_toInt_le, hTi, h5] at h
        have e : k = 4 ^ cnB (anB hd ub) := by omega
        rw [e] at hI
        exact Par.ret ⟨rfl, hca, o6.1, _, hI⟩
      · rw [Int32.le_iff_toInt_le, hTi, h5] at h
        have hk : k < 4 ^ cnB (anB hd ub) := by omega
        rw [h4 hk]
        refine Par.bd (E_lookO _ hK x0 w hx hw (anB hd ub) htr k 0 LL sv stp fv fk b1 b2 b3 fn fl sz (mkI ub) pg pk D M N dp ub hub rfl hs hD hC hN hV hca) (fun r hr => ?_)
        obtain ⟨r1, _, r3⟩ := hr
        rw [r1]
        refine Par.bd (E_X1_put _ hK _ 0 o6.1 mn gr gf gs gz go (2 * cnB (anB hd ub) + 1) k (fun k => (pvO D M N w ln x0 (anB hd ub) ub k, 0)) (by omega) s1 (by omega) (by omega) rfl hI) (fun r2 hr2 => ?_)
        refine Par.bd (P := fun y => k + 1 < 4 ^ cnB (anB hd ub) → y = Int32.ofNat (spB (anB hd ub) (k + 1))) ?_ (fun y hy => ?_)
        · by_cases hk1 : k + 1 < 4 ^ cnB (anB hd ub)
          · exact (E_X9_following _ hK k (anB hd ub) htr hk1).mono (fun y hy _ => hy)
          · exact fun y _ h9 => absurd h9 hk1
        · exact ih q (by omega) (k + 1) y _ _ _ _ _ _ _ _ _ _ _ _ _ _ (ad1 l5 k h5 (by omega)) (by omega) hy r3 hr2
  refine key n 0 0 0 fv fk b1 b2 b3 fn fl 0 0 gf gs gz o6.2.2.2 rfl (Nat.zero_le _) (fun _ => ?_) hca (TbI0 s4)
  have e0 : ∀ bs : List Bool, spB bs 0 = 0 := by
    intro bs
    induction bs with
    | nil => rfl
    | cons b bs ih =>
      have es : spB (b :: bs) 0 = if b = true then 0 % 4 + 4 * spB bs (0 / 4) else 4 * spB bs 0 := rfl
      rw [es, Nat.zero_div, ih]
      split <;> rfl
  rw [e0]
  rfl
set_option maxHeartbeats 2000000 in
theorem E_X8_countTogether (K : Nat) (hK : 1000000000 ≤ K) (x0 x1 w : Nat) (hx : x0 < 4096) (hx1 : x1 < 4096) (hw : w < 4) (ln : Int64) (hd : List Bool) (hhd : hd.length = 6) (LL : List Nat) (sv : Nat → Nat → Int32) (stp : Int32) (fv : Nat → Int64) (fk : Nat → Int32) (b1 b2 b3 : Int32) (fn fl : Nat → Int32) (t1 t2 t3 : Int32) (gf gs : Nat → Int64) (gz go : Nat → Int32) (sz us : Int32) (pg : Nat → Option Nat) (pk : Nat → Int32) (D : List SRc) (M N dp : Nat → Nat) (ub : List Bool) (hub : ub.length = 6) (hus : us = mkI ub) (hs : sz.toInt = (D.length : Int)) (hD : D.length ≤ 30) (hC : CRw pg sv pk D M N) (hN : NsT D M N dp) (hV : VlD D) (hca : CaI D M N stp fv fk) : Par (F_X8_countTogether K (Int32.ofNat x0) (Int32.ofNat x1) LL sv stp (Int32.ofNat w) ln (mkI hd) fv fk b1 b2 b3 fn fl t1 t2 t3 gf gs gz go sz us pg pk) (CntQ D M N stp (4 ^ cnB (anB hd ub)) (fun k => (pvO D M N w ln x0 (anB hd ub) ub k, pvO D M N w ln x1 (anB hd ub) ub k))) := by
  subst hus
  have htr := anB_len hhd hub
  obtain ⟨hT4, hT1⟩ := p4_le htr
  have hc6 := cnB_le htr
  unfold F_X8_countTogether
  obtain ⟨n, rfl⟩ : ∃ n9, K = n9 + 1 := ⟨K - 1, by omega⟩
  rw [L_X8_countTogether_e0]; unfold B_X8_countTogether_0
  rw [mkI_an hd hhd ub hub]
  refine Par.bd (E_X9_numbersOf _ hK (anB hd ub) htr) (fun o1 h1 => ?_)
  subst h1
  have hTi : (Int32.ofNat (4 ^ cnB (anB hd ub))).toInt = ((4 ^ cnB (anB hd ub) : Nat) : Int) := ofn_i _ (by omega)
  refine Par.bd (E_X1_begin _ hK (Int32.ofNat (4 ^ cnB (anB hd ub))) t1 t2 t3 (4 ^ cnB (anB hd ub)) hTi hT4 hT1 go) (fun o6 h6 => ?_)
  obtain ⟨s1, s2, s3, s4⟩ := h6
  rw [s2, s3]
  rw [p2_4] at s1 s4
  have hnZ : 4 ^ cnB (anB hd ub) < 2 ^ (2 * cnB (anB hd ub) + 1) := by rw [← p2_4]; omega
  have key : ∀ (q k : Nat) (l4 l5 : Int32) (fv : Nat → Int64) (fk : Nat → Int32) (b1 b2 b3 : Int32) (fn fl : Nat → Int32) (mn gr : Int32) (gf gs : Nat → Int64) (gz go : Nat → Int32), l5.toInt = (k : Int) → k ≤ 4 ^ cnB (anB hd ub) → (k < 4 ^ cnB (anB hd ub) → l4 = Int32.ofNat (spB (anB hd ub) k)) → CaI D M N stp fv fk → TbI o6.1 (2 ^ (2 * cnB (anB hd ub) + 1)) k (fun k => (pvO D M N w ln x0 (anB hd ub) ub k, pvO D M N w ln x1 (anB hd ub) ub k)) mn gr gf gs gz go → Par (L_X8_countTogether (n + 1) q 1 (Int32.ofNat x0) (Int32.ofNat x1) (mkI (anB hd ub)) (Int32.ofNat (4 ^ cnB (anB hd ub))) l4 l5 LL sv stp (Int32.ofNat w) ln (mkI hd) fv fk b1 b2 b3 fn fl o6.1 mn gr gf gs gz go sz (mkI ub) pg pk) (CntQ D M N stp (4 ^ cnB (anB hd ub)) (fun k => (pvO D M N w ln x0 (anB hd ub) ub k, pvO D M N w ln x1 (anB hd ub) ub k))) := by
    intro q
    induction q using Nat.strongRecOn with
    | _ q ih =>
    intro k l4 l5 fv fk b1 b2 b3 fn fl mn gr gf gs gz go h5 hkT h4 hca hI
    cases q with
    | zero => exact Par.no
    | succ q =>
      rw [L_X8_countTogether_e1]; unfold B_X8_countTogether_1
      refine Par.br (fun h => ?_) (fun h => ?_)
      · rw [Int32.le_iff_toInt_le, hTi, h5] at h
        have e : k = 4 ^ cnB (anB hd ub) := by omega
        rw [e] at hI
        exact Par.ret ⟨rfl, hca, o6.1, _, hI⟩
      · rw [Int32.le_iff_toInt_le, hTi, h5] at h
        have hk : k < 4 ^ cnB (anB hd ub) := by omega
        rw [h4 hk]
        refine Par.bd (E_lookO _ hK x0 w hx hw (anB hd ub) htr k 0 LL sv stp fv fk b1 b2 b3 fn fl sz (mkI ub) pg pk D M N dp ub hub rfl hs hD hC hN hV hca) (fun r hr => ?_)
        obtain ⟨r1, _, r3⟩ := hr
        refine Par.bd (E_lookO _ hK x1 w hx1 hw (anB hd ub) htr k 0 LL sv stp _ _ _ _ _ _ _ sz (mkI ub) pg pk D M N dp ub hub rfl hs hD hC hN hV r3) (fun u hu => ?_)
        obtain ⟨u1, _, u3⟩ := hu
        rw [r1, u1]
        refine Par.bd (E_X1_put _ hK _ _ o6.1 mn gr gf gs gz go (2 * cnB (anB hd ub) + 1) k (fun k => (pvO D M N w ln x0 (anB hd ub) ub k, pvO D M N w ln x1 (anB hd ub) ub k)) (by omega) s1 (by omega) (by omega) rfl hI) (fun r2 hr2 => ?_)
        refine Par.bd (P := fun y => k + 1 < 4 ^ cnB (anB hd ub) → y = Int32.ofNat (spB (anB hd ub) (k + 1))) ?_ (fun y hy => ?_)
        · by_cases hk1 : k + 1 < 4 ^ cnB (anB hd ub)
          · exact (E_X9_following _ hK k (anB hd ub) htr hk1).mono (fun y hy _ => hy)
          · exact fun y _ h9 => absurd h9 hk1
        · exact ih q (by omega) (k + 1) y _ _ _ _ _ _ _ _ _ _ _ _ _ _ (ad1 l5 k h5 (by omega)) (by omega) hy u3 hr2
  refine key n 0 0 0 fv fk b1 b2 b3 fn fl 0 0 gf gs gz o6.2.2.2 rfl (Nat.zero_le _) (fun _ => ?_) hca (TbI0 s4)
  have e0 : ∀ bs : List Bool, spB bs 0 = 0 := by
    intro bs
    induction bs with
    | nil => rfl
    | cons b bs ih =>
      have es : spB (b :: bs) 0 = if b = true then 0 % 4 + 4 * spB bs (0 / 4) else 4 * spB bs 0 := rfl
      rw [es, Nat.zero_div, ih]
      split <;> rfl
  rw [e0]
  rfl
