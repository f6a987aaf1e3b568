/-! the class: pairs that are told apart; safe, pair -/
theorem sgm_gal {hs us : List Bool} (hl : hs.length = us.length) {j k : Nat} (hk : k < 4 ^ cnB (anB hs us)) (h : j < sgm hs us k) : tau hs us j < k := by
  rcases Nat.lt_or_ge (tau hs us j) k with c | c
  · exact c
  · exfalso
    have h1 := sgm_tau hs us hl j
    rcases Nat.lt_or_ge k (tau hs us j) with c2 | c2
    · have := sgm_mono hs us hl k _ c2 (tau_lt hs us hl j)
      omega
    · have e : tau hs us j = k := by omega
      rw [e] at h1
      omega
/-- the key of number k, tried secret m -/
def kY (bs ub : List Bool) (k m : Nat) : Nat := kX (spB (anB bs ub) k) (anB (ntB bs) ub) ub m
theorem kY_tau {bs ub : List Bool} (hb : bs.length = 6) (hu : ub.length = 6) (o s : Nat) : xOS bs o s &&& mkB ub = kY bs ub (tau bs ub o) (tau (ntB bs) ub s) := by
  rw [kOS_tau hb hu]
  unfold kOS kY kX
  rw [sp_tau bs ub (by rw [hb, hu]), Nat.or_comm (spB bs o &&& mkB ub), or_m, Nat.or_comm]
theorem kY_0 (bs ub : List Bool) (k : Nat) : kY bs ub k 0 = spB (anB bs ub) k &&& mkB ub := by
  unfold kY kX
  rw [sp0, Nat.or_zero]
def HyR (D : List SRc) (M N : Nat → Nat) (wo w t : Int32) (bs ub : List Bool) (k m m2 : Nat) : Prop := SAl w t bs (FnR D M N wo (kY bs ub k m)) (FnR D M N wo (kY bs ub k m2))
theorem Hp_y {D : List SRc} {M N dp : Nat → Nat} {wo w t : Int32} {bs ub : List Bool} (hN : NsT D M N dp) (hU : UsD D (fun c => ub[c]? = some true)) (hb : bs.length = 6) (hu : ub.length = 6) (o s s2 : Nat) : HpR D M N wo w t bs o s s2 ↔ HyR D M N wo w t bs ub (tau bs ub o) (tau (ntB bs) ub s) (tau (ntB bs) ub s2) := by
  unfold HpR HyR
  rw [sal_mask hN hU (fun c hc h9 => by rw [xOS_dg hb _ _ c hc, xOS_dg hb _ _ c hc, if_pos h9, if_pos h9]), kY_tau hb hu, kY_tau hb hu]
theorem tau_0 (hs us : List Bool) (hl : hs.length = us.length) : tau hs us 0 = 0 := by
  have h1 : 0 < 4 ^ cnB (anB hs us) := Nat.pow_pos (by omega)
  have h2 := tau_sgm hs us hl 0 h1
  rw [sgm_0] at h2
  exact h2
theorem pw_eq {D : List SRc} {M N : Nat → Nat} {wo : Int32} (hV : VlD D) {w : Nat} {t : Int32} {bs : List Bool} (hb : bs.length = 6) {ln : Int64} (hl : ln.toBitVec.toNat = lnN bs t) (x y : Nat) : (vwZ (Int32.ofNat w) (FnR D M N wo x) &&& ln) = (vwZ (Int32.ofNat w) (FnR D M N wo y) &&& ln) ↔ SAl (Int32.ofNat w) t bs (FnR D M N wo x) (FnR D M N wo y) := by
  obtain ⟨f1, f2⟩ := FnR_ok (D := D) (M := M) (N := N) (wo := wo) (x := x) hV
  obtain ⟨g1, g2⟩ := FnR_ok (D := D) (M := M) (N := N) (wo := wo) (x := y) hV
  exact vw_eq hb f1 f2 g1 g2 (vwZ_v f1 f2) (vwZ_v g1 g2) hl
abbrev R10p : Type := Int32 × Int32 × Int32 × (Nat → Int64) × (Nat → Int32) × Int32 × Int32 × Int32 × (Nat → Int32) × (Nat → Int32)
def FprQ (D : List SRc) (M N : Nat → Nat) (stp wo w t : Int32) (bs ub : List Bool) (r : R10p) : Prop := ((r.1 = 0 ∧ ∀ k : Nat, k < 4 ^ cnB (anB bs ub) → ∀ m : Nat, m < 4 ^ cnB (anB (ntB bs) ub) → HyR D M N wo w t bs ub k 0 m) ∨ (r.1 = 1 ∧ ∃ k m : Nat, k < 4 ^ cnB (anB bs ub) ∧ m < 4 ^ cnB (anB (ntB bs) ub) ∧ ¬ HyR D M N wo w t bs ub k 0 m ∧ (∀ j : Nat, j < k → ∀ i : Nat, i < 4 ^ cnB (anB (ntB bs) ub) → HyR D M N wo w t bs ub j 0 i) ∧ (∀ i : Nat, i < m → HyR D M N wo w t bs ub k 0 i) ∧ r.2.1 = Int32.ofNat (spB (anB bs ub) k) ∧ r.2.2.1 = Int32.ofNat (spB (anB (ntB bs) ub) m))) ∧ CaI D M N stp r.2.2.2.1 r.2.2.2.2.1
set_option maxHeartbeats 4000000 in
theorem E_X8_findPair (K : Nat) (hK : 1000000000 ≤ K) (w : Nat) (hw : w < 4) (t wo : Int32) (ln : Int64) (bs : List Bool) (hb6 : bs.length = 6) (hln : ln.toBitVec.toNat = lnN bs t) (LL : List Nat) (sv : Nat → Nat → Int32) (stp po ps : Int32) (fv : Nat → Int64) (fk : Nat → Int32) (b1 b2 b3 : Int32) (fn fl : Nat → Int32) (sz us : Int32) (pg : Nat → Option Nat) (pk : Nat → Int32) (D : List SRc) (M N dp : Nat → Nat) (ub : List Bool) (hub : ub.length = 6) (hus : us = mkI ub) (hs : sz.toInt = (D.length : Int)) (hD : D.length ≤ 30) (hC : CRw pg sv pk D M N) (hN : NsT D M N dp) (hV : VlD D) (hca : CaI D M N stp fv fk) : Par (F_X8_findPair K wo LL sv stp (Int32.ofNat w) ln (mkI bs) (mkI (ntB bs)) po ps fv fk b1 b2 b3 fn fl sz us pg pk) (FprQ D M N stp wo (Int32.ofNat w) t bs ub) := by
  subst hus
  have hn6 := ntB_len hb6
  have hto := anB_len hb6 hub
  have hts := anB_len hn6 hub
  obtain ⟨hO4, hO1⟩ := p4_le hto
  obtain ⟨hT4, hT1⟩ := p4_le hts
  unfold F_X8_findPair
  obtain ⟨n, rfl⟩ : ∃ n9, K = n9 + 1 := ⟨K - 1, by omega⟩
  rw [L_X8_findPair_e0]; unfold B_X8_findPair_0
  rw [mkI_an bs hb6 ub hub, mkI_an (ntB bs) hn6 ub hub]
  refine Par.bd (E_X9_numbersOf _ hK (anB bs ub) hto) (fun o1 h1 => ?_)
  subst h1
  refine Par.bd (E_X9_numbersOf _ hK (anB (ntB bs) ub) hts) (fun o2 h2 => ?_)
  subst h2
  have hOi : (Int32.ofNat (4 ^ cnB (anB bs ub))).toInt = ((4 ^ cnB (anB bs ub) : Nat) : Int) := ofn_i _ (by omega)
  have hTi : (Int32.ofNat (4 ^ cnB (anB (ntB bs) ub))).toInt = ((4 ^ cnB (anB (ntB bs) ub) : Nat) : Int) := ofn_i _ (by omega)
  refine Par.br (fun h => ?_) (fun h => Par.ret ⟨Or.inl ⟨rfl, fun k _ m hm => ?_⟩, hca⟩)
  rotate_left
  · rw [Int32.le_iff_toInt_le, hTi] at h
    simp only [Int32.reduceToInt] at h
    have e : m = 0 := by omega
    rw [e]
    exact SAl_rf _
  have key : ∀ (q : Nat), (∀ (k : Nat) (l6 : Int32) (j7 : Int64) (l9 po ps : Int32) (fv : Nat → Int64) (fk : Nat → Int32) (b1 b2 b3 : Int32) (fn fl : Nat → Int32), l6.toInt = (k : Int) → k ≤ 4 ^ cnB (anB bs ub) → (k < 4 ^ cnB (anB bs ub) → po = Int32.ofNat (spB (anB bs ub) k)) → CaI D M N stp fv fk → (∀ j : Nat, j < k → ∀ i : Nat, i < 4 ^ cnB (anB (ntB bs) ub) → HyR D M N wo (Int32.ofNat w) t bs ub j 0 i) → Par (L_X8_findPair (n + 1) q 1 wo (mkI (anB bs ub)) (mkI (anB (ntB bs) ub)) (Int32.ofNat (4 ^ cnB (anB bs ub))) (Int32.ofNat (4 ^ cnB (anB (ntB bs) ub))) l6 j7 l9 LL sv stp (Int32.ofNat w) ln (mkI bs) (mkI (ntB bs)) po ps fv fk b1 b2 b3 fn fl sz (mkI ub) pg pk) (FprQ D M N stp wo (Int32.ofNat w) t bs ub)) ∧
      (∀ (k m : Nat) (l6 : Int32) (j7 : Int64) (l9 ps : Int32) (fv : Nat → Int64) (fk : Nat → Int32) (b1 b2 b3 : Int32) (fn fl : Nat → Int32), l6.toInt = (k : Int) → k < 4 ^ cnB (anB bs ub) → l9.toInt = (m : Int) → 1 ≤ m → m ≤ 4 ^ cnB (anB (ntB bs) ub) → ps = Int32.ofNat (spB (anB (ntB bs) ub) (m - 1)) → j7 = (vwZ (Int32.ofNat w) (FnR D M N wo (kY bs ub k 0)) &&& ln) → CaI D M N stp fv fk → (∀ j : Nat, j < k → ∀ i : Nat, i < 4 ^ cnB (anB (ntB bs) ub) → HyR D M N wo (Int32.ofNat w) t bs ub j 0 i) → (∀ i : Nat, i < m → HyR D M N wo (Int32.ofNat w) t bs ub k 0 i) → Par (L_X8_findPair (n + 1) q 2 wo (mkI (anB bs ub)) (mkI (anB (ntB bs) ub)) (Int32.ofNat (4 ^ cnB (anB bs ub))) (Int32.ofNat (4 ^ cnB (anB (ntB bs) ub))) l6 j7 l9 LL sv stp (Int32.ofNat w) ln (mkI bs) (mkI (ntB bs)) (Int32.ofNat (spB (anB bs ub) k)) ps fv fk b1 b2 b3 fn fl sz (mkI ub) pg pk) (FprQ D M N stp wo (Int32.ofNat w) t bs ub)) := by
    intro q
    induction q using Nat.strongRecOn with
    | _ q ih =>
    refine ⟨?_, ?_⟩
    · intro k l6 j7 l9 po ps fv fk b1 b2 b3 fn fl h6 hkO hpo hca hq
      cases q with
      | zero => exact Par.no
      | succ q =>
        rw [L_X8_findPair_e1]; unfold B_X8_findPair_1
        refine Par.br (fun h => Par.ret ⟨Or.inl ⟨rfl, fun j hj => hq j ?_⟩, hca⟩) (fun h => ?_)
        · rw [Int32.le_iff_toInt_le, hOi, h6] at h
          omega
        · rw [Int32.le_iff_toInt_le, hOi, h6] at h
          have hk : k < 4 ^ cnB (anB bs ub) := by omega
          rw [hpo hk]
          refine Par.bd (E_X8_look _ hK (spB (anB bs ub) k) w (sp6 hto k) hw wo LL sv stp fv fk b1 b2 b3 fn fl sz (mkI ub) pg pk D M N dp ub hub rfl hs hD hC hN hV hca) (fun r hr => ?_)
          refine (ih q (by omega)).2 k 1 l6 _ 1 0 _ _ _ _ _ _ _ h6 hk rfl (Nat.le_refl _) hT1 (by rw [sp0]; rfl) ?_ hr.2 hq (fun i hi => ?_)
          · rw [vwZ_of hr.1, kY_0]
          · have e : i = 0 := by omega
            rw [e]
            exact SAl_rf _
    · intro k m l6 j7 l9 ps fv fk b1 b2 b3 fn fl h6 hk h9 hm1 hmT hps hj7 hca hq hpre
      cases q with
      | zero => exact Par.no
      | succ q =>
        rw [L_X8_findPair_e2]; unfold B_X8_findPair_2
        refine Par.br (fun h => ?_) (fun h => ?_)
        · rw [Int32.le_iff_toInt_le, hTi, h9] at h
          refine Par.bd (P := fun y => k + 1 < 4 ^ cnB (anB bs ub) → y = Int32.ofNat (spB (anB bs ub) (k + 1))) ?_ (fun y hy => ?_)
          · by_cases hk1 : k + 1 < 4 ^ cnB (anB bs ub)
            · exact (E_X9_following _ hK k (anB bs ub) hto hk1).mono (fun y hy _ => hy)
            · exact fun y _ h9 => absurd h9 hk1
          · refine (ih q (by omega)).1 (k + 1) _ _ _ y _ _ _ _ _ _ _ _ (ad1 l6 k h6 (by omega)) (by omega) hy hca (fun j hj i hi => ?_)
            by_cases e : j = k
            · rw [e]; exact hpre i (by omega)
            · exact hq j (by omega) i hi
        · rw [Int32.le_iff_toInt_le, hTi, h9] at h
          have hm : m < 4 ^ cnB (anB (ntB bs) ub) := by omega
          have e1 : m - 1 + 1 = m := by omega
          have hf := E_X9_following (n + 1) hK (m - 1) (anB (ntB bs) ub) hts (by omega)
          rw [e1] at hf
          rw [hps]
          refine Par.bd hf (fun y hy => ?_)
          subst hy
          refine Par.bd (E_lookO _ hK (spB (anB bs ub) k) w (sp6 hto k) hw (anB (ntB bs) ub) hts m wo LL sv stp fv fk b1 b2 b3 fn fl sz (mkI ub) pg pk D M N dp ub hub rfl hs hD hC hN hV hca) (fun r hr => ?_)
          obtain ⟨r1, _, r3⟩ := hr
          rw [r1, hj7]
          have heq := pw_eq (D := D) (M := M) (N := N) (wo := wo) hV (w := w) (t := t) hb6 hln (kY bs ub k m) (kY bs ub k 0)
          refine Par.br (fun hc => ?_) (fun hc => Par.ret ⟨Or.inr ⟨rfl, k, m, hk, hm, fun h8 => hc ((lgq _ _).mpr (heq.mpr (SAl_sy h8))), hq, hpre, rfl, rfl⟩, r3⟩)
          have h8 := heq.mp ((lgq _ _).mp hc)
          refine (ih q (by omega)).2 k (m + 1) l6 _ _ _ _ _ _ _ _ _ _ h6 hk (ad1 l9 m h9 (by omega)) (by omega) (by omega) (by rw [Nat.add_sub_cancel]) rfl r3 hq (fun i hi => ?_)
          by_cases e : i = m
          · rw [e]; exact SAl_sy h8
          · exact hpre i (by omega)
  exact (key n).1 0 0 0 0 0 ps fv fk b1 b2 b3 fn fl rfl (Nat.zero_le _) (fun _ => by rw [sp0]; rfl) hca (fun j hj => absurd hj (Nat.not_lt_zero _))
/-- what is found, over all numbers and secrets -/
def FpaP (D : List SRc) (M N : Nat → Nat) (wo w t : Int32) (bs ub : List Bool) (r po ps : Int32) : Prop := (r = 0 ∧ SafX D M N wo w t bs) ∨ (r = 1 ∧ ∃ k m : Nat, FstO D M N wo w t bs (sgm bs ub k) ∧ FstS D M N wo w t bs (sgm bs ub k) (sgm (ntB bs) ub m) ∧ po = Int32.ofNat (spB (anB bs ub) k) ∧ ps = Int32.ofNat (spB (anB (ntB bs) ub) m) ∧ k < 4 ^ cnB (anB bs ub) ∧ m < 4 ^ cnB (anB (ntB bs) ub))
theorem FprQ.all {D : List SRc} {M N dp : Nat → Nat} {stp wo w t : Int32} {bs ub : List Bool} {r : R10p} (h : FprQ D M N stp wo w t bs ub r) (hN : NsT D M N dp) (hU : UsD D (fun c => ub[c]? = some true)) (hb : bs.length = 6) (hu : ub.length = 6) : FpaP D M N wo w t bs ub r.1 r.2.1 r.2.2.1 := by
  have hlo : bs.length = ub.length := by rw [hb, hu]
  have hls : (ntB bs).length = ub.length := by rw [ntB_len hb, hu]
  have hy : ∀ o s : Nat, HpR D M N wo w t bs o 0 s ↔ HyR D M N wo w t bs ub (tau bs ub o) 0 (tau (ntB bs) ub s) := by
    intro o s
    rw [Hp_y hN hU hb hu, tau_0 _ _ hls]
  rcases h.1 with ⟨h1, h2⟩ | ⟨h1, k, m, hk, hm, h3, h4, h5, h6, h7⟩
  · exact Or.inl ⟨h1, fun o _ s _ => (hy o s).mpr (h2 _ (tau_lt bs ub hlo o) _ (tau_lt (ntB bs) ub hls s))⟩
  · have to := tau_sgm bs ub hlo k hk
    have ts := tau_sgm (ntB bs) ub hls m hm
    have hnot : ¬ HpR D M N wo w t bs (sgm bs ub k) 0 (sgm (ntB bs) ub m) := by
      rw [hy, to, ts]; exact h3
    refine Or.inr ⟨h1, k, m, ⟨sgm_lt bs ub hlo k, fun h9 => hnot (h9 _ (sgm_lt (ntB bs) ub hls m)), fun j hj s hs => ?_⟩, ⟨sgm_lt (ntB bs) ub hls m, hnot, fun j hj => ?_⟩, h6, h7, hk, hm⟩
    · rw [hy]
      exact h4 _ (sgm_gal hlo hk hj) _ (tau_lt (ntB bs) ub hls s)
    · rw [hy, to]
      exact h5 _ (sgm_gal hls hm hj)
abbrev R15s : Type := Int32 × Nat × Int32 × Int64 × Int32 × Int32 × Int32 × Int32 × (Nat → Int64) × (Nat → Int32) × Int32 × Int32 × Int32 × (Nat → Int32) × (Nat → Int32)
def IsfQ (D : List SRc) (M N : Nat → Nat) (stp w t : Int32) (bs ub : List Bool) (r : R15s) : Prop := ((r.1 = 1 ∧ SafX D M N 0 w t bs) ∨ (r.1 = 0 ∧ FpaP D M N 0 w t bs ub 1 r.2.2.2.2.2.2.1 r.2.2.2.2.2.2.2.1)) ∧ CaI D M N stp r.2.2.2.2.2.2.2.2.1 r.2.2.2.2.2.2.2.2.2.1
set_option maxHeartbeats 4000000 in
theorem E_X9_isSafe (K : Nat) (hK : 1000000000 ≤ K) (w tm : Int32) (hw : 0 ≤ w.toInt ∧ w.toInt ≤ 3) (pn : Nat) (LL : List Nat) (sv : Nat → Nat → Int32) (lvf : Nat → Int32) (stp : Int32) (wp : Nat) (x1 : Int32) (x2 : Int64) (x3 x4 po ps : Int32) (fv : Nat → Int64) (fk : Nat → Int32) (b1 b2 b3 : Int32) (fn fl : Nat → Int32) (sz us : Int32) (pg : Nat → Option Nat) (pk : Nat → Int32) (D : List SRc) (M N dp : Nat → Nat) (ub : List Bool) (hub : ub.length = 6) (hus : us = mkI ub) (hU : UsD D (fun c => ub[c]? = some true)) (hs : sz.toInt = (D.length : Int)) (hD : D.length ≤ 30) (hC : CRw pg sv pk D M N) (hN : NsT D M N dp) (hV : VlD D) (hca : CaI D M N stp fv fk) : Par (F_X9_isSafe K w tm pn LL sv lvf stp wp x1 x2 x3 x4 po ps fv fk b1 b2 b3 fn fl sz us pg pk) (IsfQ D M N stp w tm (wiL lvf w) ub) := by
  have hb6 := wiL_len lvf w
  unfold F_X9_isSafe
  obtain ⟨n, rfl⟩ : ∃ n9, K = n9 + 1 := ⟨K - 1, by omega⟩
  rw [L_X9_isSafe_e0]; unfold B_X9_isSafe_0
  refine Par.bd (E_X9_cellsWithin _ hK w lvf) (fun o2 h2 => ?_)
  subst h2
  obtain ⟨wn, hw4, hwn⟩ := w_nat hw
  refine Par.bd (P := fun r : Int32 × Int64 × Int32 × Int32 => r.1 = Int32.ofNat wn ∧ r.2.1.toBitVec.toNat = lnN (wiL lvf w) tm ∧ r.2.2.1 = mkI (wiL lvf w) ∧ r.2.2.2 = mkI (ntB (wiL lvf w))) (by
    have h9 := E_X8_aimW (n + 1) hK wn hw4 (wiL lvf w) hb6 tm x1 x2 x3 x4
    rw [← hwn] at h9
    rw [← hwn]
    exact h9) (fun a ha => ?_)
  obtain ⟨a1, a2, a3, a4⟩ := ha
  rw [a1, a3, a4]
  refine Par.bd (E_X8_findPair _ hK wn hw4 tm 0 a.2.1 (wiL lvf w) hb6 a2 LL sv stp po ps fv fk b1 b2 b3 fn fl sz us pg pk D M N dp ub hub hus hs hD hC hN hV hca) (fun r hr => ?_)
  have hp := hr.all hN hU hb6 hub
  rw [← hwn] at hp
  refine Par.br (fun h0 => Par.ret ⟨Or.inl ⟨rfl, ?_⟩, hr.2⟩) (fun h0 => Par.ret ⟨Or.inr ⟨rfl, ?_⟩, hr.2⟩)
  · rcases hp with ⟨_, h⟩ | ⟨h, _⟩
    · exact h
    · rw [h0] at h; exact absurd h (by decide)
  · rcases hp with ⟨h, _⟩ | ⟨_, h⟩
    · exact absurd h h0
    · exact Or.inr ⟨rfl, h⟩
set_option maxHeartbeats 4000000 in
theorem E_X9_safe (K : Nat) (hK : 1000000000 ≤ K) (w tm : Int32) (pn : Nat) (LL : List Nat) (sv : Nat → Nat → Int32) (lvf : Nat → Int32) (stp : Int32) (wp : Nat) (x1 : Int32) (x2 : Int64) (x3 x4 po ps : Int32) (fv : Nat → Int64) (fk : Nat → Int32) (b1 b2 b3 : Int32) (fn fl : Nat → Int32) (sz us : Int32) (pg : Nat → Option Nat) (pk : Nat → Int32) (D : List SRc) (M N dp : Nat → Nat) (ub : List Bool) (hub : ub.length = 6) (hus : us = mkI ub) (hU : UsD D (fun c => ub[c]? = some true)) (hs : sz.toInt = (D.length : Int)) (hD : D.length ≤ 30) (hC : CRw pg sv pk D M N) (hN : NsT D M N dp) (hV : VlD D) (hca : CaI D M N stp fv fk) : Par (F_X9_safe K w tm pn LL sv lvf stp wp x1 x2 x3 x4 po ps fv fk b1 b2 b3 fn fl sz us pg pk) (fun r => ((¬ AsP w tm ∧ r.1 = -1) ∨ (AsP w tm ∧ SfeP D M N w tm (wiL lvf w) r.1)) ∧ CaI D M N stp r.2.2.2.2.2.2.2.2.1 r.2.2.2.2.2.2.2.2.2.1) := by
  unfold F_X9_safe
  obtain ⟨n, rfl⟩ : ∃ n9, K = n9 + 1 := ⟨K - 1, by omega⟩
  rw [L_X9_safe_e0]; unfold B_X9_safe_0
  refine Par.bd (E_X9_isWatched _ hK w tm 0) (fun o1 h1 => ?_)
  rcases h1 with ⟨e1, q1⟩ | ⟨e1, q1⟩
  rotate_left
  · exact Par.yes e1 (Par.ret ⟨Or.inl ⟨fun h => q1 ⟨h.1, h.2, Or.inl rfl⟩, rfl⟩, hca⟩)
  refine Par.not (by rw [e1]; decide) ?_
  refine Par.bd (E_X9_isSafe _ hK w tm q1.1 pn LL sv lvf stp wp x1 x2 x3 x4 po ps fv fk b1 b2 b3 fn fl sz us pg pk D M N dp ub hub hus hU hs hD hC hN hV hca) (fun r hr => ?_)
  rcases hr with ⟨⟨r1, r2⟩ | ⟨r1, r2⟩, r3⟩
  · exact Par.not (by rw [r1]; decide) (Par.ret ⟨Or.inr ⟨⟨q1.1, q1.2.1⟩, Or.inl ⟨rfl, r2⟩⟩, r3⟩)
  · refine Par.yes r1 (Par.ret ⟨Or.inr ⟨⟨q1.1, q1.2.1⟩, Or.inr ⟨rfl, ?_⟩⟩, r3⟩)
    rcases r2 with ⟨h, _⟩ | ⟨_, k, m, h, _⟩
    · exact absurd h (by decide)
    · exact FstO_ns h
set_option maxHeartbeats 4000000 in
theorem E_X9_pair (K : Nat) (hK : 1000000000 ≤ K) (w tm l3 : Int32) (pn : Nat) (LL : List Nat) (sv : Nat → Nat → Int32) (lvf : Nat → Int32) (stp : Int32) (wp : Nat) (x1 : Int32) (x2 : Int64) (x3 x4 po ps : Int32) (fv : Nat → Int64) (fk : Nat → Int32) (b1 b2 b3 : Int32) (fn fl : Nat → Int32) (sz us : Int32) (pg : Nat → Option Nat) (pk : Nat → Int32) (D : List SRc) (M N dp : Nat → Nat) (ub : List Bool) (hub : ub.length = 6) (hus : us = mkI ub) (hU : UsD D (fun c => ub[c]? = some true)) (hs : sz.toInt = (D.length : Int)) (hD : D.length ≤ 30) (hC : CRw pg sv pk D M N) (hN : NsT D M N dp) (hV : VlD D) (hca : CaI D M N stp fv fk) : Par (F_X9_pair K w tm l3 pn LL sv lvf stp wp x1 x2 x3 x4 po ps fv fk b1 b2 b3 fn fl sz us pg pk) (fun r => ((¬ (AsP w tm ∧ (l3 = 0 ∨ l3 = 1)) ∧ r.1 = -1) ∨ ((AsP w tm ∧ (l3 = 0 ∨ l3 = 1)) ∧ PaiP D M N w tm (wiL lvf w) l3 r.1)) ∧ CaI D M N stp r.2.2.2.2.2.2.2.2.1 r.2.2.2.2.2.2.2.2.2.1) := by
  have hb6 := wiL_len lvf w
  have hn6 := ntB_len hb6
  unfold F_X9_pair
  obtain ⟨n, rfl⟩ : ∃ n9, K = n9 + 1 := ⟨K - 1, by omega⟩
  rw [L_X9_pair_e0]; unfold B_X9_pair_0
  refine Par.bd (E_X9_isWatched _ hK w tm l3) (fun o1 h1 => ?_)
  rcases h1 with ⟨e1, q1⟩ | ⟨e1, q1⟩
  rotate_left
  · exact Par.yes e1 (Par.ret ⟨Or.inl ⟨fun h => q1 ⟨h.1.1, h.1.2, h.2⟩, rfl⟩, hca⟩)
  refine Par.not (by rw [e1]; decide) ?_
  have hall : AsP w tm ∧ (l3 = 0 ∨ l3 = 1) := ⟨⟨q1.1, q1.2.1⟩, q1.2.2⟩
  refine Par.bd (E_X9_isSafe _ hK w tm q1.1 pn LL sv lvf stp wp x1 x2 x3 x4 po ps fv fk b1 b2 b3 fn fl sz us pg pk D M N dp ub hub hus hU hs hD hC hN hV hca) (fun r hr => ?_)
  rcases hr with ⟨⟨r1, r2⟩ | ⟨r1, r2⟩, r3⟩
  · exact Par.not (by rw [r1]; decide) (Par.ret ⟨Or.inr ⟨hall, Or.inl ⟨rfl, r2⟩⟩, r3⟩)
  · refine Par.yes r1 ?_
    rcases r2 with ⟨h, _⟩ | ⟨_, k, m, f1, f2, f3, f4, hk, hm⟩
    · exact absurd h (by decide)
    · refine Par.bd (E_X9_cellsWithin _ hK w lvf) (fun o2 h2 => ?_)
      subst h2
      rw [f3, f4, mkI_nt (wiL lvf w) hb6]
      refine Par.br (fun h0 => ?_) (fun h0 => ?_)
      · refine Par.bd (E_X9_gather _ hK (spB (anB (wiL lvf w) ub) k) (sp6 (anB_len hb6 hub) k) (wiL lvf w) hb6) (fun z hz => Par.ret ⟨Or.inr ⟨hall, Or.inr ⟨_, f1, Or.inl ⟨h0, ?_⟩⟩⟩, r3⟩)
        rw [gaB_sgm _ _ (by rw [hb6, hub])] at hz
        exact hz
      · refine Par.bd (E_X9_gather _ hK (spB (anB (ntB (wiL lvf w)) ub) m) (sp6 (anB_len hn6 hub) m) (ntB (wiL lvf w)) hn6) (fun z hz => Par.ret ⟨Or.inr ⟨hall, Or.inr ⟨_, f1, Or.inr ⟨hall.2.resolve_left h0, _, f2, ?_⟩⟩⟩, r3⟩)
        rw [gaB_sgm _ _ (by rw [hn6, hub])] at hz
        exact hz
