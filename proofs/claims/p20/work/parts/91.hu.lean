/-! stop, the class's side: telltales, the sets by their size -/
theorem on_tab : ∀ (n : Fin 9) (s : Fin 256), s.val < 2 ^ n.val → onN s.val ≤ n.val := by decide +kernel
theorem Saf_y {D : List SRc} {M N dp : Nat → Nat} {wo w t : Int32} {bs ub : List Bool} (hN : NsT D M N dp) (hU : UsD D (fun c => ub[c]? = some true)) (hb : bs.length = 6) (hu : ub.length = 6) (h : SafX D M N wo w t bs) {k m : Nat} (hk : k < 4 ^ cnB (anB bs ub)) (hm : m < 4 ^ cnB (anB (ntB bs) ub)) : HyR D M N wo w t bs ub k 0 m := by
  have hlo : bs.length = ub.length := by rw [hb, hu]
  have hls : (ntB bs).length = ub.length := by rw [ntB_len hb, hu]
  have h9 := (Hp_y hN hU hb hu _ _ _).mp (h (sgm bs ub k) (sgm_lt bs ub hlo k) (sgm (ntB bs) ub m) (sgm_lt (ntB bs) ub hls m))
  rw [tau_sgm bs ub hlo k hk, tau_sgm (ntB bs) ub hls m hm, tau_0 _ _ hls] at h9
  exact h9
def TlI (bs ub : List Bool) (tt : Int32) (fo fs : Nat → Int32) : Prop := ∃ m : Nat, tt.toInt = (m : Int) ∧ m ≤ 256 ∧ ∀ j : Nat, j < m → ∃ k i : Nat, k < 4 ^ cnB (anB bs ub) ∧ i < 4 ^ cnB (anB (ntB bs) ub) ∧ fo j = Int32.ofNat (spB (anB bs ub) k) ∧ fs j = Int32.ofNat (spB (anB (ntB bs) ub) i)
abbrev R13s : Type := Int32 × Int32 × Int32 × Int32 × (Nat → Int64) × (Nat → Int32) × (Nat → Int32) × (Nat → Int32) × Int32 × Int32 × Int32 × (Nat → Int32) × (Nat → Int32)
def SwoQ (D : List SRc) (M N : Nat → Nat) (stp wo w t : Int32) (bs ub : List Bool) (r : R13s) : Prop := ((r.1 = 1 ∧ SafX D M N wo w t bs) ∨ (r.1 = 0 ∧ ¬ SafX D M N wo w t bs)) ∧ CaI D M N stp r.2.2.2.2.1 r.2.2.2.2.2.1 ∧ TlI bs ub r.2.1 r.2.2.2.2.2.2.1 r.2.2.2.2.2.2.2.1
set_option maxHeartbeats 4000000 in
theorem E_X8_isSafeWithout (K : Nat) (hK : 1000000000 ≤ K) (w : Nat) (hw : w < 4) (t wo : Int32) (ln : Int64) (bs : List Bool) (hb6 : bs.length = 6) (hln : ln.toBitVec.toNat = lnN bs t) (LL : List Nat) (sv : Nat → Nat → Int32) (stp tt po ps : Int32) (fv : Nat → Int64) (fk fo fs : Nat → Int32) (b1 b2 b3 : Int32) (fn fl : Nat → Int32) (sz us : Int32) (pg : Nat → Option Nat) (pk : Nat → Int32) (D : List SRc) (M N dp : Nat → Nat) (ub : List Bool) (hub : ub.length = 6) (hus : us = mkI ub) (hU : UsD D (fun c => ub[c]? = some true)) (hs : sz.toInt = (D.length : Int)) (hD : D.length ≤ 30) (hC : CRw pg sv pk D M N) (hN : NsT D M N dp) (hV : VlD D) (hca : CaI D M N stp fv fk) (htl : TlI bs ub tt fo fs) : Par (F_X8_isSafeWithout K wo LL sv stp tt (Int32.ofNat w) ln (mkI bs) (mkI (ntB bs)) po ps fv fk fo fs b1 b2 b3 fn fl sz us pg pk) (SwoQ D M N stp wo (Int32.ofNat w) t bs ub) := by
  subst hus
  have hn6 := ntB_len hb6
  have hto := anB_len hb6 hub
  have hts := anB_len hn6 hub
  unfold F_X8_isSafeWithout
  obtain ⟨n, rfl⟩ : ∃ n9, K = n9 + 1 := ⟨K - 1, by omega⟩
  rw [L_X8_isSafeWithout_e0]; unfold B_X8_isSafeWithout_0
  have two : ∀ (q : Nat) (l2 : Int32) (fv : Nat → Int64) (fk : Nat → Int32) (b1 b2 b3 : Int32) (fn fl : Nat → Int32), CaI D M N stp fv fk → Par (L_X8_isSafeWithout (n + 1) q 2 wo l2 LL sv stp tt (Int32.ofNat w) ln (mkI bs) (mkI (ntB bs)) po ps fv fk fo fs b1 b2 b3 fn fl sz (mkI ub) pg pk) (SwoQ D M N stp wo (Int32.ofNat w) t bs ub) := by
    intro q l2 fv fk b1 b2 b3 fn fl hca
    cases q with
    | zero => exact Par.no
    | succ q =>
      rw [L_X8_isSafeWithout_e2]; unfold B_X8_isSafeWithout_2
      refine Par.bd (E_X8_findPair _ hK w hw t wo ln bs hb6 hln LL sv stp po ps fv fk b1 b2 b3 fn fl sz (mkI ub) pg pk D M N dp ub hub rfl hs hD hC hN hV hca) (fun r hr => ?_)
      have hp := hr.all hN hU hb6 hub
      refine Par.br (fun h0 => Par.ret ⟨Or.inl ⟨rfl, ?_⟩, hr.2, htl⟩) (fun h0 => ?_)
      · rcases hp with ⟨_, h⟩ | ⟨h, _⟩
        · exact h
        · rw [h0] at h; exact absurd h (by decide)
      · rcases hp with ⟨h, _⟩ | ⟨_, k, i, f1, f2, f3, f4, hk, hi⟩
        · exact absurd h h0
        · have three : ∀ (q : Nat) (tt : Int32) (fo fs : Nat → Int32), TlI bs ub tt fo fs → Par (L_X8_isSafeWithout (n + 1) q 3 wo l2 LL sv stp tt (Int32.ofNat w) ln (mkI bs) (mkI (ntB bs)) r.2.1 r.2.2.1 r.2.2.2.1 r.2.2.2.2.1 fo fs r.2.2.2.2.2.1 r.2.2.2.2.2.2.1 r.2.2.2.2.2.2.2.1 r.2.2.2.2.2.2.2.2.1 r.2.2.2.2.2.2.2.2.2 sz (mkI ub) pg pk) (SwoQ D M N stp wo (Int32.ofNat w) t bs ub) := by
            intro q tt fo fs hx
            cases q with
            | zero => exact Par.no
            | succ q =>
              rw [L_X8_isSafeWithout_e3]; unfold B_X8_isSafeWithout_3
              exact Par.ret ⟨Or.inr ⟨rfl, FstO_ns f1⟩, hr.2, hx⟩
          obtain ⟨m, m1, m2, m3⟩ := htl
          refine Par.br (fun hge => three q tt fo fs ⟨m, m1, m2, m3⟩) (fun hlt => ?_)
          rw [Int32.le_iff_toInt_le, m1] at hlt
          simp only [Int32.reduceToInt] at hlt
          refine Par.br (fun _ => Par.br (fun _ => ?_) (fun _ => Par.no)) (fun _ => Par.no)
          rw [cl1 tt m m1]
          refine three q _ _ _ ⟨m + 1, ad1 tt m m1 (by omega), by omega, fun j hj => ?_⟩
          by_cases e : j = m
          · subst e
            exact ⟨k, i, hk, hi, by rw [upd_eq]; exact f3, by rw [upd_eq]; exact f4⟩
          · rw [upd_ne _ _ e, upd_ne _ _ e]
            exact m3 j (by omega)
  have one : ∀ (q j : Nat) (l2 : Int32) (fv : Nat → Int64) (fk : Nat → Int32) (b1 b2 b3 : Int32) (fn fl : Nat → Int32), l2.toInt = (j : Int) → j ≤ 256 → CaI D M N stp fv fk → Par (L_X8_isSafeWithout (n + 1) q 1 wo l2 LL sv stp tt (Int32.ofNat w) ln (mkI bs) (mkI (ntB bs)) po ps fv fk fo fs b1 b2 b3 fn fl sz (mkI ub) pg pk) (SwoQ D M N stp wo (Int32.ofNat w) t bs ub) := by
    intro q
    induction q using Nat.strongRecOn with
    | _ q ih =>
    intro j l2 fv fk b1 b2 b3 fn fl h2 hj hca
    obtain ⟨m, m1, m2, m3⟩ := id htl
    cases q with
    | zero => exact Par.no
    | succ q =>
      rw [L_X8_isSafeWithout_e1]; unfold B_X8_isSafeWithout_1
      refine Par.br (fun h => two q _ _ _ _ _ _ _ _ hca) (fun h => ?_)
      rw [Int32.le_iff_toInt_le, m1, h2] at h
      refine Par.br (fun h => two q _ _ _ _ _ _ _ _ hca) (fun h256 => ?_)
      obtain ⟨k, i, hk, hi, e1, e2⟩ := m3 j (by omega)
      refine Par.br (fun _ => ?_) (fun _ => Par.no)
      rw [cl1 l2 j h2, e1, e2]
      refine Par.bd (E_X8_look _ hK (spB (anB bs ub) k) w (sp6 hto k) hw wo LL sv stp fv fk b1 b2 b3 fn fl sz (mkI ub) pg pk D M N dp ub hub rfl hs hD hC hN hV hca) (fun r hr => ?_)
      refine Par.br (fun _ => ?_) (fun _ => Par.no)
      refine Par.bd (E_lookO _ hK (spB (anB bs ub) k) w (sp6 hto k) hw (anB (ntB bs) ub) hts i wo LL sv stp _ _ _ _ _ _ _ sz (mkI ub) pg pk D M N dp ub hub rfl hs hD hC hN hV hr.2) (fun u hu => ?_)
      obtain ⟨u1, _, u3⟩ := hu
      rw [u1, vwZ_of hr.1, ← kY_0]
      have heq := pw_eq (D := D) (M := M) (N := N) (wo := wo) hV (w := w) (t := t) hb6 hln (kY bs ub k i) (kY bs ub k 0)
      refine Par.br (fun hc => ih q (by omega) (j + 1) _ _ _ _ _ _ _ _ (ad1 l2 j h2 (by omega)) (by omega) u3) (fun hc => Par.ret ⟨Or.inr ⟨rfl, fun hsf => ?_⟩, u3, htl⟩)
      exact hc ((lgq _ _).mpr (heq.mpr (SAl_sy (Saf_y hN hU hb6 hub hsf hk hi))))
  exact one n 0 0 _ _ _ _ _ _ _ rfl (Nat.zero_le _) hca
def FewQ (D : List SRc) (M N : Nat → Nat) (stp w t : Int32) (bs ub : List Bool) (n : Nat) (r : R13s) : Prop := ((r.1 = -1 ∧ ∀ s : Nat, s < 2 ^ n → ¬ SafX D M N (Int32.ofNat s) w t bs) ∨ ∃ s : Nat, FewP (fun s => SafX D M N (Int32.ofNat s) w t bs) n s ∧ r.1 = Int32.ofNat s) ∧ CaI D M N stp r.2.2.2.2.1 r.2.2.2.2.2.1
set_option maxHeartbeats 4000000 in
theorem E_X8_fewestStopped (K : Nat) (hK : 1000000000 ≤ K) (w : Nat) (hw : w < 4) (t : Int32) (ln : Int64) (bs : List Bool) (hb6 : bs.length = 6) (hln : ln.toBitVec.toNat = lnN bs t) (LL : List Nat) (sv : Nat → Nat → Int32) (stp tt po ps : Int32) (fv : Nat → Int64) (fk fo fs : Nat → Int32) (b1 b2 b3 : Int32) (fn fl : Nat → Int32) (sz ou us : Int32) (pg : Nat → Option Nat) (pk : Nat → Int32) (D : List SRc) (M N dp : Nat → Nat) (ub : List Bool) (hub : ub.length = 6) (hus : us = mkI ub) (hU : UsD D (fun c => ub[c]? = some true)) (hs : sz.toInt = (D.length : Int)) (hD : D.length ≤ 30) (hC : CRw pg sv pk D M N) (hN : NsT D M N dp) (hV : VlD D) (hca : CaI D M N stp fv fk) (n8 : Nat) (hou : ou = Int32.ofNat n8) (hn8 : n8 ≤ 8) : Par (F_X8_fewestStopped K LL sv stp tt (Int32.ofNat w) ln (mkI bs) (mkI (ntB bs)) po ps fv fk fo fs b1 b2 b3 fn fl sz ou us pg pk) (FewQ D M N stp (Int32.ofNat w) t bs ub n8) := by
  subst hus
  subst hou
  unfold F_X8_fewestStopped
  obtain ⟨n, rfl⟩ : ∃ n9, K = n9 + 1 := ⟨K - 1, by omega⟩
  rw [L_X8_fewestStopped_e0]; unfold B_X8_fewestStopped_0
  have hni : (Int32.ofNat n8).toInt = (n8 : Int) := ofn_i n8 (by omega)
  have c8 : (8 : Int32).toInt = 8 := by decide
  have hmin : (if 8 < Int32.ofNat n8 then 8 else Int32.ofNat n8 : Int32) = Int32.ofNat n8 := by
    rw [if_neg]
    rw [Int32.lt_iff_toInt_lt, hni, c8]
    omega
  rw [hmin]
  obtain ⟨t1, t2⟩ := sh_tab ⟨n8, by omega⟩
  simp only at t1 t2
  have h2i : (Int32.ofNat (2 ^ n8)).toInt = ((2 ^ n8 : Nat) : Int) := ofn_i _ (by omega)
  have key : ∀ q : Nat, (∀ (z : Nat) (l3 tt po ps : Int32) (fv : Nat → Int64) (fk fo fs : Nat → Int32) (b1 b2 b3 : Int32) (fn fl : Nat → Int32), z ≤ n8 + 1 → CaI D M N stp fv fk → TlI bs ub tt fo fs → (∀ j : Nat, j < 2 ^ n8 → onN j < z → ¬ SafX D M N (Int32.ofNat j) (Int32.ofNat w) t bs) → Par (L_X8_fewestStopped (n + 1) q 1 (Int32.ofNat n8) (Int32.ofNat z) l3 LL sv stp tt (Int32.ofNat w) ln (mkI bs) (mkI (ntB bs)) po ps fv fk fo fs b1 b2 b3 fn fl sz (Int32.ofNat n8) (mkI ub) pg pk) (FewQ D M N stp (Int32.ofNat w) t bs ub n8)) ∧
      (∀ (z s : Nat) (tt po ps : Int32) (fv : Nat → Int64) (fk fo fs : Nat → Int32) (b1 b2 b3 : Int32) (fn fl : Nat → Int32), z ≤ n8 → s ≤ 2 ^ n8 → CaI D M N stp fv fk → TlI bs ub tt fo fs → (∀ j : Nat, j < 2 ^ n8 → (onN j < z ∨ (onN j = z ∧ j < s)) → ¬ SafX D M N (Int32.ofNat j) (Int32.ofNat w) t bs) → Par (L_X8_fewestStopped (n + 1) q 2 (Int32.ofNat n8) (Int32.ofNat z) (Int32.ofNat s) LL sv stp tt (Int32.ofNat w) ln (mkI bs) (mkI (ntB bs)) po ps fv fk fo fs b1 b2 b3 fn fl sz (Int32.ofNat n8) (mkI ub) pg pk) (FewQ D M N stp (Int32.ofNat w) t bs ub n8)) := by
    intro q
    induction q using Nat.strongRecOn with
    | _ q ih =>
    refine ⟨?_, ?_⟩
    · intro z l3 tt po ps fv fk fo fs b1 b2 b3 fn fl hz hca htl hno
      have hzi : (Int32.ofNat z).toInt = (z : Int) := ofn_i z (by omega)
      cases q with
      | zero => exact Par.no
      | succ q =>
        rw [L_X8_fewestStopped_e1]; unfold B_X8_fewestStopped_1
        refine Par.br (fun h => Par.ret ⟨Or.inl ⟨rfl, fun s hs9 => hno s hs9 ?_⟩, hca⟩) (fun h => ?_)
        · rw [Int32.lt_iff_toInt_lt, hni, hzi] at h
          have := on_tab ⟨n8, by omega⟩ ⟨s, by omega⟩ hs9
          simp only at this
          omega
        · rw [Int32.lt_iff_toInt_lt, hni, hzi] at h
          exact (ih q (by omega)).2 z 0 tt po ps fv fk fo fs b1 b2 b3 fn fl (by omega) (Nat.zero_le _) hca htl (fun j hj hj2 => by
            rcases hj2 with c | ⟨_, c⟩
            · exact hno j hj c
            · exact absurd c (Nat.not_lt_zero _))
    · intro z s tt po ps fv fk fo fs b1 b2 b3 fn fl hz hs9 hca htl hno
      have hsi : (Int32.ofNat s).toInt = (s : Int) := ofn_i s (by omega)
      cases q with
      | zero => exact Par.no
      | succ q =>
        rw [L_X8_fewestStopped_e2]; unfold B_X8_fewestStopped_2
        rw [t1]
        refine Par.br (fun h => ?_) (fun h => ?_)
        · rw [Int32.le_iff_toInt_le, h2i, hsi] at h
          rw [of_s z (by omega)]
          exact (ih q (by omega)).1 (z + 1) 0 tt po ps fv fk fo fs b1 b2 b3 fn fl (by omega) hca htl (fun j hj hj2 => hno j hj (by omega))
        · rw [Int32.le_iff_toInt_le, h2i, hsi] at h
          have hs2 : s < 2 ^ n8 := by omega
          have three : ∀ (q2 : Nat) (tt po ps : Int32) (fv : Nat → Int64) (fk fo fs : Nat → Int32) (b1 b2 b3 : Int32) (fn fl : Nat → Int32), q2 < q + 1 → CaI D M N stp fv fk → TlI bs ub tt fo fs → (onN s = z → ¬ SafX D M N (Int32.ofNat s) (Int32.ofNat w) t bs) → Par (L_X8_fewestStopped (n + 1) q2 3 (Int32.ofNat n8) (Int32.ofNat z) (Int32.ofNat s) LL sv stp tt (Int32.ofNat w) ln (mkI bs) (mkI (ntB bs)) po ps fv fk fo fs b1 b2 b3 fn fl sz (Int32.ofNat n8) (mkI ub) pg pk) (FewQ D M N stp (Int32.ofNat w) t bs ub n8) := by
            intro q2 tt po ps fv fk fo fs b1 b2 b3 fn fl hq2 hca htl hns
            cases q2 with
            | zero => exact Par.no
            | succ q2 =>
              rw [L_X8_fewestStopped_e3]; unfold B_X8_fewestStopped_3
              rw [of_s s (by omega)]
              refine (ih q2 (by omega)).2 z (s + 1) tt po ps fv fk fo fs b1 b2 b3 fn fl hz (by omega) hca htl (fun j hj hj2 => ?_)
              by_cases e : j = s
              · subst e
                rcases hj2 with c | ⟨c, _⟩
                · exact hno j hj (Or.inl c)
                · exact hns c
              · exact hno j hj (by omega)
          refine Par.bd (E_J6_bits _ hK s (by omega)) (fun o ho => ?_)
          subst ho
          have hon := onK_le s 8
          have hon' : onN s ≤ 8 := hon
          refine Par.br (fun hc => ?_) (fun hc => three q _ _ _ _ _ _ _ _ _ _ _ _ (by omega) hca htl (fun e => absurd (by rw [e]) hc))
          have hz9 : onN s = z := i_nat (by omega) (by omega) hc
          refine Par.bd (E_X8_isSafeWithout _ hK w hw t (Int32.ofNat s) ln bs hb6 hln LL sv stp tt po ps fv fk fo fs b1 b2 b3 fn fl sz (mkI ub) pg pk D M N dp ub hub rfl hU hs hD hC hN hV hca htl) (fun r hr => ?_)
          obtain ⟨r1, r2, r3⟩ := hr
          rcases r1 with ⟨r1, r4⟩ | ⟨r1, r4⟩
          · refine Par.not (by rw [r1]; decide) (Par.ret ⟨Or.inr ⟨s, ⟨hs2, r4, fun j hj hp => ?_⟩, rfl⟩, r2⟩)
            rcases Nat.lt_trichotomy (onN j) z with c | c | c
            · exact absurd hp (hno j hj (Or.inl c))
            · rcases Nat.lt_or_ge j s with d | d
              · exact absurd hp (hno j hj (Or.inr ⟨c, d⟩))
              · exact Or.inr ⟨by omega, d⟩
            · exact Or.inl (by omega)
          · exact Par.yes r1 (three q _ _ _ _ _ _ _ _ _ _ _ _ (by omega) r2 r3 (fun _ => r4))
  exact (key n).1 0 0 0 po ps fv fk fo fs b1 b2 b3 fn fl (Nat.zero_le _) hca ⟨0, rfl, by omega, fun j hj => absurd hj (Nat.not_lt_zero _)⟩ (fun j _ hj => absurd hj (Nat.not_lt_zero _))
abbrev R18s : Type := Int32 × Int32 × Nat × Int32 × Int64 × Int32 × Int32 × Int32 × Int32 × (Nat → Int64) × (Nat → Int32) × (Nat → Int32) × (Nat → Int32) × Int32 × Int32 × Int32 × (Nat → Int32) × (Nat → Int32)
set_option maxHeartbeats 4000000 in
theorem E_X9_stop (K : Nat) (hK : 1000000000 ≤ K) (w tm l3 : Int32) (pn : Nat) (LL : List Nat) (sv : Nat → Nat → Int32) (lvf : Nat → Int32) (stp tt : Int32) (wp : Nat) (x1 : Int32) (x2 : Int64) (x3 x4 po ps : Int32) (fv : Nat → Int64) (fk fo fs : Nat → Int32) (b1 b2 b3 : Int32) (fn fl : Nat → Int32) (sz ou us : Int32) (pg : Nat → Option Nat) (pk : Nat → Int32) (D : List SRc) (M N dp : Nat → Nat) (ub : List Bool) (hub : ub.length = 6) (hus : us = mkI ub) (hU : UsD D (fun c => ub[c]? = some true)) (hs : sz.toInt = (D.length : Int)) (hou : ou.toInt = (cn1 D : Int)) (hD : D.length ≤ 30) (hC : CRw pg sv pk D M N) (hN : NsT D M N dp) (hV : VlD D) (hca : CaI D M N stp fv fk) : Par (F_X9_stop K w tm l3 pn LL sv lvf stp tt wp x1 x2 x3 x4 po ps fv fk fo fs b1 b2 b3 fn fl sz ou us pg pk) (fun r : R18s => ((¬ (AsP w tm ∧ (l3 = 0 ∨ l3 = 1)) ∧ r.1 = -1) ∨ ((AsP w tm ∧ (l3 = 0 ∨ l3 = 1)) ∧ StoP D M N w tm (wiL lvf w) (cn1 D) l3 r.1)) ∧ CaI D M N stp r.2.2.2.2.2.2.2.2.2.1 r.2.2.2.2.2.2.2.2.2.2.1) := by
  have hb6 := wiL_len lvf w
  unfold F_X9_stop
  obtain ⟨n, rfl⟩ : ∃ n9, K = n9 + 1 := ⟨K - 1, by omega⟩
  rw [L_X9_stop_e0]; unfold B_X9_stop_0
  have c8 : (8 : Int32).toInt = 8 := by decide
  refine Par.bd (E_X9_isWatched _ hK w tm l3) (fun o1 h1 => ?_)
  rcases h1 with ⟨e1, q1⟩ | ⟨e1, q1⟩
  rotate_left
  · exact Par.yes e1 (Par.ret ⟨Or.inl ⟨fun h => q1 ⟨h.1.1, h.1.2, h.2⟩, rfl⟩, hca⟩)
  refine Par.not (by rw [e1]; decide) ?_
  have hall : AsP w tm ∧ (l3 = 0 ∨ l3 = 1) := ⟨⟨q1.1, q1.2.1⟩, q1.2.2⟩
  refine Par.br (fun hle => ?_) (fun hgt => Par.ret ⟨Or.inr ⟨hall, Or.inl ⟨?_, rfl⟩⟩, hca⟩)
  rotate_left
  · rw [Int32.le_iff_toInt_le, hou, c8] at hgt
    omega
  rw [Int32.le_iff_toInt_le, hou, c8] at hle
  have hn8 : cn1 D ≤ 8 := by omega
  have ho4 : ou = Int32.ofNat (cn1 D) := Int32.toInt_inj.mp (by rw [hou, ofn_i _ (by omega)])
  refine Par.bd (E_X9_cellsWithin _ hK w lvf) (fun o2 h2 => ?_)
  subst h2
  obtain ⟨wn, hw4, hwn⟩ := w_nat q1.1
  refine Par.bd (P := fun r : Int32 × Int64 × Int32 × Int32 => r.1 = Int32.ofNat wn ∧ r.2.1.toBitVec.toNat = lnN (wiL lvf w) tm ∧ r.2.2.1 = mkI (wiL lvf w) ∧ r.2.2.2 = mkI (ntB (wiL lvf w))) (by
    have h9 := E_X8_aimW (n + 1) hK wn hw4 (wiL lvf w) hb6 tm x1 x2 x3 x4
    rw [← hwn] at h9
    rw [← hwn]
    exact h9) (fun a ha => ?_)
  obtain ⟨a1, a2, a3, a4⟩ := ha
  rw [a1, a3, a4]
  refine Par.bd (E_X8_fewestStopped _ hK wn hw4 tm a.2.1 (wiL lvf w) hb6 a2 LL sv stp tt po ps fv fk fo fs b1 b2 b3 fn fl sz ou us pg pk D M N dp ub hub hus hU hs hD hC hN hV hca (cn1 D) ho4 hn8) (fun r hr => ?_)
  obtain ⟨hr, hrc⟩ := hr
  rw [← hwn] at hr
  obtain ⟨t1, t2⟩ := sh_tab ⟨cn1 D, by omega⟩
  simp only at t1 t2
  rcases hr with ⟨r1, r2⟩ | ⟨s, r1, r2⟩
  · refine Par.not (by rw [r1]; decide) (Par.ret ⟨Or.inr ⟨hall, Or.inr ⟨hn8, Or.inl ⟨rfl, r2⟩⟩⟩, hrc⟩)
  · have hs9 := r1.1
    refine Par.yes (by rw [r2, Int32.le_iff_toInt_le, ofn_i _ (by omega)]; simp only [Int32.reduceToInt]; omega) ?_
    refine Par.br (fun h0 => ?_) (fun h0 => Par.ret ⟨Or.inr ⟨hall, Or.inr ⟨hn8, Or.inr ⟨s, r1, Or.inr ⟨hall.2.resolve_left h0, r2⟩⟩⟩⟩, hrc⟩)
    rw [r2]
    refine Par.bd (E_J6_bits _ hK s (by omega)) (fun v hv => Par.ret ⟨Or.inr ⟨hall, Or.inr ⟨hn8, Or.inr ⟨s, r1, Or.inl ⟨h0, ?_⟩⟩⟩⟩, hrc⟩)
    have hon : onN s ≤ 8 := onK_le s 8
    show v.toInt = _
    rw [hv, ofn_i _ (by omega)]
