/-! the class's face: heaps, heap, together -/
theorem VwN_lt {w : Int32} {F : RSt} (hO : OkS F) (hV : OkO F) : VwN w F < 2 ^ 64 := by
  have h1 := snN_lt (vsL_4 (w := w) hV) vsL_len
  obtain ⟨h2, _⟩ := PkW_n (orV_pk hO.1)
  have h3 := hO.2.1
  unfold VwN
  omega
theorem vwZ_v {w : Int32} {F : RSt} (hO : OkS F) (hV : OkO F) : (vwZ w F).toBitVec.toNat = VwN w F := by
  have e : (vwZ w F).toBitVec = BitVec.ofNat 64 (VwN w F) := rfl
  rw [e, BitVec.toNat_ofNat, Nat.mod_eq_of_lt (VwN_lt hO hV)]
theorem pv_eq {D : List SRc} {M N : Nat → Nat} (hV : VlD D) {w : Nat} {t : Int32} {bs : List Bool} (hb : bs.length = 6) {ln : Int64} (hl : ln.toBitVec.toNat = lnN bs t) {x0 : Nat} {tr ub : List Bool} (i j : Nat) : pvO D M N w ln x0 tr ub i = pvO D M N w ln x0 tr ub j ↔ SAl (Int32.ofNat w) t bs (FnR D M N 0 (kX x0 tr ub i)) (FnR D M N 0 (kX x0 tr ub j)) := by
  obtain ⟨f1, f2⟩ := FnR_ok (D := D) (M := M) (N := N) (wo := 0) (x := kX x0 tr ub i) hV
  obtain ⟨g1, g2⟩ := FnR_ok (D := D) (M := M) (N := N) (wo := 0) (x := kX x0 tr ub j) hV
  exact vw_eq hb f1 f2 g1 g2 (vwZ_v f1 f2) (vwZ_v g1 g2) hl
theorem E_X8_untried (K : Nat) (hK : 1000000000 ≤ K) (hd ub : List Bool) (hhd : hd.length = 6) (hub : ub.length = 6) : Par (F_X8_untriedSecrets K (mkI hd) (mkI ub)) (fun r => r = Int32.ofNat (4 ^ cnB (anB hd (ntB ub)))) := by
  unfold F_X8_untriedSecrets
  obtain ⟨n, rfl⟩ : ∃ n9, K = n9 + 1 := ⟨K - 1, by omega⟩
  rw [L_X8_untriedSecrets_e0]; unfold B_X8_untriedSecrets_0
  rw [mkI_dn hd hhd ub hub]
  exact Par.bd (E_X9_numbersOf _ hK _ (anB_len hhd (ntB_len hub))) (fun o h => Par.ret h)
theorem w_nat {w : Int32} (h : 0 ≤ w.toInt ∧ w.toInt ≤ 3) : ∃ wn : Nat, wn < 4 ∧ w = Int32.ofNat wn := by
  refine ⟨w.toInt.toNat, by omega, Int32.toInt_inj.mp ?_⟩
  rw [ofn_i _ (by omega)]
  omega
section FACE
variable {D : List SRc} {M N dp : Nat → Nat} {w t : Int32} {bs ub : List Bool}
theorem nd_hp (hN : NsT D M N dp) (hU : UsD D (fun c => ub[c]? = some true)) (hb : bs.length = 6) (hu : ub.length = 6) (o : Nat) : ndQ (HpR D M N 0 w t bs o) (4 ^ cnB (ntB bs)) = ndQ (HkR D M N 0 w t bs ub o) (4 ^ cnB (anB (ntB bs) ub)) := nd_tau (by rw [ntB_len hb, hu]) (fun a b _ _ => HpR_tau hN hU hb hu o a b) (fun a => SAl_rf _)
theorem cnt_hp (hN : NsT D M N dp) (hU : UsD D (fun c => ub[c]? = some true)) (hb : bs.length = 6) (hu : ub.length = 6) (o s : Nat) : cntQ (HpR D M N 0 w t bs o s) (4 ^ cnB (ntB bs)) = 4 ^ cnB (anB (ntB bs) (ntB ub)) * cntQ (HkR D M N 0 w t bs ub o (tau (ntB bs) ub s)) (4 ^ cnB (anB (ntB bs) ub)) := by
  rw [← cnt_tau (ntB bs) ub (by rw [ntB_len hb, hu])]
  exact cntQ_congr (fun a _ => HpR_tau hN hU hb hu o s a)
theorem gm_hp (hN : NsT D M N dp) (hU : UsD D (fun c => ub[c]? = some true)) (hb : bs.length = 6) (hu : ub.length = 6) (o : Nat) {g r : Int32} (hg : GmX (HkR D M N 0 w t bs ub o) (4 ^ cnB (anB (ntB bs) ub)) g.toInt) (hr : r = g * Int32.ofNat (4 ^ cnB (anB (ntB bs) (ntB ub)))) : GmX (HpR D M N 0 w t bs o) (4 ^ cnB (ntB bs)) r.toInt := by
  have hl : (ntB bs).length = ub.length := by rw [ntB_len hb, hu]
  obtain ⟨g1, k, hk, g2⟩ := hg
  have hs := sgm_lt (ntB bs) ub hl k
  have e1 := tau_sgm (ntB bs) ub hl k hk
  have e2 := cnt_hp (w := w) (t := t) hN hU hb hu o (sgm (ntB bs) ub k)
  rw [e1] at e2
  have hle := cntQ_le (HpR D M N 0 w t bs o (sgm (ntB bs) ub k)) (4 ^ cnB (ntB bs))
  obtain ⟨p1, _⟩ := p4_le (ntB_len hb)
  obtain ⟨p2, p3⟩ := p4_le (anB_len (ntB_len hb) (ntB_len hu))
  have hu9 : (Int32.ofNat (4 ^ cnB (anB (ntB bs) (ntB ub)))).toInt = ((4 ^ cnB (anB (ntB bs) (ntB ub)) : Nat) : Int) := ofn_i _ (by omega)
  have hm : g.toInt * ((4 ^ cnB (anB (ntB bs) (ntB ub)) : Nat) : Int) = (cntQ (HpR D M N 0 w t bs o (sgm (ntB bs) ub k)) (4 ^ cnB (ntB bs)) : Int) := by
    rw [g2, e2, Int.natCast_mul, Int.mul_comm]
  have hrr : r.toInt = (cntQ (HpR D M N 0 w t bs o (sgm (ntB bs) ub k)) (4 ^ cnB (ntB bs)) : Int) := by
    rw [hr, Int32.toInt_mul, hu9, hm]
    exact bmI (by omega) (by omega)
  refine ⟨fun s hs9 => ?_, sgm (ntB bs) ub k, hs, hrr⟩
  rw [hrr, e2, cnt_hp hN hU hb hu o s]
  have h9 := g1 (tau (ntB bs) ub s) (tau_lt (ntB bs) ub hl s)
  rw [g2] at h9
  have h8 : cntQ (HkR D M N 0 w t bs ub o (tau (ntB bs) ub s)) (4 ^ cnB (anB (ntB bs) ub)) ≤ cntQ (HkR D M N 0 w t bs ub o k) (4 ^ cnB (anB (ntB bs) ub)) := by omega
  exact Int.ofNat_le.mpr (Nat.mul_le_mul_left _ h8)
end FACE
theorem E_X8_aimW (K : Nat) (hK : 1000000000 ≤ K) (w : Nat) (hw : w < 4) (bs : List Bool) (hb : bs.length = 6) (t a1 : Int32) (a2 : Int64) (a3 a4 : Int32) : Par (F_X8_aim K (Int32.ofNat w) (mkI bs) t a1 a2 a3 a4) (fun r => r.1 = Int32.ofNat w ∧ r.2.1.toBitVec.toNat = lnN bs t ∧ r.2.2.1 = mkI bs ∧ r.2.2.2 = mkI (ntB bs)) := E_X8_aim K hK w hw bs hb t a1 a2 a3 a4
abbrev R20c : Type := Int32 × Nat × Int32 × Int64 × Int32 × Int32 × (Nat → Int64) × (Nat → Int32) × Int32 × Int32 × Int32 × (Nat → Int32) × (Nat → Int32) × Int32 × Int32 × Int32 × (Nat → Int64) × (Nat → Int64) × (Nat → Int32) × (Nat → Int32)
set_option maxHeartbeats 4000000 in
theorem E_X9_heaps (K : Nat) (hK : 1000000000 ≤ K) (w tm l3 l4 : Int32) (pn : Nat) (LL : List Nat) (sv : Nat → Nat → Int32) (lvf : Nat → Int32) (stp : Int32) (wp : Nat) (x1 : Int32) (x2 : Int64) (x3 x4 : Int32) (fv : Nat → Int64) (fk : Nat → Int32) (b1 b2 b3 : Int32) (fn fl : Nat → Int32) (t1 t2 t3 : Int32) (gf gs : Nat → Int64) (gz go : Nat → Int32) (sz us : Int32) (pg : Nat → Option Nat) (pk : Nat → Int32) (D : List SRc) (M N dp : Nat → Nat) (ub : List Bool) (hub : ub.length = 6) (hus : us = mkI ub) (hU : UsD D (fun c => ub[c]? = some true)) (hs : sz.toInt = (D.length : Int)) (hD : D.length ≤ 30) (hC : CRw pg sv pk D M N) (hN : NsT D M N dp) (hV : VlD D) (hca : CaI D M N stp fv fk) : Par (F_X9_heaps K w tm l3 l4 pn LL sv lvf stp wp x1 x2 x3 x4 fv fk b1 b2 b3 fn fl t1 t2 t3 gf gs gz go sz us pg pk) (fun r => ((¬ (AsP w tm ∧ OpP (wiL lvf w) l3 ∧ (l4 = 0 ∨ l4 = 1)) ∧ r.1 = -1) ∨ ((AsP w tm ∧ OpP (wiL lvf w) l3 ∧ (l4 = 0 ∨ l4 = 1)) ∧ HeaP D M N w tm (wiL lvf w) l3 l4 r.1)) ∧ CaI D M N stp r.2.2.2.2.2.2.1 r.2.2.2.2.2.2.2.1) := by
  have hb6 := wiL_len lvf w
  unfold F_X9_heaps
  obtain ⟨n, rfl⟩ : ∃ n9, K = n9 + 1 := ⟨K - 1, by omega⟩
  rw [L_X9_heaps_e0]; unfold B_X9_heaps_0
  generalize hQ : (fun r : R20c => ((¬ (AsP w tm ∧ OpP (wiL lvf w) l3 ∧ (l4 = 0 ∨ l4 = 1)) ∧ r.1 = -1) ∨ ((AsP w tm ∧ OpP (wiL lvf w) l3 ∧ (l4 = 0 ∨ l4 = 1)) ∧ HeaP D M N w tm (wiL lvf w) l3 l4 r.1)) ∧ CaI D M N stp r.2.2.2.2.2.2.1 r.2.2.2.2.2.2.2.1) = Q
  refine Par.bd (E_X9_isWatched _ hK w tm l4) (fun o1 h1 => ?_)
  rcases h1 with ⟨e1, q1⟩ | ⟨e1, q1⟩
  rotate_left
  · refine Par.yes e1 (Par.ret ?_)
    rw [← hQ]
    exact ⟨Or.inl ⟨fun h => q1 ⟨h.1.1, h.1.2, h.2.2⟩, rfl⟩, hca⟩
  refine Par.not (by rw [e1]; decide) ?_
  refine Par.bd (E_X9_cellsWithin _ hK w lvf) (fun o2 h2 => ?_)
  subst h2
  refine Par.bd (E_X9_isPacked _ hK l3 (wiL lvf w) hb6) (fun o3 h3 => ?_)
  rcases h3 with ⟨e3, q3⟩ | ⟨e3, q3⟩
  rotate_left
  · refine Par.yes e3 (Par.ret ?_)
    rw [← hQ]
    exact ⟨Or.inl ⟨fun h => q3 h.2.1, rfl⟩, hca⟩
  refine Par.not (by rw [e3]; decide) ?_
  have hall : AsP w tm ∧ OpP (wiL lvf w) l3 ∧ (l4 = 0 ∨ l4 = 1) := ⟨⟨q1.1, q1.2.1⟩, q3, q1.2.2⟩
  obtain ⟨o, ho, ho4, hx, _⟩ := OpP_n hb6 hall.2.1
  obtain ⟨wn, hw4, hwn⟩ := w_nat q1.1
  refine Par.bd (P := fun r : Int32 × Int64 × Int32 × Int32 => r.1 = Int32.ofNat wn ∧ r.2.1.toBitVec.toNat = lnN (wiL lvf w) tm ∧ r.2.2.1 = mkI (wiL lvf w) ∧ r.2.2.2 = mkI (ntB (wiL lvf w))) (by
    have h9 := E_X8_aimW (n + 1) hK wn hw4 (wiL lvf w) hb6 tm x1 x2 x3 x4
    rw [← hwn] at h9
    rw [← hwn]
    exact h9) (fun a ha => ?_)
  obtain ⟨a1, a2, a3, a4⟩ := ha
  rw [hx]
  refine Par.bd (E_X9_spread _ hK o ho4 (wiL lvf w) hb6) (fun y hy => ?_)
  subst hy
  rw [a1, a4]
  refine Par.bd (E_X8_countHeaps _ hK (spB (wiL lvf w) o) wn (sp6 hb6 o) hw4 a.2.1 (ntB (wiL lvf w)) (ntB_len hb6) LL sv stp fv fk b1 b2 b3 fn fl t1 t2 t3 gf gs gz go sz us pg pk D M N dp ub hub hus hs hD hC hN hV hca) (fun r hr => ?_)
  obtain ⟨r1, r2, sm, Z, hI⟩ := hr
  obtain ⟨_, hT1⟩ := p4_le (anB_len (ntB_len hb6) hub)
  have hpq : ∀ i j : Nat, i < 4 ^ cnB (anB (ntB (wiL lvf w)) ub) → j < 4 ^ cnB (anB (ntB (wiL lvf w)) ub) → ((pvO D M N wn a.2.1 (spB (wiL lvf w) o) (anB (ntB (wiL lvf w)) ub) ub i, (0 : Int64)) = (pvO D M N wn a.2.1 (spB (wiL lvf w) o) (anB (ntB (wiL lvf w)) ub) ub j, (0 : Int64)) ↔ HkR D M N 0 w tm (wiL lvf w) ub o i j) := by
    intro i j _ _
    have h9 := pv_eq (M := M) (N := N) hV (w := wn) (t := tm) hb6 a2 (x0 := spB (wiL lvf w) o) (tr := anB (ntB (wiL lvf w)) ub) (ub := ub) i j
    rw [← hwn] at h9
    constructor
    · intro e
      exact h9.mp (congrArg Prod.fst e)
    · intro e
      rw [h9.mpr e]
  obtain ⟨m1, m2⟩ := hI.ans hpq hT1
  refine Par.br (fun h0 => Par.ret ?_) (fun h0 => ?_)
  · rw [← hQ]
    refine ⟨Or.inr ⟨hall, o, hx, ho, Or.inl ⟨h0, ?_⟩⟩, r2⟩
    show (r.1).toInt = _
    rw [r1, m1, nd_hp hN hU hb6 hub o]
  · unfold F_X8_greatestHeap
    rw [L_X8_greatestHeap_e0]; unfold B_X8_greatestHeap_0
    rw [hus]
    refine Par.bd (P := fun z => z = r.2.2.2.2.2.2.2.2.2.2.1 * Int32.ofNat (4 ^ cnB (anB (ntB (wiL lvf w)) (ntB ub)))) (Par.bd (E_X8_untried _ hK _ ub (ntB_len hb6) hub) (fun z hz => Par.ret (by rw [hz]))) (fun z hz => Par.ret ?_)
    rw [← hQ]
    exact ⟨Or.inr ⟨hall, o, hx, ho, Or.inr ⟨hall.2.2.resolve_left h0, gm_hp hN hU hb6 hub o m2 hz⟩⟩, r2⟩
set_option maxHeartbeats 4000000 in
theorem E_X9_together (K : Nat) (hK : 1000000000 ≤ K) (w tm l3 l4 : Int32) (pn : Nat) (LL : List Nat) (sv : Nat → Nat → Int32) (lvf : Nat → Int32) (stp : Int32) (wp : Nat) (x1 : Int32) (x2 : Int64) (x3 x4 : Int32) (fv : Nat → Int64) (fk : Nat → Int32) (b1 b2 b3 : Int32) (fn fl : Nat → Int32) (t1 t2 t3 : Int32) (gf gs : Nat → Int64) (gz go : Nat → Int32) (sz us : Int32) (pg : Nat → Option Nat) (pk : Nat → Int32) (D : List SRc) (M N dp : Nat → Nat) (ub : List Bool) (hub : ub.length = 6) (hus : us = mkI ub) (hU : UsD D (fun c => ub[c]? = some true)) (hs : sz.toInt = (D.length : Int)) (hD : D.length ≤ 30) (hC : CRw pg sv pk D M N) (hN : NsT D M N dp) (hV : VlD D) (hca : CaI D M N stp fv fk) : Par (F_X9_together K w tm l3 l4 pn LL sv lvf stp wp x1 x2 x3 x4 fv fk b1 b2 b3 fn fl t1 t2 t3 gf gs gz go sz us pg pk) (fun r => ((¬ (AsP w tm ∧ OpP (wiL lvf w) l3 ∧ OpP (wiL lvf w) l4) ∧ r.1 = -1) ∨ ((AsP w tm ∧ OpP (wiL lvf w) l3 ∧ OpP (wiL lvf w) l4) ∧ TogP D M N w tm (wiL lvf w) l3 l4 r.1)) ∧ CaI D M N stp r.2.2.2.2.2.2.1 r.2.2.2.2.2.2.2.1) := by
  have hb6 := wiL_len lvf w
  unfold F_X9_together
  obtain ⟨n, rfl⟩ : ∃ n9, K = n9 + 1 := ⟨K - 1, by omega⟩
  rw [L_X9_together_e0]; unfold B_X9_together_0
  generalize hQ : (fun r : R20c => ((¬ (AsP w tm ∧ OpP (wiL lvf w) l3 ∧ OpP (wiL lvf w) l4) ∧ r.1 = -1) ∨ ((AsP w tm ∧ OpP (wiL lvf w) l3 ∧ OpP (wiL lvf w) l4) ∧ TogP D M N w tm (wiL lvf w) l3 l4 r.1)) ∧ CaI D M N stp r.2.2.2.2.2.2.1 r.2.2.2.2.2.2.2.1) = Q
  have one : ¬ (AsP w tm ∧ OpP (wiL lvf w) l3 ∧ OpP (wiL lvf w) l4) → ∀ (l5 : Int32), Par (L_X9_together (n + 1) n 1 w tm l3 l4 l5 pn LL sv lvf stp wp x1 x2 x3 x4 fv fk b1 b2 b3 fn fl t1 t2 t3 gf gs gz go sz us pg pk) Q := by
    intro h l5
    cases n with
    | zero => exact Par.no
    | succ n => rw [L_X9_together_e1]; unfold B_X9_together_1; rw [← hQ]; exact Par.ret ⟨Or.inl ⟨h, rfl⟩, hca⟩
  refine Par.bd (E_X9_isWatched _ hK w tm 0) (fun o1 h1 => ?_)
  rcases h1 with ⟨e1, q1⟩ | ⟨e1, q1⟩
  rotate_left
  · refine Par.yes e1 (Par.ret ?_)
    rw [← hQ]
    exact ⟨Or.inl ⟨fun h => q1 ⟨h.1.1, h.1.2, Or.inl rfl⟩, rfl⟩, hca⟩
  refine Par.not (by rw [e1]; decide) ?_
  refine Par.bd (E_X9_cellsWithin _ hK w lvf) (fun o2 h2 => ?_)
  subst h2
  refine Par.bd (E_X9_isPacked _ hK l3 (wiL lvf w) hb6) (fun o3 h3 => ?_)
  rcases h3 with ⟨e3, q3⟩ | ⟨e3, q3⟩
  rotate_left
  · exact Par.yes e3 (one (fun h => q3 h.2.1) _)
  refine Par.not (by rw [e3]; decide) ?_
  refine Par.bd (E_X9_isPacked _ hK l4 (wiL lvf w) hb6) (fun o4 h4 => ?_)
  rcases h4 with ⟨e4, q4⟩ | ⟨e4, q4⟩
  rotate_left
  · exact Par.yes e4 (one (fun h => q4 h.2.2) _)
  refine Par.not (by rw [e4]; decide) ?_
  have hall : AsP w tm ∧ OpP (wiL lvf w) l3 ∧ OpP (wiL lvf w) l4 := ⟨⟨q1.1, q1.2.1⟩, q3, q4⟩
  obtain ⟨o, ho, ho4, hx, _⟩ := OpP_n hb6 hall.2.1
  obtain ⟨j, hj, hj4, hy, _⟩ := OpP_n hb6 hall.2.2
  obtain ⟨wn, hw4, hwn⟩ := w_nat q1.1
  refine Par.bd (P := fun r : Int32 × Int64 × Int32 × Int32 => r.1 = Int32.ofNat wn ∧ r.2.1.toBitVec.toNat = lnN (wiL lvf w) tm ∧ r.2.2.1 = mkI (wiL lvf w) ∧ r.2.2.2 = mkI (ntB (wiL lvf w))) (by
    have h9 := E_X8_aimW (n + 1) hK wn hw4 (wiL lvf w) hb6 tm x1 x2 x3 x4
    rw [← hwn] at h9
    rw [← hwn]
    exact h9) (fun a ha => ?_)
  obtain ⟨a1, a2, a3, a4⟩ := ha
  rw [hx, hy]
  refine Par.bd (E_X9_spread _ hK o ho4 (wiL lvf w) hb6) (fun y1 hy1 => ?_)
  refine Par.bd (E_X9_spread _ hK j hj4 (wiL lvf w) hb6) (fun y2 hy2 => ?_)
  rw [hy1, hy2, a1, a4]
  refine Par.bd (E_X8_countTogether _ hK (spB (wiL lvf w) o) (spB (wiL lvf w) j) wn (sp6 hb6 o) (sp6 hb6 j) hw4 a.2.1 (ntB (wiL lvf w)) (ntB_len hb6) LL sv stp fv fk b1 b2 b3 fn fl t1 t2 t3 gf gs gz go sz us pg pk D M N dp ub hub hus hs hD hC hN hV hca) (fun r hr => Par.ret ?_)
  obtain ⟨r1, r2, sm, Z, hI⟩ := hr
  obtain ⟨_, hT1⟩ := p4_le (anB_len (ntB_len hb6) hub)
  have hpq : ∀ i k : Nat, i < 4 ^ cnB (anB (ntB (wiL lvf w)) ub) → k < 4 ^ cnB (anB (ntB (wiL lvf w)) ub) → ((pvO D M N wn a.2.1 (spB (wiL lvf w) o) (anB (ntB (wiL lvf w)) ub) ub i, pvO D M N wn a.2.1 (spB (wiL lvf w) j) (anB (ntB (wiL lvf w)) ub) ub i) = (pvO D M N wn a.2.1 (spB (wiL lvf w) o) (anB (ntB (wiL lvf w)) ub) ub k, pvO D M N wn a.2.1 (spB (wiL lvf w) j) (anB (ntB (wiL lvf w)) ub) ub k) ↔ (HkR D M N 0 w tm (wiL lvf w) ub o i k ∧ HkR D M N 0 w tm (wiL lvf w) ub j i k)) := by
    intro i k _ _
    have h9 := pv_eq (M := M) (N := N) hV (w := wn) (t := tm) hb6 a2 (x0 := spB (wiL lvf w) o) (tr := anB (ntB (wiL lvf w)) ub) (ub := ub) i k
    have h8 := pv_eq (M := M) (N := N) hV (w := wn) (t := tm) hb6 a2 (x0 := spB (wiL lvf w) j) (tr := anB (ntB (wiL lvf w)) ub) (ub := ub) i k
    rw [← hwn] at h9 h8
    constructor
    · intro e
      exact ⟨h9.mp (congrArg Prod.fst e), h8.mp (congrArg Prod.snd e)⟩
    · intro e
      rw [h9.mpr e.1, h8.mpr e.2]
  obtain ⟨m1, m2⟩ := hI.ans hpq hT1
  rw [← hQ]
  refine ⟨Or.inr ⟨hall, o, j, hx, ho, hy, hj, ?_⟩, r2⟩
  show (r.1).toInt = _
  rw [r1, m1]
  have e9 : ndQ (fun a b => HpR D M N 0 w tm (wiL lvf w) o a b ∧ HpR D M N 0 w tm (wiL lvf w) j a b) (4 ^ cnB (ntB (wiL lvf w))) = ndQ (fun a b => HkR D M N 0 w tm (wiL lvf w) ub o a b ∧ HkR D M N 0 w tm (wiL lvf w) ub j a b) (4 ^ cnB (anB (ntB (wiL lvf w)) ub)) := nd_tau (by rw [ntB_len hb6, hub]) (fun a b _ _ => and_congr (HpR_tau hN hU hb6 hub o a b) (HpR_tau hN hU hb6 hub j a b)) (fun a => ⟨SAl_rf _, SAl_rf _⟩)
  rw [e9]
