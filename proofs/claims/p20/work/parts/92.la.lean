/-! the program that both hold, told by name; the cache of views is of every such one -/
def SameB (ppg : Nat → Option Nat) (sv : Nat → Nat → Int32) (ppk : Nat → Int32) (sz cs ou us : Int32) (many : Int32) (astm asm : Nat → Int32) (D : List SRc) (M N : Nat → Nat) : Prop :=
  (∃ (k v : Nat → Int32) (j : Nat), Hl2 k v ([], fun _ => 0, fun _ => 0, [], 0) (D, M, N, j) ∧ ∀ x : SRc, x ∈ D → GdE x.2.2.1) ∧ D.length ≤ 30 ∧ sz.toInt = (D.length : Int) ∧ many.toInt = (D.length : Int) ∧ ou.toInt = (cn1 D : Int) ∧ us = usX D ∧ (∀ i : Nat, i < D.length → RowC ppg sv ppk D M N cs.toInt i) ∧ (∀ i : Nat, i < D.length → FRow astm asm D M N i)
theorem SameB.cr {pg : Nat → Option Nat} {sv : Nat → Nat → Int32} {pk : Nat → Int32} {sz cs ou us many : Int32} {astm asm : Nat → Int32} {D : List SRc} {M N : Nat → Nat} (h : SameB pg sv pk sz cs ou us many astm asm D M N) (hcs : CSz cs) (hT : okT many astm asm) : ∃ dp : Nat → Nat, NsT D M N dp ∧ CRw pg sv pk D M N ∧ FRw astm asm D M N ∧ VlD D := by
  obtain ⟨⟨k, v, j, hH, hgd⟩, hD, h1, h2, h3, h4, hRC, hRF⟩ := h
  obtain ⟨dp, hN⟩ := hH.ns
  obtain ⟨_, _, dp2, hp⟩ := hT
  have hW : ∀ i : Nat, i < D.length → kf D i ≠ 3 → WfC (cod D i) := by
    intro i hi hk
    obtain ⟨r, cf, a1, a2, a3, a4, a5, a6, a7, a8, a9⟩ := hRF i hi
    have hkr := kf_at a1
    rw [cod_at a1]
    have hk3 : r.1 ≠ 3 := by rw [← hkr]; exact hk
    have hcf := a4 hk3
    obtain ⟨⟨_, _, _, p4⟩, _⟩ := hp i (by omega)
    have ht : tkd astm i ≠ 3 := by
      unfold tkd
      rw [a2]
      intro h9
      exact hk3 (Int32.toInt_inj.mp (by rw [h9]; decide))
    obtain ⟨_, _, _, q4⟩ := p4 ht
    unfold tfr tlh at q4
    rw [hcf, a5] at q4
    exact WfC.of (astm := astm) (M := M) (N := N) (D := D) (i := i) (hgd r (List.mem_of_getElem? a1)) a7 q4
  refine ⟨dp, hN, fun i hi => ?_, fun i hi => ⟨hRF i hi, hW i hi, fun hk => ?_⟩, VlD.of hW hN.2.2.2.2.2⟩
  · obtain ⟨r, a, cf, b1, b2, b3, b4, b5, b6, b7, b8, b9, b10, b11, b12, b13⟩ := hRC i hi
    obtain ⟨r2, cf2, a1, a2, a3, _⟩ := hRF i hi
    have er : r2 = r := by rw [b1] at a1; exact (Option.some.inj a1).symm
    subst er
    have hkr := kf_at b1
    have hnr := nf_at b1
    have hcr := cod_at b1
    obtain ⟨⟨_, p2, _, _⟩, _⟩ := hp i (by omega)
    refine ⟨a, b2, by rw [hkr]; exact b3, by rw [hnr]; exact b4, ⟨cf, b6, by rw [hcr]; exact b7, ?_, by rw [hcr]; exact b9⟩, fun hk => b11 (by rw [← hkr]; exact hk), ?_, fun hk => ?_, fun hk => ?_, hW i hi⟩
    · rw [hcr]
      have := hcs.2
      omega
    · rw [b12]
      unfold EnD
      rw [hkr]
    · have := b13 (by rw [← hkr]; exact hk)
      have hcl := cn1_le (D.take i)
      rw [List.length_take] at hcl
      exact ofn_of _ _ (by omega) this
    · unfold tkd tnm at p2
      rw [a2, a3] at p2
      have hq := p2 (by rw [← hkr, hk]; decide)
      unfold tcC
      rw [hnr]
      have hcl := clampI hq.1
      exact ⟨by omega, ofn_of _ _ (by omega) (by omega)⟩
  · obtain ⟨r2, cf2, a1, a2, a3, _⟩ := hRF i hi
    obtain ⟨⟨_, _, p3, _⟩, _⟩ := hp i (by omega)
    unfold tkd tnm at p3
    rw [a2, a3] at p3
    rw [nf_at a1]
    exact (p3 (by rw [← kf_at a1, hk]; decide)).2
def CaA (pg : Nat → Option Nat) (sv : Nat → Nat → Int32) (pk : Nat → Int32) (sz cs ou us many : Int32) (astm asm : Nat → Int32) (stp : Int32) (fv : Nat → Int64) (fk : Nat → Int32) : Prop := ∀ (D : List SRc) (M N : Nat → Nat), SameB pg sv pk sz cs ou us many astm asm D M N → CaI D M N stp fv fk
theorem CaA.bd {pg : Nat → Option Nat} {sv : Nat → Nat → Int32} {pk : Nat → Int32} {sz cs ou us many : Int32} {astm asm : Nat → Int32} {stp : Int32} {fv : Nat → Int64} {fk : Nat → Int32} (h : CaA pg sv pk sz cs ou us many astm asm stp fv fk) (hP : SameP pg sv pk sz cs ou us many astm asm) : ∀ k : Nat, k < 4096 → (fk k).toInt ≤ stp.toInt := by
  obtain ⟨D, M, N, hB⟩ := hP
  exact (h D M N hB).1
theorem CaA.st {pg : Nat → Option Nat} {sv : Nat → Nat → Int32} {pk : Nat → Int32} {sz cs ou us many : Int32} {astm asm : Nat → Int32} {fv : Nat → Int64} : CaA pg sv pk sz cs ou us many astm asm 1 fv (fun _ => 0) := by
  intro D M N _
  refine ⟨fun _ _ => (show (0 : Int32).toInt ≤ (1 : Int32).toInt by decide), fun _ _ h => absurd h (show ¬ (0 : Int32) = 1 by decide)⟩
theorem CaA.nx {pg ppg : Nat → Option Nat} {sv sw : Nat → Nat → Int32} {pk ppk : Nat → Int32} {sz cs ou us many sz2 cs2 ou2 us2 many2 : Int32} {astm asm f2 g2 : Nat → Int32} {stp : Int32} {fv : Nat → Int64} {fk : Nat → Int32} (h : CaA pg sv pk sz cs ou us many astm asm stp fv fk) (hP : SameP pg sv pk sz cs ou us many astm asm) (hs : 0 ≤ stp.toInt ∧ stp.toInt ≤ 1000000) : CaA ppg sw ppk sz2 cs2 ou2 us2 many2 f2 g2 (stp + 1) fv fk := by
  have hb := h.bd hP
  have e : (stp + 1).toInt = stp.toInt + 1 := by
    have e1 : (1 : Int32).toInt = 1 := by decide
    rw [Int32.toInt_add, e1]
    simp only [Int.bmod]
    omega
  intro D M N _
  refine ⟨fun k hk => ?_, fun k hk h9 => ?_⟩
  · have := hb k hk
    omega
  · have h1 := hb k hk
    rw [h9] at h1
    omega
theorem CaA.keep {pg ppg : Nat → Option Nat} {sv sw : Nat → Nat → Int32} {pk : Nat → Int32} {sz cs ou us many many2 : Int32} {astm asm f2 g2 : Nat → Int32} {stp : Int32} {fv : Nat → Int64} {fk : Nat → Int32} (h : CaA pg sv pk sz cs ou us many astm asm stp fv fk) (hs : SvF ppg sv sw) (hd : PGd pg ppg) (he : many2 = many) (h1 : ∀ p : Nat, p < 240 → f2 p = astm p) (h2 : ∀ p : Nat, p < 300 → g2 p = asm p) : CaA pg sw pk sz cs ou us many2 f2 g2 stp fv fk := by
  subst he
  intro D M N hB
  obtain ⟨b0, b1, b2, b3, b4, b5, b6, b7⟩ := hB
  refine h D M N ⟨b0, b1, b2, b3, b4, b5, fun i hi => (b6 i hi).re (fun a ha z => (hs a (fun j hj e => hd i j a (by omega) hj ha e) z).symm) (fun _ _ => rfl) (Int.le_refl _) rfl rfl, fun i hi => (b7 i hi).keep (by omega) (fun p hp => (h1 p hp).symm) (fun p hp => (h2 p hp).symm)⟩
/-- the stamp is at most the number of calls and 1 -/
def StpN (n : Nat) (stp : Int32) : Prop := (0 ≤ stp.toInt ∧ stp.toInt ≤ (n : Int) + 1) ∧ n ≤ 3072
theorem StpN.up {n : Nat} {stp : Int32} (h : StpN n stp) (hn : n + 6 ≤ 3072) : StpN (n + 6) stp := ⟨⟨h.1.1, by have := h.1.2; omega⟩, hn⟩
theorem StpN.nx {n : Nat} {stp : Int32} (h : StpN n stp) (hn : n + 6 ≤ 3072) : StpN (n + 6) (stp + 1) := by
  have e : (stp + 1).toInt = stp.toInt + 1 := by
    have e1 : (1 : Int32).toInt = 1 := by decide
    have h1 := h.1
    rw [Int32.toInt_add, e1]
    simp only [Int.bmod]
    omega
  have h1 := h.1
  refine ⟨?_, hn⟩
  omega
theorem StpN.st : StpN 0 1 := ⟨by decide, by omega⟩
theorem rd_ca {K : Nat} (hK : 1000000000 ≤ K) {LL : List Nat} {sv : Nat → Nat → Int32} {p : Nat} {len : Int32} {tx : Nat → Int32} {pp : Nat} {ops cl mn at_ kd vl pl : Int32} {fk fv fp : Nat → Int32} {sz cs ou us : Int32} {pg ppg : Nat → Option Nat} {pk ppk : Nat → Int32} {psz pcs pou pus : Int32} {stp : Int32} {ithrown ityped inext itoken iplace ivalue ifault imany idrafts isumMany : Int32} {atxt astm asm asgn aopn aopp : Nat → Int32} {wf : Nat → Int64} {wk : Nat → Int32} {n : Nat} {rc : R21} {rm : R16}
    (he : len = ityped) (ht : tx = atxt) (hB : TXb atxt) (h0 : 0 ≤ len.toInt) (h1 : len.toInt ≤ 300) (hpg : PGi ppg) (hpd : PGd pg ppg) (hne : p ≠ pp) (hsame : SameP pg sv pk psz pcs pou pus imany astm asm) (hca : CaA pg sv pk psz pcs pou pus imany astm asm stp wf wk) (hst : StpN n stp) (hn : n + 6 ≤ 3072)
    (hc : F_X9_read K LL sv p len tx pp ops cl mn at_ kd vl pl fk fv fp sz cs ou us ppg ppk stp = some rc) (hm : F_m_read K ithrown ityped inext itoken iplace ivalue ifault imany idrafts isumMany atxt astm asm asgn aopn aopp = some rm) :
    StpN (n + 6) rc.2.2.2.2.2.2.2.2.2.2.2.2.2.2.2.2.2.2.2.2 ∧ (rc.2.2.1 = p → CaA pg rc.2.1 pk psz pcs pou pus rm.2.2.2.2.2.2.2.2.1 rm.2.2.2.2.2.2.2.2.2.2.2.1 rm.2.2.2.2.2.2.2.2.2.2.2.2.1 rc.2.2.2.2.2.2.2.2.2.2.2.2.2.2.2.2.2.2.2.2 wf wk) ∧ (rc.2.2.1 = pp → CaA ppg rc.2.1 rc.2.2.2.2.2.2.2.2.2.2.2.2.2.2.2.2.2.2.2.1 rc.2.2.2.2.2.2.2.2.2.2.2.2.2.2.2.1 rc.2.2.2.2.2.2.2.2.2.2.2.2.2.2.2.2.1 rc.2.2.2.2.2.2.2.2.2.2.2.2.2.2.2.2.2.1 rc.2.2.2.2.2.2.2.2.2.2.2.2.2.2.2.2.2.2.1 rm.2.2.2.2.2.2.2.2.1 rm.2.2.2.2.2.2.2.2.2.2.2.1 rm.2.2.2.2.2.2.2.2.2.2.2.2.1 rc.2.2.2.2.2.2.2.2.2.2.2.2.2.2.2.2.2.2.2.2 wf wk) := by
  subst he
  subst ht
  have key : Par (F_X9_read K LL sv p len tx pp ops cl mn at_ kd vl pl fk fv fp sz cs ou us ppg ppk stp) (fun rc => StpN (n + 6) rc.2.2.2.2.2.2.2.2.2.2.2.2.2.2.2.2.2.2.2.2 ∧ (rc.2.2.1 = p → CaA pg rc.2.1 pk psz pcs pou pus rm.2.2.2.2.2.2.2.2.1 rm.2.2.2.2.2.2.2.2.2.2.2.1 rm.2.2.2.2.2.2.2.2.2.2.2.2.1 rc.2.2.2.2.2.2.2.2.2.2.2.2.2.2.2.2.2.2.2.2 wf wk) ∧ (rc.2.2.1 = pp → CaA ppg rc.2.1 rc.2.2.2.2.2.2.2.2.2.2.2.2.2.2.2.2.2.2.2.1 rc.2.2.2.2.2.2.2.2.2.2.2.2.2.2.2.1 rc.2.2.2.2.2.2.2.2.2.2.2.2.2.2.2.2.1 rc.2.2.2.2.2.2.2.2.2.2.2.2.2.2.2.2.2.1 rc.2.2.2.2.2.2.2.2.2.2.2.2.2.2.2.2.2.2.1 rm.2.2.2.2.2.2.2.2.1 rm.2.2.2.2.2.2.2.2.2.2.2.1 rm.2.2.2.2.2.2.2.2.2.2.2.2.1 rc.2.2.2.2.2.2.2.2.2.2.2.2.2.2.2.2.2.2.2.2 wf wk)) := by
    unfold F_X9_read
    obtain ⟨n9, hn9⟩ : ∃ n9, K = n9 + 1 := ⟨K - 1, by omega⟩
    generalize hz : L_X9_read K K 0 LL sv p len tx pp ops cl mn at_ kd vl pl fk fv fp sz cs ou us ppg ppk stp = z
    have hz2 : z = L_X9_read K (n9 + 1) 0 LL sv p len tx pp ops cl mn at_ kd vl pl fk fv fp sz cs ou us ppg ppk stp := by rw [← hn9, hz]
    rw [hz2, L_X9_read_e0]; unfold B_X9_read_0
    refine Par.bd (fun o ho => both_read K hK LL sv ops cl mn at_ kd vl pl fk fv fp sz cs ou us ppg ppk len tx ithrown inext itoken iplace ivalue ifault imany idrafts isumMany astm asm asgn aopn aopp ⟨h0, h1⟩ (fun i _ => hB i) hpg o rm ho hm) (fun o ho => ?_)
    obtain ⟨hsf, ho⟩ := ho
    rcases ho with ⟨a1, a2, a3⟩ | ⟨a1, a2, a3, a4, a5⟩
    · refine Par.yes a1 ?_
      refine Par.bd (P := fun _ => True) (fun _ _ => True.intro) (fun o1 _ => ?_)
      refine Par.bd (P := fun y => y = stp + 1) ?_ (fun o2 h2 => ?_)
      · unfold F_X8_forget
        rw [hn9, L_X8_forget_e0]
        unfold B_X8_forget_0
        exact Par.ret rfl
      · subst h2
        refine Par.ret ⟨hst.nx hn, fun e => absurd e.symm hne, fun _ => hca.nx hsame ⟨hst.1.1, ?_⟩⟩
        have h3 := hst.1.2
        have h4 := hst.2
        omega
    · refine Par.not a1 (Par.ret ⟨hst.up hn, fun _ => hca.keep hsf hpd a3 a4 a5, fun e => absurd e hne⟩)
  exact key rc hc
