/-! the cache stays with the program; the answers alike -/
set_option maxHeartbeats 2000000 in
theorem ca_heaps {K : Nat} (hK : 1000000000 ≤ K) {w tm l3 l4 : Int32} {pn : Nat} {LL : List Nat} {sv : Nat → Nat → Int32} {lvf : Nat → Int32} {stp : Int32} {wp : Nat} {x1 : Int32} {x2 : Int64} {x3 x4 : Int32} {fv : Nat → Int64} {fk : Nat → Int32} {b1 b2 b3 : Int32} {fn fl : Nat → Int32} {t1 t2 t3 : Int32} {gf gs : Nat → Int64} {gz go : Nat → Int32} {sz us : Int32} {pg : Nat → Option Nat} {pk : Nat → Int32} {cs ou many : Int32} {astm asm : Nat → Int32} {rc : (Int32 × Nat × Int32 × Int64 × Int32 × Int32 × (Nat → Int64) × (Nat → Int32) × Int32 × Int32 × Int32 × (Nat → Int32) × (Nat → Int32) × Int32 × Int32 × Int32 × (Nat → Int64) × (Nat → Int64) × (Nat → Int32) × (Nat → Int32))} (hcs : CSz cs) (hT : okT many astm asm) (hca : CaA pg sv pk sz cs ou us many astm asm stp fv fk) (hc : F_X9_heaps K w tm l3 l4 pn LL sv lvf stp wp x1 x2 x3 x4 fv fk b1 b2 b3 fn fl t1 t2 t3 gf gs gz go sz us pg pk = some rc) : CaA pg sv pk sz cs ou us many astm asm stp rc.2.2.2.2.2.2.1 rc.2.2.2.2.2.2.2.1 := by
  intro D M N hB
  obtain ⟨⟨k9, v9, j9, hH, hgd⟩, hD, hs, hmany, hou, hus, hRC, hRF⟩ := id hB
  obtain ⟨dp, hN, hC, hF, hV⟩ := SameB.cr hB hcs hT
  obtain ⟨ub, u1, u2, u3⟩ := us_b hC hN
  exact (E_X9_heaps K hK w tm l3 l4 pn LL sv lvf stp wp x1 x2 x3 x4 fv fk b1 b2 b3 fn fl t1 t2 t3 gf gs gz go sz us pg pk D M N dp ub u1 (hus.trans u2) u3 hs hD hC hN hV (hca D M N hB) rc hc).2
set_option maxHeartbeats 2000000 in
theorem an_heaps {K : Nat} (hK : 1000000000 ≤ K) {w tm l3 l4 : Int32} {pn : Nat} {LL : List Nat} {sv : Nat → Nat → Int32} {lvf : Nat → Int32} {stp : Int32} {wp : Nat} {x1 : Int32} {x2 : Int64} {x3 x4 : Int32} {fv : Nat → Int64} {fk : Nat → Int32} {b1 b2 b3 : Int32} {fn fl : Nat → Int32} {t1 t2 t3 : Int32} {gf gs : Nat → Int64} {gz go : Nat → Int32} {sz us : Int32} {pg : Nat → Option Nat} {pk : Nat → Int32} {cs ou many : Int32} {astm asm : Nat → Int32} {alev : Nat → Int32} {m_th : Int32} {m_a1 : Int32} {m_a2 : Int32} {m_ip : Int32} {m_isec : Int32} {m_heaps : Int32} {m_avls : Nat → Int32} {m_abke : Nat → Int32} {m_abko : Nat → Int32} {m_abkl : Nat → Int32} {m_acel : Nat → Int32} {m_atap : Nat → Int32} {m_atpl : Nat → Int32} {m_sen : Nat → Int64} {m_hpo : Nat → Int32} {m_hpm : Nat → Int32} {m_bgn : Nat → Int32} {m_chn : Nat → Int32} {m_sgt : Nat → Int64} {rc : (Int32 × Nat × Int32 × Int64 × Int32 × Int32 × (Nat → Int64) × (Nat → Int32) × Int32 × Int32 × Int32 × (Nat → Int32) × (Nat → Int32) × Int32 × Int32 × Int32 × (Nat → Int64) × (Nat → Int64) × (Nat → Int32) × (Nat → Int32))} {rm : (Int32 × Int32 × Int32 × Int32 × Int32 × Int32 × Int32 × (Nat → Int32) × (Nat → Int32) × (Nat → Int32) × (Nat → Int32) × (Nat → Int32) × (Nat → Int32) × (Nat → Int32) × (Nat → Int64) × (Nat → Int32) × (Nat → Int32) × (Nat → Int32) × (Nat → Int32) × (Nat → Int64))} (hl : lvf = alev) (hP : SameP pg sv pk sz cs ou us many astm asm) (hcs : CSz cs) (hT : okT many astm asm) (hca : CaA pg sv pk sz cs ou us many astm asm stp fv fk) (hc : F_X9_heaps K w tm l3 l4 pn LL sv lvf stp wp x1 x2 x3 x4 fv fk b1 b2 b3 fn fl t1 t2 t3 gf gs gz go sz us pg pk = some rc) (hm : F_m_heaps K w tm l3 l4 m_th many m_a1 m_a2 m_ip m_isec m_heaps alev astm asm m_avls m_abke m_abko m_abkl m_acel m_atap m_atpl m_sen m_hpo m_hpm m_bgn m_chn m_sgt = some rm) : rc.1 = rm.1 := by
  subst hl
  obtain ⟨D, M, N, hB⟩ := hP
  obtain ⟨⟨k9, v9, j9, hH, hgd⟩, hD, hs, hmany, hou, hus, hRC, hRF⟩ := id hB
  obtain ⟨dp, hN, hC, hF, hV⟩ := SameB.cr hB hcs hT
  obtain ⟨ub, u1, u2, u3⟩ := us_b hC hN
  have a := (E_X9_heaps K hK w tm l3 l4 pn LL sv lvf stp wp x1 x2 x3 x4 fv fk b1 b2 b3 fn fl t1 t2 t3 gf gs gz go sz us pg pk D M N dp ub u1 (hus.trans u2) u3 hs hD hC hN hV (hca D M N hB) rc hc).1
  have b := E_m_heaps K hK w tm l3 l4 m_th many m_a1 m_a2 m_ip m_isec m_heaps lvf astm asm m_avls m_abke m_abko m_abkl m_acel m_atap m_atpl m_sen m_hpo m_hpm m_bgn m_chn m_sgt D M N dp hmany hD hF hN hV ub u1 u3 rm hm
  rcases a with ⟨a1, a2⟩ | ⟨a1, a2⟩
  · rcases b with ⟨b1, b2⟩ | ⟨b1, b2⟩
    · rw [a2, b2]
    · exact absurd b1 a1
  · rcases b with ⟨b1, b2⟩ | ⟨b1, b2⟩
    · exact absurd a1 b1
    · exact HeaP_u (wiL_len _ _) a2 b2
set_option maxHeartbeats 2000000 in
theorem ca_heap {K : Nat} (hK : 1000000000 ≤ K) {w tm l3 l4 l5 : Int32} {pn : Nat} {LL : List Nat} {sv : Nat → Nat → Int32} {lvf : Nat → Int32} {stp : Int32} {wp : Nat} {x1 : Int32} {x2 : Int64} {x3 x4 fo : Int32} {fv : Nat → Int64} {fk : Nat → Int32} {b1 b2 b3 : Int32} {fn fl : Nat → Int32} {sz us : Int32} {pg : Nat → Option Nat} {pk : Nat → Int32} {cs ou many : Int32} {astm asm : Nat → Int32} {rc : (Int32 × Nat × Int32 × Int64 × Int32 × Int32 × Int32 × (Nat → Int64) × (Nat → Int32) × Int32 × Int32 × Int32 × (Nat → Int32) × (Nat → Int32))} (hcs : CSz cs) (hT : okT many astm asm) (hca : CaA pg sv pk sz cs ou us many astm asm stp fv fk) (hc : F_X9_heap K w tm l3 l4 l5 pn LL sv lvf stp wp x1 x2 x3 x4 fo fv fk b1 b2 b3 fn fl sz us pg pk = some rc) : CaA pg sv pk sz cs ou us many astm asm stp rc.2.2.2.2.2.2.2.1 rc.2.2.2.2.2.2.2.2.1 := by
  intro D M N hB
  obtain ⟨⟨k9, v9, j9, hH, hgd⟩, hD, hs, hmany, hou, hus, hRC, hRF⟩ := id hB
  obtain ⟨dp, hN, hC, hF, hV⟩ := SameB.cr hB hcs hT
  obtain ⟨ub, u1, u2, u3⟩ := us_b hC hN
  exact (E_X9_heap K hK w tm l3 l4 l5 pn LL sv lvf stp wp x1 x2 x3 x4 fo fv fk b1 b2 b3 fn fl sz us pg pk D M N dp ub u1 (hus.trans u2) u3 hs hD hC hN hV (hca D M N hB) rc hc).2
set_option maxHeartbeats 2000000 in
theorem an_heap {K : Nat} (hK : 1000000000 ≤ K) {w tm l3 l4 l5 : Int32} {pn : Nat} {LL : List Nat} {sv : Nat → Nat → Int32} {lvf : Nat → Int32} {stp : Int32} {wp : Nat} {x1 : Int32} {x2 : Int64} {x3 x4 fo : Int32} {fv : Nat → Int64} {fk : Nat → Int32} {b1 b2 b3 : Int32} {fn fl : Nat → Int32} {sz us : Int32} {pg : Nat → Option Nat} {pk : Nat → Int32} {cs ou many : Int32} {astm asm : Nat → Int32} {alev : Nat → Int32} {m_th : Int32} {m_a1 : Int32} {m_a2 : Int32} {m_ip : Int32} {m_isec : Int32} {m_heaps : Int32} {m_avls : Nat → Int32} {m_abke : Nat → Int32} {m_abko : Nat → Int32} {m_abkl : Nat → Int32} {m_acel : Nat → Int32} {m_atap : Nat → Int32} {m_atpl : Nat → Int32} {m_sen : Nat → Int64} {m_hpo : Nat → Int32} {m_hpm : Nat → Int32} {m_bgn : Nat → Int32} {m_chn : Nat → Int32} {m_sgt : Nat → Int64} {rc : (Int32 × Nat × Int32 × Int64 × Int32 × Int32 × Int32 × (Nat → Int64) × (Nat → Int32) × Int32 × Int32 × Int32 × (Nat → Int32) × (Nat → Int32))} {rm : (Int32 × Int32 × Int32 × Int32 × Int32 × Int32 × Int32 × (Nat → Int32) × (Nat → Int32) × (Nat → Int32) × (Nat → Int32) × (Nat → Int32) × (Nat → Int32) × (Nat → Int32) × (Nat → Int64) × (Nat → Int32) × (Nat → Int32) × (Nat → Int32) × (Nat → Int32) × (Nat → Int64))} (hl : lvf = alev) (hP : SameP pg sv pk sz cs ou us many astm asm) (hcs : CSz cs) (hT : okT many astm asm) (hca : CaA pg sv pk sz cs ou us many astm asm stp fv fk) (hc : F_X9_heap K w tm l3 l4 l5 pn LL sv lvf stp wp x1 x2 x3 x4 fo fv fk b1 b2 b3 fn fl sz us pg pk = some rc) (hm : F_m_heap K w tm l3 l4 l5 m_th many m_a1 m_a2 m_ip m_isec m_heaps alev astm asm m_avls m_abke m_abko m_abkl m_acel m_atap m_atpl m_sen m_hpo m_hpm m_bgn m_chn m_sgt = some rm) : rc.1 = rm.1 := by
  subst hl
  obtain ⟨D, M, N, hB⟩ := hP
  obtain ⟨⟨k9, v9, j9, hH, hgd⟩, hD, hs, hmany, hou, hus, hRC, hRF⟩ := id hB
  obtain ⟨dp, hN, hC, hF, hV⟩ := SameB.cr hB hcs hT
  obtain ⟨ub, u1, u2, u3⟩ := us_b hC hN
  have a := (E_X9_heap K hK w tm l3 l4 l5 pn LL sv lvf stp wp x1 x2 x3 x4 fo fv fk b1 b2 b3 fn fl sz us pg pk D M N dp ub u1 (hus.trans u2) u3 hs hD hC hN hV (hca D M N hB) rc hc).1
  have b := E_m_heap K hK w tm l3 l4 l5 m_th many m_a1 m_a2 m_ip m_isec m_heaps lvf astm asm m_avls m_abke m_abko m_abkl m_acel m_atap m_atpl m_sen m_hpo m_hpm m_bgn m_chn m_sgt D M N dp hmany hD hF hN hV ub u1 u3 rm hm
  rcases a with ⟨a1, a2⟩ | ⟨a1, a2⟩
  · rcases b with ⟨b1, b2⟩ | ⟨b1, b2⟩
    · rw [a2, b2]
    · exact absurd b1 a1
  · rcases b with ⟨b1, b2⟩ | ⟨b1, b2⟩
    · exact absurd a1 b1
    · exact HpaP_u (wiL_len _ _) a2 b2
set_option maxHeartbeats 2000000 in
theorem ca_safe {K : Nat} (hK : 1000000000 ≤ K) {w tm : Int32} {pn : Nat} {LL : List Nat} {sv : Nat → Nat → Int32} {lvf : Nat → Int32} {stp : Int32} {wp : Nat} {x1 : Int32} {x2 : Int64} {x3 x4 po ps : Int32} {fv : Nat → Int64} {fk : Nat → Int32} {b1 b2 b3 : Int32} {fn fl : Nat → Int32} {sz us : Int32} {pg : Nat → Option Nat} {pk : Nat → Int32} {cs ou many : Int32} {astm asm : Nat → Int32} {rc : (Int32 × Nat × Int32 × Int64 × Int32 × Int32 × Int32 × Int32 × (Nat → Int64) × (Nat → Int32) × Int32 × Int32 × Int32 × (Nat → Int32) × (Nat → Int32))} (hcs : CSz cs) (hT : okT many astm asm) (hca : CaA pg sv pk sz cs ou us many astm asm stp fv fk) (hc : F_X9_safe K w tm pn LL sv lvf stp wp x1 x2 x3 x4 po ps fv fk b1 b2 b3 fn fl sz us pg pk = some rc) : CaA pg sv pk sz cs ou us many astm asm stp rc.2.2.2.2.2.2.2.2.1 rc.2.2.2.2.2.2.2.2.2.1 := by
  intro D M N hB
  obtain ⟨⟨k9, v9, j9, hH, hgd⟩, hD, hs, hmany, hou, hus, hRC, hRF⟩ := id hB
  obtain ⟨dp, hN, hC, hF, hV⟩ := SameB.cr hB hcs hT
  obtain ⟨ub, u1, u2, u3⟩ := us_b hC hN
  exact (E_X9_safe K hK w tm pn LL sv lvf stp wp x1 x2 x3 x4 po ps fv fk b1 b2 b3 fn fl sz us pg pk D M N dp ub u1 (hus.trans u2) u3 hs hD hC hN hV (hca D M N hB) rc hc).2
set_option maxHeartbeats 2000000 in
theorem an_safe {K : Nat} (hK : 1000000000 ≤ K) {w tm : Int32} {pn : Nat} {LL : List Nat} {sv : Nat → Nat → Int32} {lvf : Nat → Int32} {stp : Int32} {wp : Nat} {x1 : Int32} {x2 : Int64} {x3 x4 po ps : Int32} {fv : Nat → Int64} {fk : Nat → Int32} {b1 b2 b3 : Int32} {fn fl : Nat → Int32} {sz us : Int32} {pg : Nat → Option Nat} {pk : Nat → Int32} {cs ou many : Int32} {astm asm : Nat → Int32} {alev : Nat → Int32} {m_th : Int32} {m_a1 : Int32} {m_a2 : Int32} {m_ip : Int32} {m_isec : Int32} {m_heaps : Int32} {m_avls : Nat → Int32} {m_abke : Nat → Int32} {m_abko : Nat → Int32} {m_abkl : Nat → Int32} {m_acel : Nat → Int32} {m_atap : Nat → Int32} {m_atpl : Nat → Int32} {m_sen : Nat → Int64} {m_hpo : Nat → Int32} {m_hpm : Nat → Int32} {m_bgn : Nat → Int32} {m_chn : Nat → Int32} {m_sgt : Nat → Int64} {rc : (Int32 × Nat × Int32 × Int64 × Int32 × Int32 × Int32 × Int32 × (Nat → Int64) × (Nat → Int32) × Int32 × Int32 × Int32 × (Nat → Int32) × (Nat → Int32))} {rm : (Int32 × Int32 × Int32 × Int32 × Int32 × Int32 × Int32 × (Nat → Int32) × (Nat → Int32) × (Nat → Int32) × (Nat → Int32) × (Nat → Int32) × (Nat → Int32) × (Nat → Int32) × (Nat → Int64) × (Nat → Int32) × (Nat → Int32) × (Nat → Int32) × (Nat → Int32) × (Nat → Int64))} (hl : lvf = alev) (hP : SameP pg sv pk sz cs ou us many astm asm) (hcs : CSz cs) (hT : okT many astm asm) (hca : CaA pg sv pk sz cs ou us many astm asm stp fv fk) (hc : F_X9_safe K w tm pn LL sv lvf stp wp x1 x2 x3 x4 po ps fv fk b1 b2 b3 fn fl sz us pg pk = some rc) (hm : F_m_safe K w tm m_th many m_a1 m_a2 m_ip m_isec m_heaps alev astm asm m_avls m_abke m_abko m_abkl m_acel m_atap m_atpl m_sen m_hpo m_hpm m_bgn m_chn m_sgt = some rm) : rc.1 = rm.1 := by
  subst hl
  obtain ⟨D, M, N, hB⟩ := hP
  obtain ⟨⟨k9, v9, j9, hH, hgd⟩, hD, hs, hmany, hou, hus, hRC, hRF⟩ := id hB
  obtain ⟨dp, hN, hC, hF, hV⟩ := SameB.cr hB hcs hT
  obtain ⟨ub, u1, u2, u3⟩ := us_b hC hN
  have a := (E_X9_safe K hK w tm pn LL sv lvf stp wp x1 x2 x3 x4 po ps fv fk b1 b2 b3 fn fl sz us pg pk D M N dp ub u1 (hus.trans u2) u3 hs hD hC hN hV (hca D M N hB) rc hc).1
  have b := E_m_safe K hK w tm m_th many m_a1 m_a2 m_ip m_isec m_heaps lvf astm asm m_avls m_abke m_abko m_abkl m_acel m_atap m_atpl m_sen m_hpo m_hpm m_bgn m_chn m_sgt D M N dp hmany hD hF hN hV ub u1 u3 rm hm
  rcases a with ⟨a1, a2⟩ | ⟨a1, a2⟩
  · rcases b with ⟨b1, b2⟩ | ⟨b1, b2⟩
    · rw [a2, b2]
    · exact absurd b1 a1
  · rcases b with ⟨b1, b2⟩ | ⟨b1, b2⟩
    · exact absurd a1 b1
    · exact SfeP_u a2 b2
set_option maxHeartbeats 2000000 in
theorem ca_pair {K : Nat} (hK : 1000000000 ≤ K) {w tm l3 : Int32} {pn : Nat} {LL : List Nat} {sv : Nat → Nat → Int32} {lvf : Nat → Int32} {stp : Int32} {wp : Nat} {x1 : Int32} {x2 : Int64} {x3 x4 po ps : Int32} {fv : Nat → Int64} {fk : Nat → Int32} {b1 b2 b3 : Int32} {fn fl : Nat → Int32} {sz us : Int32} {pg : Nat → Option Nat} {pk : Nat → Int32} {cs ou many : Int32} {astm asm : Nat → Int32} {rc : (Int32 × Nat × Int32 × Int64 × Int32 × Int32 × Int32 × Int32 × (Nat → Int64) × (Nat → Int32) × Int32 × Int32 × Int32 × (Nat → Int32) × (Nat → Int32))} (hcs : CSz cs) (hT : okT many astm asm) (hca : CaA pg sv pk sz cs ou us many astm asm stp fv fk) (hc : F_X9_pair K w tm l3 pn LL sv lvf stp wp x1 x2 x3 x4 po ps fv fk b1 b2 b3 fn fl sz us pg pk = some rc) : CaA pg sv pk sz cs ou us many astm asm stp rc.2.2.2.2.2.2.2.2.1 rc.2.2.2.2.2.2.2.2.2.1 := by
  intro D M N hB
  obtain ⟨⟨k9, v9, j9, hH, hgd⟩, hD, hs, hmany, hou, hus, hRC, hRF⟩ := id hB
  obtain ⟨dp, hN, hC, hF, hV⟩ := SameB.cr hB hcs hT
  obtain ⟨ub, u1, u2, u3⟩ := us_b hC hN
  exact (E_X9_pair K hK w tm l3 pn LL sv lvf stp wp x1 x2 x3 x4 po ps fv fk b1 b2 b3 fn fl sz us pg pk D M N dp ub u1 (hus.trans u2) u3 hs hD hC hN hV (hca D M N hB) rc hc).2
set_option maxHeartbeats 2000000 in
theorem an_pair {K : Nat} (hK : 1000000000 ≤ K) {w tm l3 : Int32} {pn : Nat} {LL : List Nat} {sv : Nat → Nat → Int32} {lvf : Nat → Int32} {stp : Int32} {wp : Nat} {x1 : Int32} {x2 : Int64} {x3 x4 po ps : Int32} {fv : Nat → Int64} {fk : Nat → Int32} {b1 b2 b3 : Int32} {fn fl : Nat → Int32} {sz us : Int32} {pg : Nat → Option Nat} {pk : Nat → Int32} {cs ou many : Int32} {astm asm : Nat → Int32} {alev : Nat → Int32} {m_th : Int32} {m_a1 : Int32} {m_a2 : Int32} {m_ip : Int32} {m_isec : Int32} {m_heaps : Int32} {m_avls : Nat → Int32} {m_abke : Nat → Int32} {m_abko : Nat → Int32} {m_abkl : Nat → Int32} {m_acel : Nat → Int32} {m_atap : Nat → Int32} {m_atpl : Nat → Int32} {m_sen : Nat → Int64} {m_hpo : Nat → Int32} {m_hpm : Nat → Int32} {m_bgn : Nat → Int32} {m_chn : Nat → Int32} {m_sgt : Nat → Int64} {rc : (Int32 × Nat × Int32 × Int64 × Int32 × Int32 × Int32 × Int32 × (Nat → Int64) × (Nat → Int32) × Int32 × Int32 × Int32 × (Nat → Int32) × (Nat → Int32))} {rm : (Int32 × Int32 × Int32 × Int32 × Int32 × Int32 × Int32 × (Nat → Int32) × (Nat → Int32) × (Nat → Int32) × (Nat → Int32) × (Nat → Int32) × (Nat → Int32) × (Nat → Int32) × (Nat → Int64) × (Nat → Int32) × (Nat → Int32) × (Nat → Int32) × (Nat → Int32) × (Nat → Int64))} (hl : lvf = alev) (hP : SameP pg sv pk sz cs ou us many astm asm) (hcs : CSz cs) (hT : okT many astm asm) (hca : CaA pg sv pk sz cs ou us many astm asm stp fv fk) (hc : F_X9_pair K w tm l3 pn LL sv lvf stp wp x1 x2 x3 x4 po ps fv fk b1 b2 b3 fn fl sz us pg pk = some rc) (hm : F_m_pair K w tm l3 m_th many m_a1 m_a2 m_ip m_isec m_heaps alev astm asm m_avls m_abke m_abko m_abkl m_acel m_atap m_atpl m_sen m_hpo m_hpm m_bgn m_chn m_sgt = some rm) : rc.1 = rm.1 := by
  subst hl
  obtain ⟨D, M, N, hB⟩ := hP
  obtain ⟨⟨k9, v9, j9, hH, hgd⟩, hD, hs, hmany, hou, hus, hRC, hRF⟩ := id hB
  obtain ⟨dp, hN, hC, hF, hV⟩ := SameB.cr hB hcs hT
  obtain ⟨ub, u1, u2, u3⟩ := us_b hC hN
  have a := (E_X9_pair K hK w tm l3 pn LL sv lvf stp wp x1 x2 x3 x4 po ps fv fk b1 b2 b3 fn fl sz us pg pk D M N dp ub u1 (hus.trans u2) u3 hs hD hC hN hV (hca D M N hB) rc hc).1
  have b := E_m_pair K hK w tm l3 m_th many m_a1 m_a2 m_ip m_isec m_heaps lvf astm asm m_avls m_abke m_abko m_abkl m_acel m_atap m_atpl m_sen m_hpo m_hpm m_bgn m_chn m_sgt D M N dp hmany hD hF hN hV ub u1 u3 rm hm
  rcases a with ⟨a1, a2⟩ | ⟨a1, a2⟩
  · rcases b with ⟨b1, b2⟩ | ⟨b1, b2⟩
    · rw [a2, b2]
    · exact absurd b1 a1
  · rcases b with ⟨b1, b2⟩ | ⟨b1, b2⟩
    · exact absurd a1 b1
    · exact PaiP_u a2 b2
set_option maxHeartbeats 2000000 in
theorem ca_most {K : Nat} (hK : 1000000000 ≤ K) {w tm l3 : Int32} {pn : Nat} {LL : List Nat} {sv : Nat → Nat → Int32} {lvf : Nat → Int32} {stp : Int32} {wp : Nat} {x1 : Int32} {x2 : Int64} {x3 x4 mo : Int32} {fv : Nat → Int64} {fk : Nat → Int32} {b1 b2 b3 : Int32} {fn fl : Nat → Int32} {t1 t2 t3 : Int32} {gf gs : Nat → Int64} {gz go : Nat → Int32} {sz us : Int32} {pg : Nat → Option Nat} {pk : Nat → Int32} {cs ou many : Int32} {astm asm : Nat → Int32} {rc : (Int32 × Nat × Int32 × Int64 × Int32 × Int32 × Int32 × (Nat → Int64) × (Nat → Int32) × Int32 × Int32 × Int32 × (Nat → Int32) × (Nat → Int32) × Int32 × Int32 × Int32 × (Nat → Int64) × (Nat → Int64) × (Nat → Int32) × (Nat → Int32))} (hcs : CSz cs) (hT : okT many astm asm) (hca : CaA pg sv pk sz cs ou us many astm asm stp fv fk) (hc : F_X9_most K w tm l3 pn LL sv lvf stp wp x1 x2 x3 x4 mo fv fk b1 b2 b3 fn fl t1 t2 t3 gf gs gz go sz us pg pk = some rc) : CaA pg sv pk sz cs ou us many astm asm stp rc.2.2.2.2.2.2.2.1 rc.2.2.2.2.2.2.2.2.1 := by
  intro D M N hB
  obtain ⟨⟨k9, v9, j9, hH, hgd⟩, hD, hs, hmany, hou, hus, hRC, hRF⟩ := id hB
  obtain ⟨dp, hN, hC, hF, hV⟩ := SameB.cr hB hcs hT
  obtain ⟨ub, u1, u2, u3⟩ := us_b hC hN
  exact (E_X9_most K hK w tm l3 pn LL sv lvf stp wp x1 x2 x3 x4 mo fv fk b1 b2 b3 fn fl t1 t2 t3 gf gs gz go sz us pg pk D M N dp ub u1 (hus.trans u2) u3 hs hD hC hN hV (hca D M N hB) rc hc).2
set_option maxHeartbeats 2000000 in
theorem an_most {K : Nat} (hK : 1000000000 ≤ K) {w tm l3 : Int32} {pn : Nat} {LL : List Nat} {sv : Nat → Nat → Int32} {lvf : Nat → Int32} {stp : Int32} {wp : Nat} {x1 : Int32} {x2 : Int64} {x3 x4 mo : Int32} {fv : Nat → Int64} {fk : Nat → Int32} {b1 b2 b3 : Int32} {fn fl : Nat → Int32} {t1 t2 t3 : Int32} {gf gs : Nat → Int64} {gz go : Nat → Int32} {sz us : Int32} {pg : Nat → Option Nat} {pk : Nat → Int32} {cs ou many : Int32} {astm asm : Nat → Int32} {alev : Nat → Int32} {m_th : Int32} {m_a1 : Int32} {m_a2 : Int32} {m_ip : Int32} {m_isec : Int32} {m_heaps : Int32} {m_avls : Nat → Int32} {m_abke : Nat → Int32} {m_abko : Nat → Int32} {m_abkl : Nat → Int32} {m_acel : Nat → Int32} {m_atap : Nat → Int32} {m_atpl : Nat → Int32} {m_sen : Nat → Int64} {m_hpo : Nat → Int32} {m_hpm : Nat → Int32} {m_bgn : Nat → Int32} {m_chn : Nat → Int32} {m_sgt : Nat → Int64} {rc : (Int32 × Nat × Int32 × Int64 × Int32 × Int32 × Int32 × (Nat → Int64) × (Nat → Int32) × Int32 × Int32 × Int32 × (Nat → Int32) × (Nat → Int32) × Int32 × Int32 × Int32 × (Nat → Int64) × (Nat → Int64) × (Nat → Int32) × (Nat → Int32))} {rm : (Int32 × Int32 × Int32 × Int32 × Int32 × Int32 × Int32 × (Nat → Int32) × (Nat → Int32) × (Nat → Int32) × (Nat → Int32) × (Nat → Int32) × (Nat → Int32) × (Nat → Int32) × (Nat → Int64) × (Nat → Int32) × (Nat → Int32) × (Nat → Int32) × (Nat → Int32) × (Nat → Int64))} (hl : lvf = alev) (hP : SameP pg sv pk sz cs ou us many astm asm) (hcs : CSz cs) (hT : okT many astm asm) (hca : CaA pg sv pk sz cs ou us many astm asm stp fv fk) (hc : F_X9_most K w tm l3 pn LL sv lvf stp wp x1 x2 x3 x4 mo fv fk b1 b2 b3 fn fl t1 t2 t3 gf gs gz go sz us pg pk = some rc) (hm : F_m_most K w tm l3 m_th many m_a1 m_a2 m_ip m_isec m_heaps alev astm asm m_avls m_abke m_abko m_abkl m_acel m_atap m_atpl m_sen m_hpo m_hpm m_bgn m_chn m_sgt = some rm) : rc.1 = rm.1 := by
  subst hl
  obtain ⟨D, M, N, hB⟩ := hP
  obtain ⟨⟨k9, v9, j9, hH, hgd⟩, hD, hs, hmany, hou, hus, hRC, hRF⟩ := id hB
  obtain ⟨dp, hN, hC, hF, hV⟩ := SameB.cr hB hcs hT
  obtain ⟨ub, u1, u2, u3⟩ := us_b hC hN
  have a := (E_X9_most K hK w tm l3 pn LL sv lvf stp wp x1 x2 x3 x4 mo fv fk b1 b2 b3 fn fl t1 t2 t3 gf gs gz go sz us pg pk D M N dp ub u1 (hus.trans u2) u3 hs hD hC hN hV (hca D M N hB) rc hc).1
  have b := E_m_most K hK w tm l3 m_th many m_a1 m_a2 m_ip m_isec m_heaps lvf astm asm m_avls m_abke m_abko m_abkl m_acel m_atap m_atpl m_sen m_hpo m_hpm m_bgn m_chn m_sgt D M N dp hmany hD hF hN hV ub u1 u3 rm hm
  rcases a with ⟨a1, a2⟩ | ⟨a1, a2⟩
  · rcases b with ⟨b1, b2⟩ | ⟨b1, b2⟩
    · rw [a2, b2]
    · exact absurd b1 a1
  · rcases b with ⟨b1, b2⟩ | ⟨b1, b2⟩
    · exact absurd a1 b1
    · exact MosP_u a2 b2
set_option maxHeartbeats 2000000 in
theorem ca_together {K : Nat} (hK : 1000000000 ≤ K) {w tm l3 l4 : Int32} {pn : Nat} {LL : List Nat} {sv : Nat → Nat → Int32} {lvf : Nat → Int32} {stp : Int32} {wp : Nat} {x1 : Int32} {x2 : Int64} {x3 x4 : Int32} {fv : Nat → Int64} {fk : Nat → Int32} {b1 b2 b3 : Int32} {fn fl : Nat → Int32} {t1 t2 t3 : Int32} {gf gs : Nat → Int64} {gz go : Nat → Int32} {sz us : Int32} {pg : Nat → Option Nat} {pk : Nat → Int32} {cs ou many : Int32} {astm asm : Nat → Int32} {rc : (Int32 × Nat × Int32 × Int64 × Int32 × Int32 × (Nat → Int64) × (Nat → Int32) × Int32 × Int32 × Int32 × (Nat → Int32) × (Nat → Int32) × Int32 × Int32 × Int32 × (Nat → Int64) × (Nat → Int64) × (Nat → Int32) × (Nat → Int32))} (hcs : CSz cs) (hT : okT many astm asm) (hca : CaA pg sv pk sz cs ou us many astm asm stp fv fk) (hc : F_X9_together K w tm l3 l4 pn LL sv lvf stp wp x1 x2 x3 x4 fv fk b1 b2 b3 fn fl t1 t2 t3 gf gs gz go sz us pg pk = some rc) : CaA pg sv pk sz cs ou us many astm asm stp rc.2.2.2.2.2.2.1 rc.2.2.2.2.2.2.2.1 := by
  intro D M N hB
  obtain ⟨⟨k9, v9, j9, hH, hgd⟩, hD, hs, hmany, hou, hus, hRC, hRF⟩ := id hB
  obtain ⟨dp, hN, hC, hF, hV⟩ := SameB.cr hB hcs hT
  obtain ⟨ub, u1, u2, u3⟩ := us_b hC hN
  exact (E_X9_together K hK w tm l3 l4 pn LL sv lvf stp wp x1 x2 x3 x4 fv fk b1 b2 b3 fn fl t1 t2 t3 gf gs gz go sz us pg pk D M N dp ub u1 (hus.trans u2) u3 hs hD hC hN hV (hca D M N hB) rc hc).2
set_option maxHeartbeats 2000000 in
theorem an_together {K : Nat} (hK : 1000000000 ≤ K) {w tm l3 l4 : Int32} {pn : Nat} {LL : List Nat} {sv : Nat → Nat → Int32} {lvf : Nat → Int32} {stp : Int32} {wp : Nat} {x1 : Int32} {x2 : Int64} {x3 x4 : Int32} {fv : Nat → Int64} {fk : Nat → Int32} {b1 b2 b3 : Int32} {fn fl : Nat → Int32} {t1 t2 t3 : Int32} {gf gs : Nat → Int64} {gz go : Nat → Int32} {sz us : Int32} {pg : Nat → Option Nat} {pk : Nat → Int32} {cs ou many : Int32} {astm asm : Nat → Int32} {alev : Nat → Int32} {m_th : Int32} {m_a1 : Int32} {m_a2 : Int32} {m_ip : Int32} {m_isec : Int32} {m_heaps : Int32} {m_avls : Nat → Int32} {m_abke : Nat → Int32} {m_abko : Nat → Int32} {m_abkl : Nat → Int32} {m_acel : Nat → Int32} {m_atap : Nat → Int32} {m_atpl : Nat → Int32} {m_sen : Nat → Int64} {m_hpo : Nat → Int32} {m_hpm : Nat → Int32} {m_bgn : Nat → Int32} {m_chn : Nat → Int32} {m_sgt : Nat → Int64} {rc : (Int32 × Nat × Int32 × Int64 × Int32 × Int32 × (Nat → Int64) × (Nat → Int32) × Int32 × Int32 × Int32 × (Nat → Int32) × (Nat → Int32) × Int32 × Int32 × Int32 × (Nat → Int64) × (Nat → Int64) × (Nat → Int32) × (Nat → Int32))} {rm : (Int32 × Int32 × Int32 × Int32 × Int32 × Int32 × Int32 × (Nat → Int32) × (Nat → Int32) × (Nat → Int32) × (Nat → Int32) × (Nat → Int32) × (Nat → Int32) × (Nat → Int32) × (Nat → Int64) × (Nat → Int32) × (Nat → Int32) × (Nat → Int32) × (Nat → Int32) × (Nat → Int64))} (hl : lvf = alev) (hP : SameP pg sv pk sz cs ou us many astm asm) (hcs : CSz cs) (hT : okT many astm asm) (hca : CaA pg sv pk sz cs ou us many astm asm stp fv fk) (hc : F_X9_together K w tm l3 l4 pn LL sv lvf stp wp x1 x2 x3 x4 fv fk b1 b2 b3 fn fl t1 t2 t3 gf gs gz go sz us pg pk = some rc) (hm : F_m_together K w tm l3 l4 m_th many m_a1 m_a2 m_ip m_isec m_heaps alev astm asm m_avls m_abke m_abko m_abkl m_acel m_atap m_atpl m_sen m_hpo m_hpm m_bgn m_chn m_sgt = some rm) : rc.1 = rm.1 := by
  subst hl
  obtain ⟨D, M, N, hB⟩ := hP
  obtain ⟨⟨k9, v9, j9, hH, hgd⟩, hD, hs, hmany, hou, hus, hRC, hRF⟩ := id hB
  obtain ⟨dp, hN, hC, hF, hV⟩ := SameB.cr hB hcs hT
  obtain ⟨ub, u1, u2, u3⟩ := us_b hC hN
  have a := (E_X9_together K hK w tm l3 l4 pn LL sv lvf stp wp x1 x2 x3 x4 fv fk b1 b2 b3 fn fl t1 t2 t3 gf gs gz go sz us pg pk D M N dp ub u1 (hus.trans u2) u3 hs hD hC hN hV (hca D M N hB) rc hc).1
  have b := E_m_together K hK w tm l3 l4 m_th many m_a1 m_a2 m_ip m_isec m_heaps lvf astm asm m_avls m_abke m_abko m_abkl m_acel m_atap m_atpl m_sen m_hpo m_hpm m_bgn m_chn m_sgt D M N dp hmany hD hF hN hV ub u1 u3 rm hm
  rcases a with ⟨a1, a2⟩ | ⟨a1, a2⟩
  · rcases b with ⟨b1, b2⟩ | ⟨b1, b2⟩
    · rw [a2, b2]
    · exact absurd b1 a1
  · rcases b with ⟨b1, b2⟩ | ⟨b1, b2⟩
    · exact absurd a1 b1
    · exact TogP_u (wiL_len _ _) a2 b2
set_option maxHeartbeats 2000000 in
theorem ca_both {K : Nat} (hK : 1000000000 ≤ K) {tm l2 : Int32} {pn : Nat} {LL : List Nat} {sv : Nat → Nat → Int32} {lvf : Nat → Int32} {stp : Int32} {wp : Nat} {x1 : Int32} {x2 : Int64} {x3 x4 : Int32} {fv : Nat → Int64} {fk : Nat → Int32} {b1 b2 b3 : Int32} {fn fl : Nat → Int32} {t1 t2 t3 : Int32} {gf gs : Nat → Int64} {gz go : Nat → Int32} {sz us : Int32} {pg : Nat → Option Nat} {pk : Nat → Int32} {cs ou many : Int32} {astm asm : Nat → Int32} {rc : (Int32 × Nat × Int32 × Int64 × Int32 × Int32 × (Nat → Int64) × (Nat → Int32) × Int32 × Int32 × Int32 × (Nat → Int32) × (Nat → Int32) × Int32 × Int32 × Int32 × (Nat → Int64) × (Nat → Int64) × (Nat → Int32) × (Nat → Int32))} (hcs : CSz cs) (hT : okT many astm asm) (hca : CaA pg sv pk sz cs ou us many astm asm stp fv fk) (hc : F_X9_both K tm l2 pn LL sv lvf stp wp x1 x2 x3 x4 fv fk b1 b2 b3 fn fl t1 t2 t3 gf gs gz go sz us pg pk = some rc) : CaA pg sv pk sz cs ou us many astm asm stp rc.2.2.2.2.2.2.1 rc.2.2.2.2.2.2.2.1 := by
  intro D M N hB
  obtain ⟨⟨k9, v9, j9, hH, hgd⟩, hD, hs, hmany, hou, hus, hRC, hRF⟩ := id hB
  obtain ⟨dp, hN, hC, hF, hV⟩ := SameB.cr hB hcs hT
  obtain ⟨ub, u1, u2, u3⟩ := us_b hC hN
  exact (E_X9_both K hK tm l2 pn LL sv lvf stp wp x1 x2 x3 x4 fv fk b1 b2 b3 fn fl t1 t2 t3 gf gs gz go sz us pg pk D M N dp ub u1 (hus.trans u2) u3 hs hD hC hN hV (hca D M N hB) rc hc).2
set_option maxHeartbeats 2000000 in
theorem an_both {K : Nat} (hK : 1000000000 ≤ K) {tm l2 : Int32} {pn : Nat} {LL : List Nat} {sv : Nat → Nat → Int32} {lvf : Nat → Int32} {stp : Int32} {wp : Nat} {x1 : Int32} {x2 : Int64} {x3 x4 : Int32} {fv : Nat → Int64} {fk : Nat → Int32} {b1 b2 b3 : Int32} {fn fl : Nat → Int32} {t1 t2 t3 : Int32} {gf gs : Nat → Int64} {gz go : Nat → Int32} {sz us : Int32} {pg : Nat → Option Nat} {pk : Nat → Int32} {cs ou many : Int32} {astm asm : Nat → Int32} {alev : Nat → Int32} {m_th : Int32} {m_a1 : Int32} {m_a2 : Int32} {m_ip : Int32} {m_isec : Int32} {m_heaps : Int32} {m_avls : Nat → Int32} {m_abke : Nat → Int32} {m_abko : Nat → Int32} {m_abkl : Nat → Int32} {m_acel : Nat → Int32} {m_atap : Nat → Int32} {m_atpl : Nat → Int32} {m_sen : Nat → Int64} {m_hpo : Nat → Int32} {m_hpm : Nat → Int32} {m_bgn : Nat → Int32} {m_chn : Nat → Int32} {m_sgt : Nat → Int64} {rc : (Int32 × Nat × Int32 × Int64 × Int32 × Int32 × (Nat → Int64) × (Nat → Int32) × Int32 × Int32 × Int32 × (Nat → Int32) × (Nat → Int32) × Int32 × Int32 × Int32 × (Nat → Int64) × (Nat → Int64) × (Nat → Int32) × (Nat → Int32))} {rm : (Int32 × Int32 × Int32 × Int32 × Int32 × Int32 × Int32 × (Nat → Int32) × (Nat → Int32) × (Nat → Int32) × (Nat → Int32) × (Nat → Int32) × (Nat → Int32) × (Nat → Int32) × (Nat → Int64) × (Nat → Int32) × (Nat → Int32) × (Nat → Int32) × (Nat → Int32) × (Nat → Int64))} (hl : lvf = alev) (hlv : lv3 alev) (hP : SameP pg sv pk sz cs ou us many astm asm) (hcs : CSz cs) (hT : okT many astm asm) (hca : CaA pg sv pk sz cs ou us many astm asm stp fv fk) (hc : F_X9_both K tm l2 pn LL sv lvf stp wp x1 x2 x3 x4 fv fk b1 b2 b3 fn fl t1 t2 t3 gf gs gz go sz us pg pk = some rc) (hm : F_m_both K tm l2 m_th many m_a1 m_a2 m_ip m_isec m_heaps alev astm asm m_avls m_abke m_abko m_abkl m_acel m_atap m_atpl m_sen m_hpo m_hpm m_bgn m_chn m_sgt = some rm) : rc.1 = rm.1 := by
  subst hl
  obtain ⟨D, M, N, hB⟩ := hP
  obtain ⟨⟨k9, v9, j9, hH, hgd⟩, hD, hs, hmany, hou, hus, hRC, hRF⟩ := id hB
  obtain ⟨dp, hN, hC, hF, hV⟩ := SameB.cr hB hcs hT
  obtain ⟨ub, u1, u2, u3⟩ := us_b hC hN
  have a := (E_X9_both K hK tm l2 pn LL sv lvf stp wp x1 x2 x3 x4 fv fk b1 b2 b3 fn fl t1 t2 t3 gf gs gz go sz us pg pk D M N dp ub u1 (hus.trans u2) u3 hs hD hC hN hV (hca D M N hB) rc hc).1
  have b := E_m_both K hK tm l2 m_th many m_a1 m_a2 m_ip m_isec m_heaps lvf astm asm m_avls m_abke m_abko m_abkl m_acel m_atap m_atpl m_sen m_hpo m_hpm m_bgn m_chn m_sgt D M N dp hmany hD hF hN hV ub u1 u3 hlv rm hm
  rcases a with ⟨a1, a2⟩ | ⟨a1, a2⟩
  · rcases b with ⟨b1, b2⟩ | ⟨b1, b2⟩
    · rw [a2, b2]
    · exact absurd b1 a1
  · rcases b with ⟨b1, b2⟩ | ⟨b1, b2⟩
    · exact absurd a1 b1
    · exact BotP_u a2 b2
set_option maxHeartbeats 2000000 in
theorem ca_stop {K : Nat} (hK : 1000000000 ≤ K) {w tm l3 : Int32} {pn : Nat} {LL : List Nat} {sv : Nat → Nat → Int32} {lvf : Nat → Int32} {stp tt : Int32} {wp : Nat} {x1 : Int32} {x2 : Int64} {x3 x4 po ps : Int32} {fv : Nat → Int64} {fk fo fs : Nat → Int32} {b1 b2 b3 : Int32} {fn fl : Nat → Int32} {sz ou us : Int32} {pg : Nat → Option Nat} {pk : Nat → Int32} {cs many : Int32} {astm asm : Nat → Int32} {rc : (Int32 × Int32 × Nat × Int32 × Int64 × Int32 × Int32 × Int32 × Int32 × (Nat → Int64) × (Nat → Int32) × (Nat → Int32) × (Nat → Int32) × Int32 × Int32 × Int32 × (Nat → Int32) × (Nat → Int32))} (hcs : CSz cs) (hT : okT many astm asm) (hca : CaA pg sv pk sz cs ou us many astm asm stp fv fk) (hc : F_X9_stop K w tm l3 pn LL sv lvf stp tt wp x1 x2 x3 x4 po ps fv fk fo fs b1 b2 b3 fn fl sz ou us pg pk = some rc) : CaA pg sv pk sz cs ou us many astm asm stp rc.2.2.2.2.2.2.2.2.2.1 rc.2.2.2.2.2.2.2.2.2.2.1 := by
  intro D M N hB
  obtain ⟨⟨k9, v9, j9, hH, hgd⟩, hD, hs, hmany, hou, hus, hRC, hRF⟩ := id hB
  obtain ⟨dp, hN, hC, hF, hV⟩ := SameB.cr hB hcs hT
  obtain ⟨ub, u1, u2, u3⟩ := us_b hC hN
  exact (E_X9_stop K hK w tm l3 pn LL sv lvf stp tt wp x1 x2 x3 x4 po ps fv fk fo fs b1 b2 b3 fn fl sz ou us pg pk D M N dp ub u1 (hus.trans u2) u3 hs hou hD hC hN hV (hca D M N hB) rc hc).2
set_option maxHeartbeats 2000000 in
theorem an_stop {K : Nat} (hK : 1000000000 ≤ K) {w tm l3 : Int32} {pn : Nat} {LL : List Nat} {sv : Nat → Nat → Int32} {lvf : Nat → Int32} {stp tt : Int32} {wp : Nat} {x1 : Int32} {x2 : Int64} {x3 x4 po ps : Int32} {fv : Nat → Int64} {fk fo fs : Nat → Int32} {b1 b2 b3 : Int32} {fn fl : Nat → Int32} {sz ou us : Int32} {pg : Nat → Option Nat} {pk : Nat → Int32} {cs many : Int32} {astm asm : Nat → Int32} {alev : Nat → Int32} {m_th : Int32} {m_a1 : Int32} {m_a2 : Int32} {m_ip : Int32} {m_isec : Int32} {m_heaps : Int32} {m_avls : Nat → Int32} {m_abke : Nat → Int32} {m_abko : Nat → Int32} {m_abkl : Nat → Int32} {m_acel : Nat → Int32} {m_atap : Nat → Int32} {m_atpl : Nat → Int32} {m_sen : Nat → Int64} {m_hpo : Nat → Int32} {m_hpm : Nat → Int32} {m_bgn : Nat → Int32} {m_chn : Nat → Int32} {m_sgt : Nat → Int64} {rc : (Int32 × Int32 × Nat × Int32 × Int64 × Int32 × Int32 × Int32 × Int32 × (Nat → Int64) × (Nat → Int32) × (Nat → Int32) × (Nat → Int32) × Int32 × Int32 × Int32 × (Nat → Int32) × (Nat → Int32))} {rm : (Int32 × Int32 × Int32 × Int32 × Int32 × Int32 × Int32 × (Nat → Int32) × (Nat → Int32) × (Nat → Int32) × (Nat → Int32) × (Nat → Int32) × (Nat → Int32) × (Nat → Int32) × (Nat → Int64) × (Nat → Int32) × (Nat → Int32) × (Nat → Int32) × (Nat → Int32) × (Nat → Int64))} (hl : lvf = alev) (hP : SameP pg sv pk sz cs ou us many astm asm) (hcs : CSz cs) (hT : okT many astm asm) (hca : CaA pg sv pk sz cs ou us many astm asm stp fv fk) (hc : F_X9_stop K w tm l3 pn LL sv lvf stp tt wp x1 x2 x3 x4 po ps fv fk fo fs b1 b2 b3 fn fl sz ou us pg pk = some rc) (hm : F_m_stop K w tm l3 m_th many m_a1 m_a2 m_ip m_isec m_heaps alev astm asm m_avls m_abke m_abko m_abkl m_acel m_atap m_atpl m_sen m_hpo m_hpm m_bgn m_chn m_sgt = some rm) : rc.1 = rm.1 := by
  subst hl
  obtain ⟨D, M, N, hB⟩ := hP
  obtain ⟨⟨k9, v9, j9, hH, hgd⟩, hD, hs, hmany, hou, hus, hRC, hRF⟩ := id hB
  obtain ⟨dp, hN, hC, hF, hV⟩ := SameB.cr hB hcs hT
  obtain ⟨ub, u1, u2, u3⟩ := us_b hC hN
  have a := (E_X9_stop K hK w tm l3 pn LL sv lvf stp tt wp x1 x2 x3 x4 po ps fv fk fo fs b1 b2 b3 fn fl sz ou us pg pk D M N dp ub u1 (hus.trans u2) u3 hs hou hD hC hN hV (hca D M N hB) rc hc).1
  have b := E_m_stop K hK w tm l3 m_th many m_a1 m_a2 m_ip m_isec m_heaps lvf astm asm m_avls m_abke m_abko m_abkl m_acel m_atap m_atpl m_sen m_hpo m_hpm m_bgn m_chn m_sgt D M N dp hmany hD hF (fun i hi => by obtain ⟨r9, _, y1, y2, _⟩ := hRF i hi; exact ⟨r9, y1, y2⟩) hN hV ub u1 u3 rm hm
  rcases a with ⟨a1, a2⟩ | ⟨a1, a2⟩
  · rcases b with ⟨b1, b2⟩ | ⟨b1, b2⟩
    · rw [a2, b2]
    · exact absurd b1 a1
  · rcases b with ⟨b1, b2⟩ | ⟨b1, b2⟩
    · exact absurd a1 b1
    · exact StoP_u a2 b2
set_option maxHeartbeats 2000000 in
theorem ca_tooMuch {K : Nat} (hK : 1000000000 ≤ K) {pn : Nat} {LL : List Nat} {sv : Nat → Nat → Int32} {lvf flfh flfs : Nat → Int32} {stp : Int32} {wp : Nat} {x1 : Int32} {x2 : Int64} {x3 x4 po ps : Int32} {fv : Nat → Int64} {fk : Nat → Int32} {b1 b2 b3 : Int32} {fn fl : Nat → Int32} {sz us : Int32} {pg : Nat → Option Nat} {pk : Nat → Int32} {cs ou many : Int32} {astm asm : Nat → Int32} {rc : (Int32 × (Nat → Int32) × (Nat → Int32) × Nat × Int32 × Int64 × Int32 × Int32 × Int32 × Int32 × (Nat → Int64) × (Nat → Int32) × Int32 × Int32 × Int32 × (Nat → Int32) × (Nat → Int32))} (hcs : CSz cs) (hT : okT many astm asm) (hca : CaA pg sv pk sz cs ou us many astm asm stp fv fk) (hc : F_X9_tooMuch K pn LL sv lvf flfh flfs stp wp x1 x2 x3 x4 po ps fv fk b1 b2 b3 fn fl sz us pg pk = some rc) : CaA pg sv pk sz cs ou us many astm asm stp rc.2.2.2.2.2.2.2.2.2.2.1 rc.2.2.2.2.2.2.2.2.2.2.2.1 := by
  intro D M N hB
  obtain ⟨⟨k9, v9, j9, hH, hgd⟩, hD, hs, hmany, hou, hus, hRC, hRF⟩ := id hB
  obtain ⟨dp, hN, hC, hF, hV⟩ := SameB.cr hB hcs hT
  obtain ⟨ub, u1, u2, u3⟩ := us_b hC hN
  exact (E_X9_tooMuch K hK pn LL sv lvf flfh flfs stp wp x1 x2 x3 x4 po ps fv fk b1 b2 b3 fn fl sz us pg pk D M N dp ub u1 (hus.trans u2) u3 hs hD hC (RowC.cfl hRC) hN hV (hca D M N hB) rc hc).2
set_option maxHeartbeats 2000000 in
theorem an_tooMuch {K : Nat} (hK : 1000000000 ≤ K) {pn : Nat} {LL : List Nat} {sv : Nat → Nat → Int32} {lvf flfh flfs : Nat → Int32} {stp : Int32} {wp : Nat} {x1 : Int32} {x2 : Int64} {x3 x4 po ps : Int32} {fv : Nat → Int64} {fk : Nat → Int32} {b1 b2 b3 : Int32} {fn fl : Nat → Int32} {sz us : Int32} {pg : Nat → Option Nat} {pk : Nat → Int32} {cs ou many : Int32} {astm asm : Nat → Int32} {alev : Nat → Int32} {m_th : Int32} {m_a1 : Int32} {m_a2 : Int32} {m_ip : Int32} {m_isec : Int32} {m_heaps : Int32} {m_avls : Nat → Int32} {m_abke : Nat → Int32} {m_abko : Nat → Int32} {m_abkl : Nat → Int32} {m_acel : Nat → Int32} {m_atap : Nat → Int32} {m_atpl : Nat → Int32} {m_sen : Nat → Int64} {m_hpo : Nat → Int32} {m_hpm : Nat → Int32} {m_bgn : Nat → Int32} {m_chn : Nat → Int32} {m_sgt : Nat → Int64} {m_arsd : Nat → Int32} {rc : (Int32 × (Nat → Int32) × (Nat → Int32) × Nat × Int32 × Int64 × Int32 × Int32 × Int32 × Int32 × (Nat → Int64) × (Nat → Int32) × Int32 × Int32 × Int32 × (Nat → Int32) × (Nat → Int32))} {rm : (Int32 × Int32 × Int32 × Int32 × Int32 × Int32 × Int32 × (Nat → Int32) × (Nat → Int32) × (Nat → Int32) × (Nat → Int32) × (Nat → Int32) × (Nat → Int32) × (Nat → Int32) × (Nat → Int64) × (Nat → Int32) × (Nat → Int32) × (Nat → Int32) × (Nat → Int32) × (Nat → Int64))} (hl : lvf = alev) (hP : SameP pg sv pk sz cs ou us many astm asm) (hcs : CSz cs) (hT : okT many astm asm) (hca : CaA pg sv pk sz cs ou us many astm asm stp fv fk) (hc : F_X9_tooMuch K pn LL sv lvf flfh flfs stp wp x1 x2 x3 x4 po ps fv fk b1 b2 b3 fn fl sz us pg pk = some rc) (hm : F_m_tooMuch K m_th many m_a1 m_a2 m_ip m_isec m_heaps alev astm asm m_avls m_abke m_abko m_abkl m_acel m_atap m_atpl m_sen m_hpo m_hpm m_bgn m_chn m_sgt m_arsd = some rm) : rc.1 = rm.1 := by
  subst hl
  obtain ⟨D, M, N, hB⟩ := hP
  obtain ⟨⟨k9, v9, j9, hH, hgd⟩, hD, hs, hmany, hou, hus, hRC, hRF⟩ := id hB
  obtain ⟨dp, hN, hC, hF, hV⟩ := SameB.cr hB hcs hT
  obtain ⟨ub, u1, u2, u3⟩ := us_b hC hN
  have a := (E_X9_tooMuch K hK pn LL sv lvf flfh flfs stp wp x1 x2 x3 x4 po ps fv fk b1 b2 b3 fn fl sz us pg pk D M N dp ub u1 (hus.trans u2) u3 hs hD hC (RowC.cfl hRC) hN hV (hca D M N hB) rc hc).1
  have b := E_m_tooMuch K hK m_th many m_a1 m_a2 m_ip m_isec m_heaps lvf astm asm m_avls m_abke m_abko m_abkl m_acel m_atap m_atpl m_sen m_hpo m_hpm m_bgn m_chn m_sgt m_arsd D M N dp hmany hD hF hRF hN hV ub u1 u3 rm hm
  exact TmuP_u a b
