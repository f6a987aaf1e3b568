/-! tooMuch -/
def SafW (D : List SRc) (M N : Nat → Nat) (g : Nat → Int32) (v : Nat) : Prop := SafX D M N 0 (Int32.ofNat v) 0 (wiL g (Int32.ofNat v))
def TmuA (D : List SRc) (M N : Nat → Nat) (g : Nat → Int32) : Prop := (∃ i : Nat, i < D.length ∧ lkP g g D N i) ∧ ∀ v : Nat, v < 3 → SafW D M N g v
def TmuP (D : List SRc) (M N : Nat → Nat) (g : Nat → Int32) (r : Int32) : Prop := (r = 1 ∧ TmuA D M N g) ∨ (r = 0 ∧ ¬ TmuA D M N g)
theorem TmuP_u {D : List SRc} {M N : Nat → Nat} {g : Nat → Int32} {r q : Int32} (h : TmuP D M N g r) (k : TmuP D M N g q) : r = q := by
  rcases h with ⟨h1, h2⟩ | ⟨h1, h2⟩
  · rcases k with ⟨k1, k2⟩ | ⟨k1, k2⟩
    · rw [h1, k1]
    · exact absurd h2 k2
  · rcases k with ⟨k1, k2⟩ | ⟨k1, k2⟩
    · exact absurd k2 h2
    · rw [h1, k1]
theorem Isf_n {D : List SRc} {M N : Nat → Nat} {wo w t : Int32} {bs ub : List Bool} {po ps : Int32} (h : FpaP D M N wo w t bs ub 1 po ps) : ¬ SafX D M N wo w t bs := by
  rcases h with ⟨h, _⟩ | ⟨_, k, m, h, _⟩
  · exact absurd h (by decide)
  · exact FstO_ns h
abbrev R17t : Type := Int32 × (Nat → Int32) × (Nat → Int32) × Nat × Int32 × Int64 × Int32 × Int32 × Int32 × Int32 × (Nat → Int64) × (Nat → Int32) × Int32 × Int32 × Int32 × (Nat → Int32) × (Nat → Int32)
set_option maxHeartbeats 4000000 in
theorem E_X9_tooMuch (K : Nat) (hK : 1000000000 ≤ K) (pn : Nat) (LL : List Nat) (sv : Nat → Nat → Int32) (lvf flfh flfs : Nat → Int32) (stp : Int32) (wp : Nat) (x1 : Int32) (x2 : Int64) (x3 x4 po ps : Int32) (fv : Nat → Int64) (fk : Nat → Int32) (b1 b2 b3 : Int32) (fn fl : Nat → Int32) (sz us : Int32) (pg : Nat → Option Nat) (pk : Nat → Int32) (D : List SRc) (M N dp : Nat → Nat) (ub : List Bool) (hub : ub.length = 6) (hus : us = mkI ub) (hU : UsD D (fun c => ub[c]? = some true)) (hs : sz.toInt = (D.length : Int)) (hD : D.length ≤ 30) (hC : CRw pg sv pk D M N) (hCF : CFl pg sv D) (hN : NsT D M N dp) (hV : VlD D) (hca : CaI D M N stp fv fk) : Par (F_X9_tooMuch K pn LL sv lvf flfh flfs stp wp x1 x2 x3 x4 po ps fv fk b1 b2 b3 fn fl sz us pg pk) (fun r : R17t => TmuP D M N lvf r.1 ∧ CaI D M N stp r.2.2.2.2.2.2.2.2.2.2.1 r.2.2.2.2.2.2.2.2.2.2.2.1) := by
  unfold F_X9_tooMuch
  obtain ⟨n, rfl⟩ : ∃ n9, K = n9 + 1 := ⟨K - 1, by omega⟩
  rw [L_X9_tooMuch_e0]; unfold B_X9_tooMuch_0
  generalize hQ : (fun r : R17t => TmuP D M N lvf r.1 ∧ CaI D M N stp r.2.2.2.2.2.2.2.2.2.2.1 r.2.2.2.2.2.2.2.2.2.2.2.1) = Q
  refine Par.bd (E_X0_measure _ hK LL sv flfh flfs lvf sz pg D M N dp hs hD hCF hN) (fun o1 h1 => ?_)
  refine Par.bd (E_X0_countLeaks _ hK LL sv o1.1 o1.2 lvf sz pg D N hs hD hCF h1) (fun o2 h2 => ?_)
  have hlk : o2 = 0 ↔ ¬ ∃ i : Nat, i < D.length ∧ lkP lvf lvf D N i := by
    constructor
    · rintro e ⟨i, hi, hl⟩
      have := cnt_pos (P := lkP lvf lvf D N) hl D.length hi
      have c0 : (0 : Int32).toInt = 0 := by decide
      rw [e, c0] at h2
      omega
    · intro hno
      refine Int32.toInt_inj.mp ?_
      rw [h2, cnt_none D.length (fun k hk hl => hno ⟨k, hk, hl⟩)]
      rfl
  refine Par.br (fun h0 => Par.ret ?_) (fun h0 => ?_)
  · rw [← hQ]
    exact ⟨Or.inr ⟨rfl, fun h => (hlk.mp h0) h.1⟩, hca⟩
  have hl : ∃ i : Nat, i < D.length ∧ lkP lvf lvf D N i := by
    rcases Classical.em (∃ i : Nat, i < D.length ∧ lkP lvf lvf D N i) with h | h
    · exact h
    · exact absurd (hlk.mpr h) h0
  have one : ∀ (f1 f2 : Nat → Int32) (wp : Nat) (x1 : Int32) (x2 : Int64) (x3 x4 po ps : Int32) (fv : Nat → Int64) (fk : Nat → Int32) (b1 b2 b3 : Int32) (fn fl : Nat → Int32), ¬ TmuA D M N lvf → CaI D M N stp fv fk → Par (L_X9_tooMuch (n + 1) n 1 pn LL sv lvf f1 f2 stp wp x1 x2 x3 x4 po ps fv fk b1 b2 b3 fn fl sz us pg pk) Q := by
    intro f1 f2 wp x1 x2 x3 x4 po ps fv fk b1 b2 b3 fn fl h hc
    cases n with
    | zero => exact Par.no
    | succ n => rw [L_X9_tooMuch_e1]; unfold B_X9_tooMuch_1; rw [← hQ]; exact Par.ret ⟨Or.inr ⟨rfl, h⟩, hc⟩
  refine Par.bd (E_X9_isSafe _ hK 0 0 (by decide) pn LL sv lvf stp wp x1 x2 x3 x4 po ps fv fk b1 b2 b3 fn fl sz us pg pk D M N dp ub hub hus hU hs hD hC hN hV hca) (fun r hr => ?_)
  obtain ⟨ra, rc⟩ := hr
  rcases ra with ⟨ra, rs⟩ | ⟨ra, rs⟩
  rotate_left
  · refine Par.yes ra ?_
    apply one
    · exact fun h => Isf_n rs (h.2 0 (by omega))
    · exact rc
  refine Par.not (by rw [ra]; decide) ?_
  refine Par.bd (E_X9_isSafe _ hK 1 0 (by decide) pn LL sv lvf stp _ _ _ _ _ _ _ _ _ _ _ _ _ _ sz us pg pk D M N dp ub hub hus hU hs hD hC hN hV rc) (fun u hu => ?_)
  obtain ⟨ua, uc⟩ := hu
  rcases ua with ⟨ua, uss⟩ | ⟨ua, uss⟩
  rotate_left
  · refine Par.yes ua ?_
    apply one
    · exact fun h => Isf_n uss (h.2 1 (by omega))
    · exact uc
  refine Par.not (by rw [ua]; decide) ?_
  refine Par.bd (E_X9_isSafe _ hK 2 0 (by decide) pn LL sv lvf stp _ _ _ _ _ _ _ _ _ _ _ _ _ _ sz us pg pk D M N dp ub hub hus hU hs hD hC hN hV uc) (fun v hv => ?_)
  obtain ⟨va, vc⟩ := hv
  rcases va with ⟨va, vs⟩ | ⟨va, vs⟩
  rotate_left
  · refine Par.yes va ?_
    apply one
    · exact fun h => Isf_n vs (h.2 2 (by omega))
    · exact vc
  refine Par.not (by rw [va]; decide) (Par.ret ?_)
  rw [← hQ]
  refine ⟨Or.inl ⟨rfl, hl, fun z hz => ?_⟩, vc⟩
  rcases (show z = 0 ∨ z = 1 ∨ z = 2 by omega) with rfl | rfl | rfl
  · exact rs
  · exact uss
  · exact vs
set_option maxHeartbeats 4000000 in
theorem E_m_tooMuch (K : Nat) (hK : 1000000000 ≤ K) (th : Int32) (imany a1 a2 ip isec heaps : Int32) (alev astm asm avls abke abko abkl acel atap atpl : Nat → Int32) (sen : Nat → Int64) (hpo hpm bgn chn : Nat → Int32) (sgt : Nat → Int64) (arsd : Nat → Int32) (D : List SRc) (M N dp : Nat → Nat) (hs : imany.toInt = (D.length : Int)) (hD : D.length ≤ 30) (hF : FRw astm asm D M N) (hr9 : ∀ k : Nat, k < D.length → FRow astm asm D M N k) (hN : NsT D M N dp) (hV : VlD D) (ub : List Bool) (hub : ub.length = 6) (hU : UsD D (fun c => ub[c]? = some true)) : Par (F_m_tooMuch K th imany a1 a2 ip isec heaps alev astm asm avls abke abko abkl acel atap atpl sen hpo hpm bgn chn sgt arsd) (fun r : R20 => TmuP D M N alev r.1) := by
  unfold F_m_tooMuch
  obtain ⟨n, rfl⟩ : ∃ n9, K = n9 + 1 := ⟨K - 1, by omega⟩
  rw [L_m_tooMuch_e0]; unfold B_m_tooMuch_0
  generalize hQ : (fun r : R20 => TmuP D M N alev r.1) = Q
  have four : ∀ (q : Nat) (l1 l2 s0 th imany a1 a2 ip isec heaps : Int32) (avls abke abko abkl acel atap atpl : Nat → Int32) (sen : Nat → Int64) (hpo hpm bgn chn : Nat → Int32) (sgt : Nat → Int64), ((l1 = 1 ∧ TmuA D M N alev) ∨ (l1 = 0 ∧ ¬ TmuA D M N alev)) → Par (L_m_tooMuch (n + 1) q 4 l1 l2 s0 th imany a1 a2 ip isec heaps alev astm asm avls abke abko abkl acel atap atpl sen hpo hpm bgn chn sgt arsd) Q := by
    intro q l1 l2 s0 th imany a1 a2 ip isec heaps avls abke abko abkl acel atap atpl sen hpo hpm bgn chn sgt h
    cases q with
    | zero => exact Par.no
    | succ q =>
      rw [L_m_tooMuch_e4]; unfold B_m_tooMuch_4
      rw [← hQ]
      rcases h with ⟨h1, h2⟩ | ⟨h1, h2⟩
      · exact Par.not (by rw [h1]; decide) (Par.ret (Or.inl ⟨rfl, h2⟩))
      · exact Par.yes h1 (Par.ret (Or.inr ⟨rfl, h2⟩))
  have two : ∀ (q v : Nat) (l1 s0 th a1 a2 isec heaps : Int32) (avls abke abko abkl acel atap atpl : Nat → Int32) (sen : Nat → Int64) (hpo hpm bgn chn : Nat → Int32) (sgt : Nat → Int64), v ≤ 3 → ((l1 = 1 ∧ (∃ i : Nat, i < D.length ∧ lkP alev alev D N i) ∧ ∀ z : Nat, z < v → SafW D M N alev z) ∨ (l1 = 0 ∧ ¬ TmuA D M N alev)) → Par (L_m_tooMuch (n + 1) q 2 l1 (Int32.ofNat v) s0 th imany a1 a2 0 isec heaps alev astm asm avls abke abko abkl acel atap atpl sen hpo hpm bgn chn sgt arsd) Q := by
    intro q
    induction q using Nat.strongRecOn with
    | _ q ih =>
    intro v l1 s0 th a1 a2 isec heaps avls abke abko abkl acel atap atpl sen hpo hpm bgn chn sgt hv h
    have hvi : (Int32.ofNat v).toInt = (v : Int) := ofn_i v (by omega)
    cases q with
    | zero => exact Par.no
    | succ q =>
      rw [L_m_tooMuch_e2]; unfold B_m_tooMuch_2
      refine Par.br (fun hge => ?_) (fun hlt => ?_)
      · rw [Int32.le_iff_toInt_le, hvi] at hge
        simp only [Int32.reduceToInt] at hge
        apply four
        rcases h with ⟨h1, h2, h3⟩ | h
        · exact Or.inl ⟨h1, h2, fun z hz => h3 z (by omega)⟩
        · exact Or.inr h
      · rw [Int32.le_iff_toInt_le, hvi] at hlt
        simp only [Int32.reduceToInt] at hlt
        refine Par.br (fun h0 => ?_) (fun h0 => ?_)
        · apply four
          rcases h with ⟨h1, _⟩ | h
          · rw [h1] at h0
            exact absurd h0 (by decide)
          · exact Or.inr h
        · rcases h with ⟨h1, h2, h3⟩ | ⟨h1, _⟩
          rotate_left
          · exact absurd h1 h0
          refine Par.bd (E_m_pairOf _ hK (Int32.ofNat v) 0 imany a1 a2 0 isec heaps alev astm asm avls abke abko abkl acel atap atpl sen hpo hpm bgn chn sgt D M N dp hs hD hF hN hV (by decide) ub hub hU) (fun r hr => ?_)
          have three : ∀ (s0 th imany9 a1 a2 isec heaps : Int32) (avls abke abko abkl acel atap atpl : Nat → Int32) (sen : Nat → Int64) (hpo hpm bgn chn : Nat → Int32) (sgt : Nat → Int64), imany9 = imany → ((s0 = 1 ∧ (∃ i : Nat, i < D.length ∧ lkP alev alev D N i) ∧ ∀ z : Nat, z < v + 1 → SafW D M N alev z) ∨ (s0 = 0 ∧ ¬ TmuA D M N alev)) → Par (L_m_tooMuch (n + 1) q 3 l1 (Int32.ofNat v) s0 th imany9 a1 a2 0 isec heaps alev astm asm avls abke abko abkl acel atap atpl sen hpo hpm bgn chn sgt arsd) Q := by
            intro s0 th imany9 a1 a2 isec heaps avls abke abko abkl acel atap atpl sen hpo hpm bgn chn sgt e9 hx
            subst e9
            cases q with
            | zero => exact Par.no
            | succ q =>
              rw [L_m_tooMuch_e3]; unfold B_m_tooMuch_3
              rw [of_s v (by omega)]
              apply ih q (by omega) (v + 1)
              · omega
              · exact hx
          obtain ⟨hO4, _⟩ := p4_le (wiL_len alev (Int32.ofNat v))
          rcases hr with ⟨r1, r2⟩ | ⟨o, r1, r2, _⟩
          · refine Par.yes r1 ?_
            apply three
            · rfl
            · refine Or.inl ⟨rfl, h2, fun z hz => ?_⟩
              by_cases e : z = v
              · rw [e]; exact r2
              · exact h3 z (by omega)
          · refine Par.not ?_ ?_
            · rw [r1]
              intro e
              have e9 := congrArg Int32.toInt e
              have := r2.1
              rw [ofn_i _ (by omega)] at e9
              simp only [Int32.reduceToInt] at e9
              omega
            · apply three
              · rfl
              · exact Or.inr ⟨rfl, fun h => FstO_ns r2 (h.2 v (by omega))⟩
  have one : ∀ (q i : Nat) (l1 l2 s0 : Int32), l2.toInt = (i : Int) → i ≤ D.length → ((l1 = 1 ∧ ∃ j : Nat, j < i ∧ lkP alev alev D N j) ∨ (l1 = 0 ∧ ∀ j : Nat, j < i → ¬ lkP alev alev D N j)) → Par (L_m_tooMuch (n + 1) q 1 l1 l2 s0 0 imany a1 a2 ip isec heaps alev astm asm avls abke abko abkl acel atap atpl sen hpo hpm bgn chn sgt arsd) Q := by
    intro q
    induction q using Nat.strongRecOn with
    | _ q ih =>
    intro i l1 l2 s0 h2 hi h
    cases q with
    | zero => exact Par.no
    | succ q =>
      rw [L_m_tooMuch_e1]; unfold B_m_tooMuch_1
      refine Par.br (fun hge => ?_) (fun hlt => ?_)
      · rw [Int32.le_iff_toInt_le, h2, hs] at hge
        have e : i = D.length := by omega
        rw [e] at h
        refine two q 0 l1 _ _ _ _ _ _ _ _ _ _ _ _ _ _ _ _ _ _ _ (by omega) ?_
        rcases h with ⟨h1, j, hj, hl⟩ | ⟨h1, hno⟩
        · exact Or.inl ⟨h1, ⟨j, hj, hl⟩, fun z hz => absurd hz (Nat.not_lt_zero _)⟩
        · exact Or.inr ⟨h1, fun h9 => by
            obtain ⟨j, hj, hl⟩ := h9.1
            exact hno j hj hl⟩
      · rw [Int32.le_iff_toInt_le, h2, hs] at hlt
        have hil : i < D.length := by omega
        refine Par.bd (E_m_leaks _ hK l2 alev astm asm arsd D M N i h2 hil hD hr9 hN.2.2.2.2.2) (fun o ho => ?_)
        refine ih q (by omega) (i + 1) _ _ _ (ad1 l2 i h2 (by omega)) (by omega) ?_
        rcases h with ⟨h1, j, hj, hl⟩ | ⟨h1, hno⟩
        · refine Or.inl ⟨?_, j, by omega, hl⟩
          rcases ho with ⟨o1, _⟩ | ⟨o1, _⟩ <;> rw [h1, o1] <;> decide
        · rcases ho with ⟨o1, o2⟩ | ⟨o1, o2⟩
          · exact Or.inl ⟨by rw [h1, o1]; decide, i, by omega, o2⟩
          · refine Or.inr ⟨by rw [h1, o1]; decide, fun j hj => ?_⟩
            by_cases e : j = i
            · rw [e]; exact o2
            · exact hno j (by omega)
  exact one n 0 0 0 0 rfl (Nat.zero_le _) (Or.inr ⟨rfl, fun j hj => absurd hj (Nat.not_lt_zero _)⟩)
