/-! what tells most -/
def MosP (D : List SRc) (M N : Nat → Nat) (w t : Int32) (bs : List Bool) (what r : Int32) : Prop := ∃ o : Nat, o < 4 ^ cnB bs ∧ (∀ j : Nat, j < 4 ^ cnB bs → ndQ (HpR D M N 0 w t bs j) (4 ^ cnB (ntB bs)) ≤ ndQ (HpR D M N 0 w t bs o) (4 ^ cnB (ntB bs))) ∧ (∀ j : Nat, j < o → ndQ (HpR D M N 0 w t bs j) (4 ^ cnB (ntB bs)) < ndQ (HpR D M N 0 w t bs o) (4 ^ cnB (ntB bs))) ∧ ((what = 0 ∧ r = Int32.ofNat o) ∨ (what = 1 ∧ r.toInt = (ndQ (HpR D M N 0 w t bs o) (4 ^ cnB (ntB bs)) : Int)))
theorem MosP_u {D : List SRc} {M N : Nat → Nat} {w t : Int32} {bs : List Bool} {what r q : Int32} (h : MosP D M N w t bs what r) (k : MosP D M N w t bs what q) : r = q := by
  obtain ⟨o, h1, h2, h3, h4⟩ := h
  obtain ⟨p, k1, k2, k3, k4⟩ := k
  have e : o = p := by
    rcases Nat.lt_trichotomy o p with c | c | c
    · have := k3 o c
      have := h2 p k1
      omega
    · exact c
    · have := h3 p c
      have := k2 o h1
      omega
  subst e
  rcases h4 with ⟨a1, a2⟩ | ⟨a1, a2⟩
  · rcases k4 with ⟨b1, b2⟩ | ⟨b1, b2⟩
    · rw [a2, b2]
    · exact absurd (a1.symm.trans b1) (by decide)
  · rcases k4 with ⟨b1, b2⟩ | ⟨b1, b2⟩
    · exact absurd (b1.symm.trans a1) (by decide)
    · exact ofI_u a2 b2
/-- the best of the first k -/
def BstN (f : Nat → Nat) (k b : Nat) : Prop := b < k ∧ (∀ j : Nat, j < k → f j ≤ f b) ∧ ∀ j : Nat, j < b → f j < f b
theorem BstN.keep {f : Nat → Nat} {k b : Nat} (h : BstN f k b) (hk : f k ≤ f b) : BstN f (k + 1) b := by
  refine ⟨by have := h.1; omega, fun j hj => ?_, h.2.2⟩
  by_cases e : j = k
  · rw [e]; exact hk
  · exact h.2.1 j (by omega)
theorem BstN.new {f : Nat → Nat} {k b : Nat} (h : BstN f k b) (hk : f b < f k) : BstN f (k + 1) k := by
  refine ⟨by omega, fun j hj => ?_, fun j hj => ?_⟩
  · by_cases e : j = k
    · rw [e]; exact Nat.le_refl _
    · have := h.2.1 j (by omega); omega
  · have := h.2.1 j hj; omega
theorem BstN.one {f : Nat → Nat} : BstN f 1 0 := ⟨by omega, fun j hj => by
  have e : j = 0 := by omega
  rw [e]; exact Nat.le_refl _, fun j hj => absurd hj (Nat.not_lt_zero _)⟩
theorem nd_pos {R : Nat → Nat → Prop} {n : Nat} (h : 1 ≤ n) : 1 ≤ ndQ R n := cnt_pos (P := fun s => ∀ j : Nat, j < s → ¬ R j s) (s := 0) (fun j hj => absurd hj (Nat.not_lt_zero _)) n (by omega)
set_option maxHeartbeats 4000000 in
theorem E_m_most (K : Nat) (hK : 1000000000 ≤ K) (w tm l3 th : Int32) (imany a1 a2 ip isec heaps : Int32) (alev astm asm avls abke abko abkl acel atap atpl : Nat → Int32) (sen : Nat → Int64) (hpo hpm bgn chn : Nat → Int32) (sgt : Nat → Int64) (D : List SRc) (M N dp : Nat → Nat) (hs : imany.toInt = (D.length : Int)) (hD : D.length ≤ 30) (hF : FRw astm asm D M N) (hN : NsT D M N dp) (hV : VlD D) (ub : List Bool) (hub : ub.length = 6) (hU : UsD D (fun c => ub[c]? = some true)) : Par (F_m_most K w tm l3 th imany a1 a2 ip isec heaps alev astm asm avls abke abko abkl acel atap atpl sen hpo hpm bgn chn sgt) (fun r => (¬ (AsP w tm ∧ (l3 = 0 ∨ l3 = 1)) ∧ r.1 = -1) ∨ ((AsP w tm ∧ (l3 = 0 ∨ l3 = 1)) ∧ MosP D M N w tm (wiL alev w) l3 r.1)) := by
  have hb6 := wiL_len alev w
  obtain ⟨hO4, hO1⟩ := p4_le hb6
  obtain ⟨hS4, hS1⟩ := p4_le (ntB_len hb6)
  unfold F_m_most
  obtain ⟨n, rfl⟩ : ∃ n9, K = n9 + 1 := ⟨K - 1, by omega⟩
  rw [L_m_most_e0]; unfold B_m_most_0
  generalize hQ : (fun r : R20 => (¬ (AsP w tm ∧ (l3 = 0 ∨ l3 = 1)) ∧ r.1 = -1) ∨ ((AsP w tm ∧ (l3 = 0 ∨ l3 = 1)) ∧ MosP D M N w tm (wiL alev w) l3 r.1)) = Q
  have one : ¬ (AsP w tm ∧ (l3 = 0 ∨ l3 = 1)) → ∀ (l4 l5 l6 l7 s0 th imany a1 a2 ip isec heaps : Int32) (avls abke abko abkl acel atap atpl : Nat → Int32) (sen : Nat → Int64) (hpo hpm bgn chn : Nat → Int32) (sgt : Nat → Int64), Par (L_m_most (n + 1) n 1 w tm l3 l4 l5 l6 l7 s0 th imany a1 a2 ip isec heaps alev astm asm avls abke abko abkl acel atap atpl sen hpo hpm bgn chn sgt) Q := by
    intro h
    intros
    cases n with
    | zero => exact Par.no
    | succ n => rw [L_m_most_e1]; unfold B_m_most_1; rw [← hQ]; exact Par.ret (Or.inl ⟨h, rfl⟩)
  refine Par.bd (E_m_isAsked _ hK w tm) (fun o1 h1 => ?_)
  rcases h1 with ⟨e1, q1⟩ | ⟨e1, q1⟩
  rotate_left
  · refine Par.yes e1 ?_
    apply one
    exact fun h => q1 h.1
  refine Par.not (by rw [e1]; decide) ?_
  refine Par.bd (E_m_in _ hK l3 0 1) (fun o3 h3 => ?_)
  have c0 : (0 : Int32).toInt = 0 := by decide
  have c1 : (1 : Int32).toInt = 1 := by decide
  rw [c0, c1] at h3
  rcases h3 with ⟨e3, q3⟩ | ⟨e3, q3⟩
  rotate_left
  · refine Par.yes e3 ?_
    apply one
    exact fun h => q3 ((two_i l3).mpr h.2)
  refine Par.not (by rw [e3]; decide) ?_
  have hall : AsP w tm ∧ (l3 = 0 ∨ l3 = 1) := ⟨q1, (two_i l3).mp q3⟩
  refine Par.bd (E_m_cells _ hK w 1 alev (wiL alev w) hb6 (wi_y alev w)) (fun o9 h9 => ?_)
  subst h9
  rw [p4_e hb6]
  have hOi : (Int32.ofNat (4 ^ cnB (wiL alev w))).toInt = ((4 ^ cnB (wiL alev w) : Nat) : Int) := ofn_i _ (by omega)
  have hnle : ∀ o : Nat, ndQ (HpR D M N 0 w tm (wiL alev w) o) (4 ^ cnB (ntB (wiL alev w))) ≤ 4 ^ cnB (ntB (wiL alev w)) := fun o => cntQ_le _ _
  have hn1 : ∀ o : Nat, 1 ≤ ndQ (HpR D M N 0 w tm (wiL alev w) o) (4 ^ cnB (ntB (wiL alev w))) := fun o => nd_pos hS1
  generalize hf : (fun o : Nat => ndQ (HpR D M N 0 w tm (wiL alev w) o) (4 ^ cnB (ntB (wiL alev w)))) = f
  have hfo : ∀ o : Nat, ndQ (HpR D M N 0 w tm (wiL alev w) o) (4 ^ cnB (ntB (wiL alev w))) = f o := fun o => by rw [← hf]
  have key : ∀ (q o : Nat) (l4 l5 s0 : Int32) (a1 a2 isec heaps : Int32) (avls abke abko abkl acel atap atpl : Nat → Int32) (sen : Nat → Int64) (hpo hpm bgn chn : Nat → Int32) (sgt : Nat → Int64), o ≤ 4 ^ cnB (wiL alev w) → ((o = 0 ∧ l4 = 0 ∧ l5 = 0) ∨ ∃ b : Nat, BstN f o b ∧ l4 = Int32.ofNat b ∧ l5.toInt = (f b : Int)) → Par (L_m_most (n + 1) q 2 w tm l3 l4 l5 (Int32.ofNat (4 ^ cnB (wiL alev w))) (Int32.ofNat o) s0 0 imany a1 a2 0 isec heaps alev astm asm avls abke abko abkl acel atap atpl sen hpo hpm bgn chn sgt) Q := by
    intro q
    induction q using Nat.strongRecOn with
    | _ q ih =>
    intro o l4 l5 s0 a1 a2 isec heaps avls abke abko abkl acel atap atpl sen hpo hpm bgn chn sgt hoO hb
    have hoi : (Int32.ofNat o).toInt = (o : Int) := ofn_i o (by omega)
    cases q with
    | zero => exact Par.no
    | succ q =>
      rw [L_m_most_e2]; unfold B_m_most_2
      refine Par.br (fun h => ?_) (fun h => ?_)
      · rw [Int32.le_iff_toInt_le, hOi, hoi] at h
        have e : o = 4 ^ cnB (wiL alev w) := by omega
        rcases hb with ⟨h0, _⟩ | ⟨b, hB, h4, h5⟩
        · exfalso; omega
        · rw [e] at hB
          have hm : ∀ j : Nat, j < 4 ^ cnB (wiL alev w) → ndQ (HpR D M N 0 w tm (wiL alev w) j) (4 ^ cnB (ntB (wiL alev w))) ≤ ndQ (HpR D M N 0 w tm (wiL alev w) b) (4 ^ cnB (ntB (wiL alev w))) := fun j hj => by rw [hfo, hfo]; exact hB.2.1 j hj
          have hl : ∀ j : Nat, j < b → ndQ (HpR D M N 0 w tm (wiL alev w) j) (4 ^ cnB (ntB (wiL alev w))) < ndQ (HpR D M N 0 w tm (wiL alev w) b) (4 ^ cnB (ntB (wiL alev w))) := fun j hj => by rw [hfo, hfo]; exact hB.2.2 j hj
          refine Par.br (fun h0 => Par.ret ?_) (fun h0 => Par.ret ?_)
          · rw [← hQ]
            exact Or.inr ⟨hall, b, hB.1, hm, hl, Or.inl ⟨h0, h4⟩⟩
          · rw [← hQ]
            exact Or.inr ⟨hall, b, hB.1, hm, hl, Or.inr ⟨hall.2.resolve_left h0, by rw [hfo]; exact h5⟩⟩
      · rw [Int32.le_iff_toInt_le, hOi, hoi] at h
        refine Par.bd (E_m_learns _ hK w tm (Int32.ofNat o) (-1) (o1F o) 1 (Or.inl ⟨rfl, rfl⟩) rfl ⟨(show o < 4096 by omega), (show o < 4096 by omega)⟩ imany a1 a2 0 isec heaps alev astm asm avls abke abko abkl acel atap atpl sen hpo hpm bgn chn sgt D M N dp hs hD hF hN hV (by decide) ub hub hU) (fun r hr => ?_)
        obtain ⟨g1, g2, g3⟩ := LnS.al hr hV (Or.inl rfl)
        have hnd : ndQ (LkR D M N 0 w tm (wiL alev w) (o1F o) 1) (4 ^ cnB (ntB (wiL alev w))) = f o := by rw [← hfo]; exact ndQ_cg (fun _ _ _ _ => Lk_1)
        rw [hnd] at g2
        obtain ⟨r0, r1, r2, r3, rest⟩ := r
        obtain ⟨r4, r5, r6, r7, r8, r9, r10, r11, r12, r13, r14, r15, r16⟩ := rest
        dsimp only at g2 ⊢
        have hf1 := hn1 o
        rw [hfo] at hf1
        have fin : ∀ (q2 : Nat) (x y : Int32), q2 < q + 1 → (∃ b : Nat, BstN f (o + 1) b ∧ x = Int32.ofNat b ∧ y.toInt = (f b : Int)) → Par (L_m_most (n + 1) q2 4 w tm l3 x l5 (Int32.ofNat (4 ^ cnB (wiL alev w))) (Int32.ofNat o) y 0 imany r0 r1 0 r2 r3 alev astm asm r4 r5 r6 r7 r8 r9 r10 r11 r12 r13 r14 r15 r16) Q := by
          intro q2 x y hq2 hx
          cases q2 with
          | zero => exact Par.no
          | succ q2 =>
            rw [L_m_most_e4]; unfold B_m_most_4
            rw [of_s o (by omega)]
            exact ih q2 (by omega) (o + 1) x y 0 _ _ _ _ _ _ _ _ _ _ _ _ _ _ _ _ _ (by omega) (Or.inr hx)
        refine Par.br (fun hle => ?_) (fun hgt => ?_)
        · cases q with
          | zero => exact Par.no
          | succ q =>
            rw [L_m_most_e3]; unfold B_m_most_3
            refine Par.yes hle ?_
            rw [Int32.le_iff_toInt_le, g2] at hle
            refine fin q l4 l5 (by omega) ?_
            rcases hb with ⟨_, _, h5⟩ | ⟨b, hB, h4, h5⟩
            · rw [h5, c0] at hle
              exfalso; omega
            · exact ⟨b, hB.keep (by omega), h4, h5⟩
        · cases q with
          | zero => exact Par.no
          | succ q =>
            rw [L_m_most_e3]; unfold B_m_most_3
            refine Par.not hgt ?_
            rw [Int32.le_iff_toInt_le, g2] at hgt
            refine fin q (Int32.ofNat o) r3 (by omega) ⟨o, ?_, rfl, g2⟩
            rcases hb with ⟨h0, _, _⟩ | ⟨b, hB, h4, h5⟩
            · rw [h0]; exact BstN.one
            · exact hB.new (by omega)
  exact key n 0 0 0 0 _ _ _ _ _ _ _ _ _ _ _ _ _ _ _ _ _ (Nat.zero_le _) (Or.inl ⟨rfl, rfl, rfl⟩)
abbrev R16m : Type := Int32 × Int32 × (Nat → Int64) × (Nat → Int32) × Int32 × Int32 × Int32 × (Nat → Int32) × (Nat → Int32) × Int32 × Int32 × Int32 × (Nat → Int64) × (Nat → Int64) × (Nat → Int32) × (Nat → Int32)
set_option maxHeartbeats 4000000 in
theorem E_X8_tellsMost (K : Nat) (hK : 1000000000 ≤ K) (w : Nat) (hw : w < 4) (t : Int32) (ln : Int64) (bs : List Bool) (hb6 : bs.length = 6) (hln : ln.toBitVec.toNat = lnN bs t) (LL : List Nat) (sv : Nat → Nat → Int32) (stp mo : Int32) (fv : Nat → Int64) (fk : Nat → Int32) (b1 b2 b3 : Int32) (fn fl : Nat → Int32) (t1 t2 t3 : Int32) (gf gs : Nat → Int64) (gz go : Nat → Int32) (sz us : Int32) (pg : Nat → Option Nat) (pk : Nat → Int32) (D : List SRc) (M N dp : Nat → Nat) (ub : List Bool) (hub : ub.length = 6) (hus : us = mkI ub) (hs : sz.toInt = (D.length : Int)) (hD : D.length ≤ 30) (hC : CRw pg sv pk D M N) (hN : NsT D M N dp) (hV : VlD D) (hca : CaI D M N stp fv fk) : Par (F_X8_tellsMost K LL sv stp (Int32.ofNat w) ln (mkI bs) (mkI (ntB bs)) mo fv fk b1 b2 b3 fn fl t1 t2 t3 gf gs gz go sz us pg pk) (fun r : R16m => (∃ b : Nat, BstN (fun k => ndQ (HyR D M N 0 (Int32.ofNat w) t bs ub k) (4 ^ cnB (anB (ntB bs) ub))) (4 ^ cnB (anB bs ub)) b ∧ r.1 = Int32.ofNat (spB (anB bs ub) b) ∧ r.2.1.toInt = (ndQ (HyR D M N 0 (Int32.ofNat w) t bs ub b) (4 ^ cnB (anB (ntB bs) ub)) : Int)) ∧ CaI D M N stp r.2.2.1 r.2.2.2.1) := by
  subst hus
  have hn6 := ntB_len hb6
  have hto := anB_len hb6 hub
  have hts := anB_len hn6 hub
  obtain ⟨hO4, hO1⟩ := p4_le hto
  obtain ⟨hT4, hT1⟩ := p4_le hts
  unfold F_X8_tellsMost
  obtain ⟨n, rfl⟩ : ∃ n9, K = n9 + 1 := ⟨K - 1, by omega⟩
  rw [L_X8_tellsMost_e0]; unfold B_X8_tellsMost_0
  rw [mkI_an bs hb6 ub hub, mkI_an (ntB bs) hn6 ub hub]
  refine Par.bd (E_X9_numbersOf _ hK (anB bs ub) hto) (fun o1 h1 => ?_)
  subst h1
  refine Par.bd (E_X9_numbersOf _ hK (anB (ntB bs) ub) hts) (fun o2 h2 => ?_)
  subst h2
  have hOi : (Int32.ofNat (4 ^ cnB (anB bs ub))).toInt = ((4 ^ cnB (anB bs ub) : Nat) : Int) := ofn_i _ (by omega)
  have hTi : (Int32.ofNat (4 ^ cnB (anB (ntB bs) ub))).toInt = ((4 ^ cnB (anB (ntB bs) ub) : Nat) : Int) := ofn_i _ (by omega)
  have c0 : (0 : Int32).toInt = 0 := by decide
  generalize hf : (fun k : Nat => ndQ (HyR D M N 0 (Int32.ofNat w) t bs ub k) (4 ^ cnB (anB (ntB bs) ub))) = f
  have hfo : ∀ k : Nat, ndQ (HyR D M N 0 (Int32.ofNat w) t bs ub k) (4 ^ cnB (anB (ntB bs) ub)) = f k := fun k => by rw [← hf]
  have hfle : ∀ k : Nat, f k ≤ 4 ^ cnB (anB (ntB bs) ub) := fun k => by rw [← hfo]; exact cntQ_le _ _
  have hf1 : ∀ k : Nat, 1 ≤ f k := fun k => by rw [← hfo]; exact nd_pos hT1
  generalize hQ : (fun r : R16m => (∃ b : Nat, BstN f (4 ^ cnB (anB bs ub)) b ∧ r.1 = Int32.ofNat (spB (anB bs ub) b) ∧ r.2.1.toInt = (ndQ (HyR D M N 0 (Int32.ofNat w) t bs ub b) (4 ^ cnB (anB (ntB bs) ub)) : Int)) ∧ CaI D M N stp r.2.2.1 r.2.2.2.1) = Q
  have key : ∀ (q k : Nat) (l4 l5 l6 l7 mo : Int32) (fv : Nat → Int64) (fk : Nat → Int32) (b1 b2 b3 : Int32) (fn fl : Nat → Int32) (t1 t2 t3 : Int32) (gf gs : Nat → Int64) (gz go : Nat → Int32), l6.toInt = (k : Int) → k ≤ 4 ^ cnB (anB bs ub) → (k < 4 ^ cnB (anB bs ub) → l4 = Int32.ofNat (spB (anB bs ub) k)) → CaI D M N stp fv fk → ((k = 0 ∧ l5 = 0 ∧ mo = 0) ∨ ∃ b : Nat, BstN f k b ∧ l5 = Int32.ofNat (spB (anB bs ub) b) ∧ mo.toInt = (f b : Int)) → Par (L_X8_tellsMost (n + 1) q 1 (mkI (anB bs ub)) (Int32.ofNat (4 ^ cnB (anB bs ub))) (Int32.ofNat (4 ^ cnB (anB (ntB bs) ub))) l4 l5 l6 l7 LL sv stp (Int32.ofNat w) ln (mkI bs) (mkI (ntB bs)) mo fv fk b1 b2 b3 fn fl t1 t2 t3 gf gs gz go sz (mkI ub) pg pk) Q := by
    intro q
    induction q using Nat.strongRecOn with
    | _ q ih =>
    intro k l4 l5 l6 l7 mo fv fk b1 b2 b3 fn fl t1 t2 t3 gf gs gz go h6 hkO h4 hca hb
    cases q with
    | zero => exact Par.no
    | succ q =>
      rw [L_X8_tellsMost_e1]; unfold B_X8_tellsMost_1
      have three : (∃ b : Nat, BstN f (4 ^ cnB (anB bs ub)) b ∧ l5 = Int32.ofNat (spB (anB bs ub) b) ∧ mo.toInt = (f b : Int)) → ∀ l7 : Int32, Par (L_X8_tellsMost (n + 1) q 3 (mkI (anB bs ub)) (Int32.ofNat (4 ^ cnB (anB bs ub))) (Int32.ofNat (4 ^ cnB (anB (ntB bs) ub))) l4 l5 l6 l7 LL sv stp (Int32.ofNat w) ln (mkI bs) (mkI (ntB bs)) mo fv fk b1 b2 b3 fn fl t1 t2 t3 gf gs gz go sz (mkI ub) pg pk) Q := by
        intro h l7
        obtain ⟨b, q1, q2, q3⟩ := h
        cases q with
        | zero => exact Par.no
        | succ q =>
          rw [L_X8_tellsMost_e3]; unfold B_X8_tellsMost_3
          refine Par.ret ?_
          rw [← hQ]
          exact ⟨⟨b, q1, q2, by rw [hfo]; exact q3⟩, hca⟩
      refine Par.br (fun h => ?_) (fun h => ?_)
      · rw [Int32.le_iff_toInt_le, hOi, h6] at h
        have e : k = 4 ^ cnB (anB bs ub) := by omega
        rcases hb with ⟨h0, _⟩ | ⟨b, q1, q2, q3⟩
        · exfalso; omega
        · exact three ⟨b, by rw [← e]; exact q1, q2, q3⟩ _
      · rw [Int32.le_iff_toInt_le, hOi, h6] at h
        have hk : k < 4 ^ cnB (anB bs ub) := by omega
        refine Par.br (fun hfull => ?_) (fun hless => ?_)
        · rw [Int32.le_iff_toInt_le, hTi] at hfull
          rcases hb with ⟨_, _, h0⟩ | ⟨b, q1, q2, q3⟩
          · rw [h0, c0] at hfull
            exfalso; omega
          · refine three ⟨b, ⟨by have := q1.1; omega, fun j _ => ?_, q1.2.2⟩, q2, q3⟩ _
            have := hfle j
            omega
        · rw [h4 hk]
          refine Par.bd (E_X8_countHeaps _ hK (spB (anB bs ub) k) w (sp6 hto k) hw ln (ntB bs) hn6 LL sv stp fv fk b1 b2 b3 fn fl t1 t2 t3 gf gs gz go sz (mkI ub) pg pk D M N dp ub hub rfl hs hD hC hN hV hca) (fun r hr => ?_)
          obtain ⟨r1, r2, sm, Z, hI⟩ := hr
          have hpq : ∀ i j : Nat, i < 4 ^ cnB (anB (ntB bs) ub) → j < 4 ^ cnB (anB (ntB bs) ub) → ((pvO D M N w ln (spB (anB bs ub) k) (anB (ntB bs) ub) ub i, (0 : Int64)) = (pvO D M N w ln (spB (anB bs ub) k) (anB (ntB bs) ub) ub j, (0 : Int64)) ↔ HyR D M N 0 (Int32.ofNat w) t bs ub k i j) := by
            intro i j _ _
            have h9 := pv_eq (M := M) (N := N) hV (w := w) (t := t) hb6 hln (x0 := spB (anB bs ub) k) (tr := anB (ntB bs) ub) (ub := ub) i j
            constructor
            · intro e
              exact h9.mp (congrArg Prod.fst e)
            · intro e
              rw [h9.mpr e]
          obtain ⟨m1, m2⟩ := hI.ans hpq hT1
          rw [← r1, hfo] at m1
          have two : ∀ (q2 : Nat) (x y : Int32), q2 < q + 1 → (∃ b : Nat, BstN f (k + 1) b ∧ x = Int32.ofNat (spB (anB bs ub) b) ∧ y.toInt = (f b : Int)) → Par (L_X8_tellsMost (n + 1) q2 2 (mkI (anB bs ub)) (Int32.ofNat (4 ^ cnB (anB bs ub))) (Int32.ofNat (4 ^ cnB (anB (ntB bs) ub))) (Int32.ofNat (spB (anB bs ub) k)) x l6 r.1 LL sv stp (Int32.ofNat w) ln (mkI bs) (mkI (ntB bs)) y r.2.1 r.2.2.1 r.2.2.2.1 r.2.2.2.2.1 r.2.2.2.2.2.1 r.2.2.2.2.2.2.1 r.2.2.2.2.2.2.2.1 r.2.2.2.2.2.2.2.2.1 r.2.2.2.2.2.2.2.2.2.1 r.2.2.2.2.2.2.2.2.2.2.1 r.2.2.2.2.2.2.2.2.2.2.2.1 r.2.2.2.2.2.2.2.2.2.2.2.2.1 r.2.2.2.2.2.2.2.2.2.2.2.2.2.1 r.2.2.2.2.2.2.2.2.2.2.2.2.2.2 sz (mkI ub) pg pk) Q := by
            intro q2 x y hq2 hx
            cases q2 with
            | zero => exact Par.no
            | succ q2 =>
              rw [L_X8_tellsMost_e2]; unfold B_X8_tellsMost_2
              refine Par.bd (P := fun y => k + 1 < 4 ^ cnB (anB bs ub) → y = Int32.ofNat (spB (anB bs ub) (k + 1))) ?_ (fun z hz => ?_)
              · by_cases hk1 : k + 1 < 4 ^ cnB (anB bs ub)
                · exact (E_X9_following _ hK k (anB bs ub) hto hk1).mono (fun y hy _ => hy)
                · exact fun y _ h9 => absurd h9 hk1
              · exact ih q2 (by omega) (k + 1) z x _ _ y _ _ _ _ _ _ _ _ _ _ _ _ _ _ (ad1 l6 k h6 (by omega)) (by omega) hz r2 (Or.inr hx)
          refine Par.br (fun hle => ?_) (fun hgt => ?_)
          · rw [Int32.le_iff_toInt_le, m1] at hle
            have h1 := hf1 k
            rcases hb with ⟨_, _, h0⟩ | ⟨b, q1, q2, q3⟩
            · rw [h0, c0] at hle
              exfalso; omega
            · exact two q l5 mo (by omega) ⟨b, q1.keep (by omega), q2, q3⟩
          · rw [Int32.le_iff_toInt_le, m1] at hgt
            refine two q _ r.1 (by omega) ⟨k, ?_, rfl, m1⟩
            rcases hb with ⟨h0, _, _⟩ | ⟨b, q1, q2, q3⟩
            · rw [h0]; exact BstN.one
            · exact q1.new (by omega)
  exact key n 0 0 0 0 0 0 fv fk b1 b2 b3 fn fl t1 t2 t3 gf gs gz go rfl (Nat.zero_le _) (fun _ => by rw [sp0]; rfl) hca (Or.inl ⟨rfl, rfl, rfl⟩)
set_option maxHeartbeats 4000000 in
theorem E_X9_most (K : Nat) (hK : 1000000000 ≤ K) (w tm l3 : Int32) (pn : Nat) (LL : List Nat) (sv : Nat → Nat → Int32) (lvf : Nat → Int32) (stp : Int32) (wp : Nat) (x1 : Int32) (x2 : Int64) (x3 x4 mo : Int32) (fv : Nat → Int64) (fk : Nat → Int32) (b1 b2 b3 : Int32) (fn fl : Nat → Int32) (t1 t2 t3 : Int32) (gf gs : Nat → Int64) (gz go : Nat → Int32) (sz us : Int32) (pg : Nat → Option Nat) (pk : Nat → Int32) (D : List SRc) (M N dp : Nat → Nat) (ub : List Bool) (hub : ub.length = 6) (hus : us = mkI ub) (hU : UsD D (fun c => ub[c]? = some true)) (hs : sz.toInt = (D.length : Int)) (hD : D.length ≤ 30) (hC : CRw pg sv pk D M N) (hN : NsT D M N dp) (hV : VlD D) (hca : CaI D M N stp fv fk) : Par (F_X9_most K w tm l3 pn LL sv lvf stp wp x1 x2 x3 x4 mo fv fk b1 b2 b3 fn fl t1 t2 t3 gf gs gz go sz us pg pk) (fun r => ((¬ (AsP w tm ∧ (l3 = 0 ∨ l3 = 1)) ∧ r.1 = -1) ∨ ((AsP w tm ∧ (l3 = 0 ∨ l3 = 1)) ∧ MosP D M N w tm (wiL lvf w) l3 r.1)) ∧ CaI D M N stp r.2.2.2.2.2.2.2.1 r.2.2.2.2.2.2.2.2.1) := by
  have hb6 := wiL_len lvf w
  have hn6 := ntB_len hb6
  have hlo : (wiL lvf w).length = ub.length := by rw [hb6, hub]
  have hls : (ntB (wiL lvf w)).length = ub.length := by rw [hn6, hub]
  unfold F_X9_most
  obtain ⟨n, rfl⟩ : ∃ n9, K = n9 + 1 := ⟨K - 1, by omega⟩
  rw [L_X9_most_e0]; unfold B_X9_most_0
  refine Par.bd (E_X9_isWatched _ hK w tm l3) (fun o1 h1 => ?_)
  rcases h1 with ⟨e1, q1⟩ | ⟨e1, q1⟩
  rotate_left
  · exact Par.yes e1 (Par.ret ⟨Or.inl ⟨fun h => q1 ⟨h.1.1, h.1.2, h.2⟩, rfl⟩, hca⟩)
  refine Par.not (by rw [e1]; decide) ?_
  have hall : AsP w tm ∧ (l3 = 0 ∨ l3 = 1) := ⟨⟨q1.1, q1.2.1⟩, q1.2.2⟩
  refine Par.bd (E_X9_cellsWithin _ hK w lvf) (fun o2 h2 => ?_)
  subst h2
  obtain ⟨wn, hw4, hwn⟩ := w_nat q1.1
  refine Par.bd (P := fun r : Int32 × Int64 × Int32 × Int32 => r.1 = Int32.ofNat wn ∧ r.2.1.toBitVec.toNat = lnN (wiL lvf w) tm ∧ r.2.2.1 = mkI (wiL lvf w) ∧ r.2.2.2 = mkI (ntB (wiL lvf w))) (by
    have h9 := E_X8_aimW (n + 1) hK wn hw4 (wiL lvf w) hb6 tm x1 x2 x3 x4
    rw [← hwn] at h9
    rw [← hwn]
    exact h9) (fun a ha => ?_)
  obtain ⟨a1, a2, a3, a4⟩ := ha
  rw [a1, a3, a4]
  refine Par.bd (E_X8_tellsMost _ hK wn hw4 tm a.2.1 (wiL lvf w) hb6 a2 LL sv stp mo fv fk b1 b2 b3 fn fl t1 t2 t3 gf gs gz go sz us pg pk D M N dp ub hub hus hs hD hC hN hV hca) (fun r hr => ?_)
  obtain ⟨⟨b, ⟨k1, k2, k3⟩, k4, k5⟩, k6⟩ := hr
  rw [← hwn] at k2 k3 k5
  have hnd : ∀ o : Nat, ndQ (HpR D M N 0 w tm (wiL lvf w) o) (4 ^ cnB (ntB (wiL lvf w))) = ndQ (HyR D M N 0 w tm (wiL lvf w) ub (tau (wiL lvf w) ub o)) (4 ^ cnB (anB (ntB (wiL lvf w)) ub)) := fun o => nd_tau hls (fun x y _ _ => Hp_y hN hU hb6 hub o x y) (fun x => SAl_rf _)
  have to := tau_sgm (wiL lvf w) ub hlo b k1
  have hm : ∀ j : Nat, j < 4 ^ cnB (wiL lvf w) → ndQ (HpR D M N 0 w tm (wiL lvf w) j) (4 ^ cnB (ntB (wiL lvf w))) ≤ ndQ (HpR D M N 0 w tm (wiL lvf w) (sgm (wiL lvf w) ub b)) (4 ^ cnB (ntB (wiL lvf w))) := fun j hj => by
    rw [hnd, hnd, to]
    exact k2 _ (tau_lt (wiL lvf w) ub hlo j)
  have hl : ∀ j : Nat, j < sgm (wiL lvf w) ub b → ndQ (HpR D M N 0 w tm (wiL lvf w) j) (4 ^ cnB (ntB (wiL lvf w))) < ndQ (HpR D M N 0 w tm (wiL lvf w) (sgm (wiL lvf w) ub b)) (4 ^ cnB (ntB (wiL lvf w))) := fun j hj => by
    rw [hnd, hnd, to]
    exact k3 _ (sgm_gal hlo k1 hj)
  refine Par.br (fun h0 => ?_) (fun h0 => Par.ret ⟨Or.inr ⟨hall, sgm (wiL lvf w) ub b, sgm_lt (wiL lvf w) ub hlo b, hm, hl, Or.inr ⟨hall.2.resolve_left h0, ?_⟩⟩, k6⟩)
  · rw [k4]
    refine Par.bd (E_X9_gather _ hK (spB (anB (wiL lvf w) ub) b) (sp6 (anB_len hb6 hub) b) (wiL lvf w) hb6) (fun z hz => Par.ret ⟨Or.inr ⟨hall, sgm (wiL lvf w) ub b, sgm_lt (wiL lvf w) ub hlo b, hm, hl, Or.inl ⟨h0, ?_⟩⟩, k6⟩)
    rw [gaB_sgm _ _ hlo] at hz
    exact hz
  · rw [hnd, to]
    exact k5
