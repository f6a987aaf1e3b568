/-! the class's statements, one after another, against the machine, with content -/
theorem usX_one (r : SRc) : usX [r] = rowU r := by simp [usX]
theorem RowC.fin {ppg : Nat → Option Nat} {sv : Nat → Nat → Int32} {f : Nat → Int32} {D X : List SRc} {M N : Nat → Nat} {cs : Int} (r : SRc) (a cf : Nat) (hp : ppg D.length = some a) (h0 : sv a 0 = r.1) (h1 : sv a 1 = r.2.1) (h3 : sv a 3 = r.2.2.2) (h4 : (sv a 4).toInt = (cf : Int)) (h5 : (sv a 5).toInt = ((cf + r.2.2.1.length : Nat) : Int)) (hc : ((cf + r.2.2.1.length : Nat) : Int) ≤ cs) (hk : ∀ (t : Nat) (x : Int32), r.2.2.1[t]? = some x → f (cf + t) = encc x) (h6 : sv a 6 = CMk r.2.2.1 0) (h7 : r.1 = 2 → (sv a 7).toInt = (M D.length : Int)) (h8 : (sv a 8).toInt = (((if r.1 = 2 ∨ r.1 = 3 then N D.length else D.length + 1) : Nat) : Int)) (h2 : r.1 = 1 → (sv a 2).toInt = (cn1 D : Int)) : RowC ppg sv f (D ++ [r] ++ X) M N cs D.length := by
  refine ⟨r, a, cf, by simp, hp, h0, h1, h3, h4, h5, hc, hk, h6, h7, h8, fun h => ?_⟩
  rw [List.append_assoc, List.take_append_of_le_length (Nat.le_refl _), List.take_length]
  exact h2 h
theorem Q_X3_takeStatement (K : Nat) (hK : 1000000000 ≤ K) (cS cT : CStT) (cI cL : Nat → CStT) (cB : CStT) (hI : SpI 5 cI) (hL : SpI 7 cL) :
    SpT (fun l1 l2 LL sv ops cl mn at_ kd vl pl fk fv fp sz cs ou us ppg ppk => L_X3_takeStatement K cS cT cI cL cB K 0 l1 l2 0 0 0 LL sv ops cl mn at_ kd vl pl fk fv fp sz cs ou us ppg ppk) := by
  intro l1 l2 LL sv ops cl mn at_ kd vl pl fk fv fp sz cs ou us ppg ppk D M N b j hSt hCs hpg hl2 hb hsz hD ho hk
  have hg : ∀ (Q : R13 → Prop) n b0 b1 b2 a4 l5 s c1 c2 c3 c4 c5 c6 c7 c8 c9 c10 c11, Q (l5, sU s a4 8 c7, c1, c2, c3, c4, c5, c6, c7, c8, c9, c10 ||| (sU s a4 8 c7) a4 6, c11) → Par (L_X3_takeStatement K cS cT cI cL cB n 1 b0 b1 b2 a4 l5 LL s c1 c2 mn c3 c4 c5 c6 fk fv fp c7 c8 c9 c10 ppg c11) Q := by
    intro Q n b0 b1 b2 a4 l5 s c1 c2 c3 c4 c5 c6 c7 c8 c9 c10 c11 hQ
    cases n with
    | zero => exact Par.no
    | succ n => rw [L_X3_takeStatement_e1]; unfold B_X3_takeStatement_1; exact Par.br (fun _ => Par.br (fun _ => Par.ret hQ) (fun _ => Par.no)) (fun _ => Par.no)
  show Par (L_X3_takeStatement K cS cT cI cL cB K 0 l1 l2 0 0 0 LL sv ops cl mn at_ kd vl pl fk fv fp sz cs ou us ppg ppk) (StnP mn fk fv ppg l1 D M N sv ppk cs us b j)
  generalize hz : L_X3_takeStatement K cS cT cI cL cB K 0 l1 l2 0 0 0 LL sv ops cl mn at_ kd vl pl fk fv fp sz cs ou us ppg ppk = z
  obtain ⟨n, hn⟩ : ∃ n9, K = n9 + 1 := ⟨K - 1, by omega⟩
  have hz2 : z = L_X3_takeStatement K cS cT cI cL cB (n + 1) 0 l1 l2 0 0 0 LL sv ops cl mn at_ kd vl pl fk fv fp sz cs ou us ppg ppk := by rw [← hn, hz]
  rw [hz2, L_X3_takeStatement_e0]; unfold B_X3_takeStatement_0
  refine Par.bd (E_X4_append K hK l1 LL sv sz ppg (D.length) hsz hD) (fun p hp => ?_)
  obtain ⟨p1, p2, p3⟩ := hp
  refine Par.br (fun _ => ?_) (fun _ => Par.no)
  have hkd : kd = fk j := hCs.2.2.1
  have hc0 : 0 ≤ cs.toInt := hCs.2.2.2.2.1
  have hcf : ((cs.toInt.toNat : Nat) : Int) = cs.toInt := by omega
  have hnea : ∀ a : Nat, (∀ i : Nat, D.length ≤ i → i < 30 → ppg i ≠ some a) → a ≠ p.1 := fun a h h9 => h D.length (Nat.le_refl _) hD (by rw [h9]; exact p1)
  -- statements with others under them
  have hunder : ∀ (q : R13), IfnP mn fk fv ppg p.1 D M N p.2.1 ppk cs us b j q → Par (L_X3_takeStatement K cS cT cI cL cB n 1 l1 l2 sz p.1 q.1 LL q.2.1 q.2.2.1 q.2.2.2.1 mn q.2.2.2.2.1 q.2.2.2.2.2.1 q.2.2.2.2.2.2.1 q.2.2.2.2.2.2.2.1 fk fv fp q.2.2.2.2.2.2.2.2.1 q.2.2.2.2.2.2.2.2.2.1 q.2.2.2.2.2.2.2.2.2.2.1 q.2.2.2.2.2.2.2.2.2.2.2.1 ppg q.2.2.2.2.2.2.2.2.2.2.2.2) (StnP mn fk fv ppg l1 D M N sv ppk cs us b j) := by
    intro q hq
    have h3 : p.2.1 p.1 3 = l1 := by rw [p2, rst_3]
    unfold IfnP at hq
    rw [h3] at hq
    refine hg _ _ _ _ _ _ _ _ _ _ _ _ _ _ _ _ _ _ _ ?_
    rcases hq with ⟨g1, g2⟩ | ⟨g1, w, nm, e, cf, X, M2, N2, j', gw, g2, ⟨f0, f1, f3, f4, f5, fc, fk9, f6, f7, fN⟩, g3, g4, g5, g6, g7, g8, g9⟩
    · exact Or.inl ⟨g1, g2⟩
    · have hap : D ++ ([(w, nm, e, l1)] ++ X) = D ++ [(w, nm, e, l1)] ++ X := (List.append_assoc _ _ _).symm
      have hl9 : (D ++ [(w, nm, e, l1)] ++ X).length ≤ 30 := g2.2.2.1
      have hlen : (D ++ [(w, nm, e, l1)] ++ X).length = D.length + 1 + X.length := by simp; omega
      have hw0 : w ≠ 0 ∧ w ≠ 1 := by rcases gw with h | h <;> rw [h] <;> decide
      refine Or.inr ⟨g1, [(w, nm, e, l1)] ++ X, M2, N2, j', by rw [hap]; exact g2, ⟨g3, fun a h z => ?_, g5, g6, fun i h1 h2 => ?_, ?_⟩, by simp, fun S hS hP => by rw [hap]; exact g9 S hS hP⟩
      · show sU q.2.1 p.1 8 q.2.2.2.2.2.2.2.2.1 a z = sv a z
        rw [sU_fr _ _ _ _ (hnea a h), g4 a h z, p2, rst_fr _ _ (hnea a h)]
      · show RowC ppg (sU q.2.1 p.1 8 q.2.2.2.2.2.2.2.2.1) q.2.2.2.2.2.2.2.2.2.2.2.2 (D ++ ([(w, nm, e, l1)] ++ X)) M2 N2 (q.2.2.2.2.2.2.2.2.2.1).toInt i
        rw [hap] at h2 ⊢
        rcases Nat.lt_or_ge D.length i with h9 | h9
        · refine (g7 i h9 h2).re (fun a ha z => sU_fr _ _ _ _ (fun he => ?_)) (fun _ _ => rfl) (Int.le_refl _) rfl rfl
          rw [he] at ha
          have := hpg D.length i p.1 hD (by omega) p1 ha
          omega
        · have hi : i = D.length := by omega
          subst hi
          refine RowC.fin (w, nm, e, l1) p.1 cf p1 ?_ ?_ ?_ ?_ ?_ fc fk9 ?_ (fun h => ?_) ?_ (fun h => absurd h hw0.2)
          · rw [sU_ne _ _ _ (by decide)]; exact f0
          · rw [sU_ne _ _ _ (by decide)]; exact f1
          · rw [sU_ne _ _ _ (by decide)]; exact f3
          · rw [sU_ne _ _ _ (by decide)]; exact f4
          · rw [sU_ne _ _ _ (by decide)]; exact f5
          · rw [sU_ne _ _ _ (by decide)]; exact f6
          · rw [sU_ne _ _ _ (by decide)]; exact f7 h
          · rw [sU_eq, if_pos gw, fN]; exact g2.2.1
      · show q.2.2.2.2.2.2.2.2.2.2.2.1 ||| (sU q.2.1 p.1 8 q.2.2.2.2.2.2.2.2.1) p.1 6 = _
        rw [sU_ne _ _ _ (by decide), f6, g8, usX_app, usX_one]
        unfold rowU
        rw [if_neg hw0.1, Int32.zero_or, Int32.or_assoc, Int32.or_comm (usX X)]
  -- a statement without
  have hflat : ∀ (w nm : Int32) (e : List Int32) (j' : Nat) (s9 : Nat → Nat → Int32) (q1 q2 q3 q4 q5 q6 q8 q9 q10 : Int32) (q11 : Nat → Int32), (w = 0 ∨ w = 1) → CSt mn fk fv j' q3 q4 q5 q6 q8 → (∀ a : Nat, a ≠ p.1 → ∀ z : Nat, s9 a z = sv a z) → s9 p.1 0 = w → s9 p.1 1 = nm → s9 p.1 3 = l1 → s9 p.1 4 = cs → s9 p.1 5 = q8 → s9 p.1 6 = CMk e 0 → (w = 1 → (s9 p.1 2).toInt = (cn1 D : Int)) → EMt cs ppk q8 q11 e → q9.toInt = (cn1 (D ++ [(w, nm, e, l1)]) : Int) → q10 = us ||| (if w = 0 then (3 : Int32) <<< ((2 * nm) &&& 31) else 0) → (∀ S : List (Nat × Bool), Rc2 fk fv (D, M, N, S, j) (D ++ [(w, nm, e, parO S)], M, N, S, j')) → StnP mn fk fv ppg l1 D M N sv ppk cs us b j (1, sU s9 p.1 8 p.2.2, q1, q2, q3, q4, q5, q6, p.2.2, q8, q9, q10 ||| (sU s9 p.1 8 p.2.2) p.1 6, q11) := by
    intro w nm e j' s9 q1 q2 q3 q4 q5 q6 q8 q9 q10 q11 hw hC hfr f0 f1 f3 f4 f5 f6 f2 hE hq9 hq10 hR
    have hlen : (D ++ [(w, nm, e, l1)]).length = D.length + 1 := by rw [List.length_append, List.length_singleton]
    obtain ⟨m1, m2, m3⟩ := hE
    have hnw : ¬ (w = 2 ∨ w = 3) := by rcases hw with h | h <;> rw [h] <;> decide
    refine Or.inr ⟨rfl, [(w, nm, e, l1)], M, N, j', ⟨hC, by rw [hlen]; exact p3, by rw [hlen]; omega, hq9⟩, ⟨fun _ _ => ⟨rfl, rfl⟩, fun a h z => ?_, m2, by show cs.toInt ≤ q8.toInt; omega, fun i h1 h2 => ?_, ?_⟩, by simp, fun S _ hP => by rw [← hP]; exact hR S⟩
    · show sU s9 p.1 8 p.2.2 a z = sv a z
      rw [sU_fr _ _ _ _ (hnea a h), hfr a (hnea a h)]
    · have hi : i = D.length := by omega
      subst hi
      show RowC ppg (sU s9 p.1 8 p.2.2) q11 (D ++ [(w, nm, e, l1)]) M N q8.toInt D.length
      have := RowC.fin (ppg := ppg) (sv := sU s9 p.1 8 p.2.2) (f := q11) (D := D) (X := []) (M := M) (N := N) (cs := q8.toInt) (w, nm, e, l1) p.1 cs.toInt.toNat p1 (by rw [sU_ne _ _ _ (by decide)]; exact f0) (by rw [sU_ne _ _ _ (by decide)]; exact f1) (by rw [sU_ne _ _ _ (by decide)]; exact f3) (by rw [sU_ne _ _ _ (by decide), f4, hcf]) (by rw [sU_ne _ _ _ (by decide), f5, m1]; show _ = ((cs.toInt.toNat + e.length : Nat) : Int); omega) (by show ((cs.toInt.toNat + e.length : Nat) : Int) ≤ _; omega) m3 (by rw [sU_ne _ _ _ (by decide)]; exact f6) (fun h => absurd (Or.inl h) hnw) (by rw [sU_eq, if_neg hnw, p3]; rfl) (fun h => by rw [sU_ne _ _ _ (by decide)]; exact f2 h)
      rw [List.append_nil] at this
      exact this
    · show q10 ||| (sU s9 p.1 8 p.2.2) p.1 6 = _
      rw [sU_ne _ _ _ (by decide), f6, hq10, usX_one]
      unfold rowU
      rw [Int32.or_assoc]
  refine Par.br (fun h2 => ?_) (fun h2 => Par.br (fun h3 => ?_) (fun h3 => Par.br (fun h4 => ?_) (fun h4 => Par.br (fun h5 => ?_) (fun h5 => ?_))))
  · refine Par.bd (E_X3_takeAssignment K hK _ LL _ ops cl mn at_ kd vl pl fk fv fp cs us ppk j D hSt hCs (by rw [← hkd]; exact h2) hD) (fun q hq => ?_)
    refine hg _ _ _ _ _ _ _ _ _ _ _ _ _ _ _ _ _ _ _ ?_
    rcases hq with ⟨g1, g2⟩ | ⟨g1, e, j', g2, g3, g4, g5, g6⟩
    · exact Or.inl ⟨g1, fun S _ _ => g2 M N S⟩
    · rw [g1]
      refine hflat 0 (fv j) e j' q.2.1 _ _ _ _ _ _ _ _ _ _ (Or.inl rfl) g2 (fun a ha z => ?_) ?_ ?_ ?_ ?_ ?_ ?_ (fun h => absurd h (by decide)) g4 ?_ (by rw [if_pos rfl]; exact g5) (fun S => g6 M N S)
      · rw [g3, sU_fr _ _ _ _ ha, sU_fr _ _ _ _ ha, sU_fr _ _ _ _ ha, sU_fr _ _ _ _ ha, sU_fr _ _ _ _ ha, p2, rst_fr _ _ ha]
      · rw [g3, sU_ne _ _ _ (by decide), sU_ne _ _ _ (by decide), sU_ne _ _ _ (by decide), sU_ne _ _ _ (by decide), sU_eq]
      · rw [g3, sU_ne _ _ _ (by decide), sU_ne _ _ _ (by decide), sU_ne _ _ _ (by decide), sU_eq]
      · rw [g3, sU_ne _ _ _ (by decide), sU_ne _ _ _ (by decide), sU_ne _ _ _ (by decide), sU_ne _ _ _ (by decide), sU_ne _ _ _ (by decide), p2, rst_3]
      · rw [g3, sU_ne _ _ _ (by decide), sU_ne _ _ _ (by decide), sU_eq]
      · rw [g3, sU_ne _ _ _ (by decide), sU_eq]
      · rw [g3, sU_eq]
      · rw [cn1_0 D _ (by show (0 : Int32) ≠ 1; decide)]; exact ho
  · exfalso
    rw [hkd] at h3
    rcases hk with h | h | h | h <;> rw [h] at h3 <;> revert h3 <;> decide
  · refine Par.bd (E_X3_takeOut K hK _ LL _ ops cl mn at_ kd vl pl fk fv fp cs ou ppk j D hSt hCs (by rw [← hkd]; exact h4) hD ho) (fun q hq => ?_)
    refine hg _ _ _ _ _ _ _ _ _ _ _ _ _ _ _ _ _ _ _ ?_
    rcases hq with ⟨g1, g2⟩ | ⟨g1, e, j', g2, g3, g4, g5, g6⟩
    · exact Or.inl ⟨g1, fun S _ _ => g2 M N S⟩
    · rw [g1]
      refine hflat 1 (fv (j + 1)) e j' q.2.1 _ _ _ _ _ _ _ _ _ _ (Or.inr rfl) g2 (fun a ha z => ?_) ?_ ?_ ?_ ?_ ?_ ?_ (fun _ => ?_) g4 ?_ (by rw [if_neg (by decide), Int32.or_zero]) (fun S => g6 M N S)
      · rw [g3, sU_fr _ _ _ _ ha, sU_fr _ _ _ _ ha, sU_fr _ _ _ _ ha, sU_fr _ _ _ _ ha, sU_fr _ _ _ _ ha, sU_fr _ _ _ _ ha, p2, rst_fr _ _ ha]
      · rw [g3, sU_ne _ _ _ (by decide), sU_ne _ _ _ (by decide), sU_ne _ _ _ (by decide), sU_ne _ _ _ (by decide), sU_ne _ _ _ (by decide), sU_eq]
      · rw [g3, sU_ne _ _ _ (by decide), sU_ne _ _ _ (by decide), sU_ne _ _ _ (by decide), sU_eq]
      · rw [g3, sU_ne _ _ _ (by decide), sU_ne _ _ _ (by decide), sU_ne _ _ _ (by decide), sU_ne _ _ _ (by decide), sU_ne _ _ _ (by decide), sU_ne _ _ _ (by decide), p2, rst_3]
      · rw [g3, sU_ne _ _ _ (by decide), sU_ne _ _ _ (by decide), sU_eq]
      · rw [g3, sU_ne _ _ _ (by decide), sU_eq]
      · rw [g3, sU_eq]
      · rw [g3, sU_ne _ _ _ (by decide), sU_ne _ _ _ (by decide), sU_ne _ _ _ (by decide), sU_ne _ _ _ (by decide), sU_eq]; exact ho
      · rw [cn1_1 D _ rfl, g5]; rfl
  · refine Par.bd (hI _ sz l2 LL _ ops cl mn at_ kd vl pl fk fv fp _ cs ou us ppg ppk D M N b j hSt hCs hpg p1 hsz hl2 hb p3 hD ho (by rw [p2, rst_1, rst_4, rst_5, rst_6]; exact ⟨rfl, rfl, rfl, rfl⟩) (by rw [← hkd]; exact h5)) (fun q hq => ?_)
    exact hunder q hq
  · have h7 : fk j = 7 := by
      rw [hkd] at h2 h4 h5
      rcases hk with h | h | h | h
      · exact absurd h h2
      · exact absurd h h4
      · exact absurd h h5
      · exact h
    refine Par.bd (hL _ sz l2 LL _ ops cl mn at_ kd vl pl fk fv fp _ cs ou us ppg ppk D M N b j hSt hCs hpg p1 hsz hl2 hb p3 hD ho (by rw [p2, rst_1, rst_4, rst_5, rst_6]; exact ⟨rfl, rfl, rfl, rfl⟩) h7) (fun q hq => ?_)
    exact hunder q hq
theorem Q_X3_takeStatements (K : Nat) (hK : 1000000000 ≤ K) (cS cT : CStT) (cI cL : Nat → CStT) (cB : CStT) (hT : SpT cT) :
    SpS (fun l1 l2 LL sv ops cl mn at_ kd vl pl fk fv fp sz cs ou us ppg ppk => L_X3_takeStatements K cS cT cI cL cB K 0 l1 l2 0 LL sv ops cl mn at_ kd vl pl fk fv fp sz cs ou us ppg ppk) := by
  intro l1 l2 LL sv ops cl mn at_ kd vl pl fk fv fp sz cs ou us ppg ppk D M N b j hSt hCs hpg hl2 hb hsz hD ho
  have h2 : ∀ n b0 b1 b2 s c1 c2 c3 c4 c5 c6 c7 c8 c9 c10 c11, Par (L_X3_takeStatements K cS cT cI cL cB n 2 b0 b1 b2 LL s c1 c2 mn c3 c4 c5 c6 fk fv fp c7 c8 c9 c10 ppg c11) (fun r => r.1 = 0) := by
    intro n; intros
    cases n with
    | zero => exact Par.no
    | succ n => rw [L_X3_takeStatements_e2]; unfold B_X3_takeStatements_2; exact Par.ret rfl
  have h3 : ∀ (Q : R13 → Prop) n b0 b1 b2 s c1 c2 c3 c4 c5 c6 c7 c8 c9 c10 c11, Q (1, s, c1, c2, c3, c4, c5, c6, c7, c8, c9, c10, c11) → Par (L_X3_takeStatements K cS cT cI cL cB n 3 b0 b1 b2 LL s c1 c2 mn c3 c4 c5 c6 fk fv fp c7 c8 c9 c10 ppg c11) Q := by
    intro Q n b0 b1 b2 s c1 c2 c3 c4 c5 c6 c7 c8 c9 c10 c11 hQ
    cases n with
    | zero => exact Par.no
    | succ n => rw [L_X3_takeStatements_e3]; unfold B_X3_takeStatements_3; exact Par.ret hQ
  have hl : ∀ (n : Nat) (X : List SRc) (M1 N1 : Nat → Nat) (j1 : Nat) (l3 : Int32) s c1 c2 c3 c4 c5 c6 c7 c8 c9 c10 c11, SSt mn fk fv (D ++ X) j1 (1, s, c1, c2, c3, c4, c5, c6, c7, c8, c9, c10, c11) → ConT ppg D X sv ppk cs us M N M1 N1 (1, s, c1, c2, c3, c4, c5, c6, c7, c8, c9, c10, c11) → 0 ≤ l3.toInt → l3.toInt ≤ (X.length : Int) → (∀ S : List (Nat × Bool), S.length = b → parO S = l1 → Rc2 fk fv (D, M, N, S, j) (D ++ X, M1, N1, S, j1)) →
      Par (L_X3_takeStatements K cS cT cI cL cB n 1 l1 l2 l3 LL s c1 c2 mn c3 c4 c5 c6 fk fv fp c7 c8 c9 c10 ppg c11) (StsP mn fk fv ppg l1 D M N sv ppk cs us b j) := by
    intro n
    induction n with
    | zero => intros; exact Par.no
    | succ n ih =>
      intro X M1 N1 j1 l3 s c1 c2 c3 c4 c5 c6 c7 c8 c9 c10 c11 hX hCo hl0 hl3 hR
      obtain ⟨x1, x2, x3, x4⟩ := hX
      have hXl : X.length ≤ 30 := by rw [List.length_append] at x3; omega
      rw [L_X3_takeStatements_e1]; unfold B_X3_takeStatements_1
      refine Par.not (by rw [Int32.lt_iff_toInt_lt]; simp only [Int32.reduceToInt]; omega) ?_
      have hkd : c4 = fk j1 := x1.2.2.1
      refine Par.bd (E_X3_begins K hK c4) (fun p hp => ?_)
      rcases hp with ⟨p1, p2⟩ | ⟨p1, p2⟩
      · refine Par.yes p1 ?_
        exact h3 _ _ _ _ _ _ _ _ _ _ _ _ _ _ _ _ _ (Or.inr ⟨rfl, X, M1, N1, j1, ⟨x1, x2, x3, x4⟩, hCo, by rw [← hkd]; exact p2, hR⟩)
      · refine Par.not (by rw [p1]; decide) ?_
        rw [hkd] at p2
        refine Par.bd (E_X4_isFull K hK c7) (fun q hq => ?_)
        have x2' : c7.toInt = ((D ++ X).length : Int) := x2
        rcases hq with ⟨q1, q2⟩ | ⟨q1, q2⟩
        · refine Par.yes q1 ?_
          refine Par.bd (hT l1 l2 LL s c1 c2 mn c3 c4 c5 c6 fk fv fp c7 c8 c9 c10 ppg c11 (D ++ X) M1 N1 b j1 hSt x1 hpg hl2 hb x2 (by omega) x4 p2) (fun w hw => ?_)
          rcases hw with ⟨g1, g2⟩ | ⟨g1, Y, M2, N2, j2, g2, gc, g3, g4⟩
          · refine Par.yes g1 ?_
            exact (h2 _ _ _ _ _ _ _ _ _ _ _ _ _ _ _ _).mono (fun r hr => Or.inl ⟨hr, fun S hS hP => (hR S hS hP).fl (g2 S hS hP)⟩)
          · refine Par.not (by rw [g1]; decide) ?_
            have hl1 : (l3 + 1).toInt = l3.toInt + 1 := adI l3 _ rfl hl0 (by omega)
            have hCo2 := ConT.tr hpg x3 hCo gc
            refine ih (X ++ Y) M2 N2 j2 (l3 + 1) _ _ _ _ _ _ _ _ _ _ _ _ ?_ ?_ (by omega) ?_ (fun S hS hP => ?_)
            · rw [← List.append_assoc]; exact g2
            · exact hCo2
            · rw [List.length_append]; omega
            · rw [← List.append_assoc]; exact (hR S hS hP).tr (g4 S hS hP)
        · refine Par.not (by rw [q1]; decide) ?_
          exact (h2 _ _ _ _ _ _ _ _ _ _ _ _ _ _ _ _).mono (fun r hr => Or.inl ⟨hr, fun S hS hP => (hR S hS hP).fl (s_full p2 (by omega))⟩)
  show Par (L_X3_takeStatements K cS cT cI cL cB K 0 l1 l2 0 LL sv ops cl mn at_ kd vl pl fk fv fp sz cs ou us ppg ppk) (StsP mn fk fv ppg l1 D M N sv ppk cs us b j)
  generalize hz : L_X3_takeStatements K cS cT cI cL cB K 0 l1 l2 0 LL sv ops cl mn at_ kd vl pl fk fv fp sz cs ou us ppg ppk = z
  obtain ⟨n, hn⟩ : ∃ n9, K = n9 + 1 := ⟨K - 1, by omega⟩
  have hz2 : z = L_X3_takeStatements K cS cT cI cL cB (n + 1) 0 l1 l2 0 LL sv ops cl mn at_ kd vl pl fk fv fp sz cs ou us ppg ppk := by rw [← hn, hz]
  rw [hz2, L_X3_takeStatements_e0]; unfold B_X3_takeStatements_0
  refine hl n [] M N j 0 sv ops cl at_ kd vl pl sz cs ou us ppk ?_ (ConT.rf rfl rfl rfl rfl) (by decide) (by decide) (fun S hS hP => ?_)
  · rw [List.append_nil]; exact ⟨hCs, hsz, hD, ho⟩
  · rw [List.append_nil]; exact Rc2.rf
theorem Q_stm_d (K : Nat) (hK : 1000000000 ≤ K) : ∀ d : Nat, SpS (DD_stm K d).1 ∧ SpT (DD_stm K d).2.1 ∧ SpI 5 (DD_stm K d).2.2.1 ∧ SpI 7 (DD_stm K d).2.2.2.1 ∧ SpB (DD_stm K d).2.2.2.2 := by
  intro d
  induction d with
  | zero => refine ⟨?_, ?_, ?_, ?_, ?_⟩ <;> (intro l1; intros; exact Par.no)
  | succ d ih =>
    obtain ⟨h1, h2, h3, h4, h5⟩ := ih
    exact ⟨Q_X3_takeStatements K hK _ _ _ _ _ h2, Q_X3_takeStatement K hK _ _ _ _ _ h3 h4, Q_X3_takeIf K hK _ _ _ _ _ h5, Q_X3_takeLoop K hK _ _ _ _ _ h5, Q_X3_takeBraced K hK _ _ _ _ _ h1⟩
theorem Q_X3_stms (K : Nat) (hK : 1000000000 ≤ K) : SpS (F_X3_takeStatements K) := (Q_stm_d K hK 40).1
