/-! the reference: heaps -/
set_option maxHeartbeats 400000 in
set_option maxRecDepth 100000 in
theorem T_m_level (K : Nat) (hK : 1000000000 ≤ K) (l1_ : Int32) (l2_ : Int32) (ithrown_ : Int32) (alev_ : Nat → Int32) (hpre : True) : Tot (F_m_level K l1_ l2_ ithrown_ alev_) (fun r => (0 ≤ l1_.toInt ∧ l1_.toInt ≤ 5 ∧ 0 ≤ l2_.toInt ∧ l2_.toInt ≤ 3 ∧ r.1 = alev_ l1_.toNatClampNeg ∧ r.2.2 = upd alev_ l1_.toNatClampNeg l2_) ∨ ((l1_.toInt < 0 ∨ 5 < l1_.toInt ∨ l2_.toInt < 0 ∨ 3 < l2_.toInt) ∧ r.1 = -1 ∧ r.2.2 = alev_)) := by
  unfold F_m_level
  obtain ⟨n, hn⟩ : ∃ n9, K = n9 + 8 := ⟨K - 8, by omega⟩
  have hn2 : 999999000 ≤ n := by omega
  suffices hs : Tot (L_m_level K (n + 8) 0 l1_ l2_ ithrown_ alev_) (fun r => (0 ≤ l1_.toInt ∧ l1_.toInt ≤ 5 ∧ 0 ≤ l2_.toInt ∧ l2_.toInt ≤ 3 ∧ r.1 = alev_ l1_.toNatClampNeg ∧ r.2.2 = upd alev_ l1_.toNatClampNeg l2_) ∨ ((l1_.toInt < 0 ∨ 5 < l1_.toInt ∨ l2_.toInt < 0 ∨ 3 < l2_.toInt) ∧ r.1 = -1 ∧ r.2.2 = alev_)) from by rw [← hn] at hs; exact hs
  rw [L_m_level_e0]; unfold B_m_level_0
  repeat' (first | with_reducible refine Tot.ret ?_ | with_reducible refine Tot.ix ?_ ?_ | with_reducible refine Tot.yesB (by decide) ?_ | with_reducible refine Tot.noB (by decide) ?_ | with_reducible refine Tot.yes ?_ ?_ | with_reducible refine Tot.br (fun _ => ?_) (fun _ => ?_) | with_reducible refine Tot.bd (T_m_in K hK _ _ _ ?_) (fun _ _ => ?_) | (rw [L_m_level_e0]; unfold B_m_level_0; try simp only [subOne]) | (rw [L_m_level_e1]; unfold B_m_level_1; try simp only [subOne]))
  all_goals (first | exact True.intro | omega | (((try simp only [ne_eq, true_and, and_true, true_or, or_true, false_or, or_false, not_true_eq_false, not_false_eq_true, false_and, and_false, Int32.lt_iff_toInt_lt, Int32.le_iff_toInt_le, ← Int32.toInt_inj, Int32.toInt_add, Int32.toInt_sub, Int32.toInt_mul, Int32.reduceToInt, ge_iff_le, gt_iff_lt, upd_eq, upd_upd] at *) <;> (try simp (disch := omega) only [bmI] at *)) <;> (first | omega | ((try simp only [Int.bmod] at *) <;> omega) | simp_all)))
set_option maxHeartbeats 4000000 in
set_option maxRecDepth 100000 in
theorem T_m_valueOf (K : Nat) (hK : 1000000000 ≤ K) (l1_ : Int32) (astm_ : Nat → Int32) (asm_ : Nat → Int32) (avls_ : Nat → Int32) (acel_ : Nat → Int32) (hpre : okV astm_ asm_ l1_) : Tot (F_m_valueOf K l1_ astm_ asm_ avls_ acel_) (fun r => True) := by
  obtain ⟨hv0, hv1, hv2, hv3, hv4, hv5⟩ := hpre
  have key : ∀ N : Nat, (∀ (l1 : Int32) (l2 : Int32) (l3 : Int32) (l4 : Int32) (l5 : Int32) (l6 : Int32) (l7 : Int32) (s0 : Int32) (s1 : Int32) (avls : Nat → Int32), (l1 = l1_ ∧ l3 = (astm_ (8 * l1_ + 2).toNatClampNeg) ∧ (astm_ (8 * l1_ + 2).toNatClampNeg).toInt ≤ l4.toInt ∧ l4.toInt ≤ (astm_ (8 * l1_ + 2).toNatClampNeg).toInt + (astm_ (8 * l1_ + 3).toNatClampNeg).toInt ∧ ∃ d : Nat, l2.toInt = d ∧ okc asm_ (astm_ (8 * l1_ + 2).toNatClampNeg).toInt.toNat (l4.toInt - (astm_ (8 * l1_ + 2).toNatClampNeg).toInt).toNat d) → ((astm_ (8 * l1_ + 2).toNatClampNeg).toInt + (astm_ (8 * l1_ + 3).toNatClampNeg).toInt - l4.toInt).toNat < N → ∀ n : Nat, 8 * (((astm_ (8 * l1_ + 2).toNatClampNeg).toInt + (astm_ (8 * l1_ + 3).toNatClampNeg).toInt - l4.toInt).toNat + 1) ≤ n → Tot (L_m_valueOf K n 1 l1 l2 l3 l4 l5 l6 l7 s0 s1 astm_ asm_ avls acel_) (fun r => True)) := by
    intro N
    induction N with
    | zero => exact fun _ _ _ _ _ _ _ _ _ _ _ hm => absurd hm (Nat.not_lt_zero _)
    | succ N ih =>
      have ih1 := ih; clear ih
      · intro l1 l2 l3 l4 l5 l6 l7 s0 s1 avls hI hm n hn
        obtain ⟨n, rfl⟩ : ∃ n9, n = n9 + 8 := ⟨n - 8, by omega⟩
        obtain ⟨e1, e3, hi1, hi2, d, hd, ho⟩ := hI
        subst e1
        subst e3
        have hd24 := ho.le
        obtain ⟨d2, hd2⟩ := okc.go hv2 hv5 hi1 ho
        have hd2 : l4.toInt < (astm_ (8 * l1 + 2).toNatClampNeg).toInt + (astm_ (8 * l1 + 3).toNatClampNeg).toInt → stepc (asm_ l4.toNatClampNeg) d d2 ∧ okc asm_ (astm_ (8 * l1 + 2).toNatClampNeg).toInt.toNat (l4.toInt + 1 - (astm_ (8 * l1 + 2).toNatClampNeg).toInt).toNat d2 := hd2
        rw [L_m_valueOf_e1]; unfold B_m_valueOf_1; try simp only [subOne]
        repeat' (first | with_reducible refine Tot.ret ?_ | with_reducible refine Tot.ix ?_ ?_ | with_reducible refine Tot.yesB (by decide) ?_ | with_reducible refine Tot.noB (by decide) ?_ | with_reducible refine Tot.yes ?_ ?_ | with_reducible refine Tot.br (fun _ => ?_) (fun _ => ?_) | with_reducible refine ih1 _ _ _ _ _ _ _ _ _ _ ?_ ?_ _ ?_ | (rw [L_m_valueOf_e0]; unfold B_m_valueOf_0; try simp only [subOne]) | (rw [L_m_valueOf_e2]; unfold B_m_valueOf_2; try simp only [subOne]) | (rw [L_m_valueOf_e3]; unfold B_m_valueOf_3; try simp only [subOne]) | (rw [L_m_valueOf_e4]; unfold B_m_valueOf_4; try simp only [subOne]))
        all_goals clear ih1
        all_goals (((try simp only [ne_eq, true_and, and_true, true_or, or_true, false_or, or_false, not_true_eq_false, not_false_eq_true, false_and, and_false, Int32.lt_iff_toInt_lt, Int32.le_iff_toInt_le, ← Int32.toInt_inj, Int32.toInt_add, Int32.toInt_sub, Int32.toInt_mul, Int32.reduceToInt, ge_iff_le, gt_iff_lt, upd_eq, upd_upd] at *) <;> (try simp (disch := omega) only [bmI] at *)) <;> (first | exact True.intro | omega | (obtain ⟨hs, ho2⟩ := hd2 (by omega); unfold stepc at hs; first | omega | exact ⟨trivial, trivial, by omega, by omega, d2, by omega, ho2.cast (by omega)⟩ | exact ⟨by omega, by omega, d2, by omega, ho2.cast (by omega)⟩)))
  have hk1 : ∀ (l1 : Int32) (l2 : Int32) (l3 : Int32) (l4 : Int32) (l5 : Int32) (l6 : Int32) (l7 : Int32) (s0 : Int32) (s1 : Int32) (avls : Nat → Int32), (l1 = l1_ ∧ l3 = (astm_ (8 * l1_ + 2).toNatClampNeg) ∧ (astm_ (8 * l1_ + 2).toNatClampNeg).toInt ≤ l4.toInt ∧ l4.toInt ≤ (astm_ (8 * l1_ + 2).toNatClampNeg).toInt + (astm_ (8 * l1_ + 3).toNatClampNeg).toInt ∧ ∃ d : Nat, l2.toInt = d ∧ okc asm_ (astm_ (8 * l1_ + 2).toNatClampNeg).toInt.toNat (l4.toInt - (astm_ (8 * l1_ + 2).toNatClampNeg).toInt).toNat d) → ∀ n : Nat, 8 * (((astm_ (8 * l1_ + 2).toNatClampNeg).toInt + (astm_ (8 * l1_ + 3).toNatClampNeg).toInt - l4.toInt).toNat + 1) ≤ n → Tot (L_m_valueOf K n 1 l1 l2 l3 l4 l5 l6 l7 s0 s1 astm_ asm_ avls acel_) (fun r => True) := fun l1 l2 l3 l4 l5 l6 l7 s0 s1 avls hI n hn => (key (((astm_ (8 * l1_ + 2).toNatClampNeg).toInt + (astm_ (8 * l1_ + 3).toNatClampNeg).toInt - l4.toInt).toNat + 1)) l1 l2 l3 l4 l5 l6 l7 s0 s1 avls hI (Nat.lt_succ_self _) n hn
  clear key
  unfold F_m_valueOf
  obtain ⟨n, hn⟩ : ∃ n9, K = n9 + 8 := ⟨K - 8, by omega⟩
  have hn2 : 999999000 ≤ n := by omega
  suffices hs : Tot (L_m_valueOf K (n + 8) 0 l1_ 0 0 0 0 0 0 0 0 astm_ asm_ avls_ acel_) (fun r => True) from by rw [← hn] at hs; exact hs
  rw [L_m_valueOf_e0]; unfold B_m_valueOf_0
  repeat' (first | with_reducible refine Tot.ret ?_ | with_reducible refine Tot.ix ?_ ?_ | with_reducible refine Tot.yesB (by decide) ?_ | with_reducible refine Tot.noB (by decide) ?_ | with_reducible refine Tot.yes ?_ ?_ | with_reducible refine Tot.br (fun _ => ?_) (fun _ => ?_) | with_reducible refine hk1 _ _ _ _ _ _ _ _ _ _ ?_ _ ?_ | (rw [L_m_valueOf_e0]; unfold B_m_valueOf_0; try simp only [subOne]) | (rw [L_m_valueOf_e2]; unfold B_m_valueOf_2; try simp only [subOne]) | (rw [L_m_valueOf_e3]; unfold B_m_valueOf_3; try simp only [subOne]) | (rw [L_m_valueOf_e4]; unfold B_m_valueOf_4; try simp only [subOne]))
  all_goals clear hk1
  all_goals (first | exact ⟨rfl, rfl, by omega, by omega, 0, rfl, by rw [Int.sub_self]; rfl⟩ | (first | exact True.intro | omega | (((try simp only [ne_eq, true_and, and_true, true_or, or_true, false_or, or_false, not_true_eq_false, not_false_eq_true, false_and, and_false, Int32.lt_iff_toInt_lt, Int32.le_iff_toInt_le, ← Int32.toInt_inj, Int32.toInt_add, Int32.toInt_sub, Int32.toInt_mul, Int32.reduceToInt, ge_iff_le, gt_iff_lt, upd_eq, upd_upd] at *) <;> (try simp (disch := omega) only [bmI] at *)) <;> (first | omega | ((try simp only [Int.bmod] at *) <;> omega) | simp_all))))
set_option maxHeartbeats 400000 in
set_option maxRecDepth 100000 in
theorem T_m_outsAhead (K : Nat) (hK : 1000000000 ≤ K) (l1_ : Int32) (ipassed_ : Int32) (astm_ : Nat → Int32) (hpre : 0 ≤ l1_.toInt ∧ l1_.toInt ≤ 30) : Tot (F_m_outsAhead K l1_ ipassed_ astm_) (fun r => True) := by
  have key : ∀ N : Nat, (∀ (l1 : Int32) (l2 : Int32) (l3 : Int32) (s0 : Int32) (s1 : Int32), (l1 = l1_ ∧ 0 ≤ l3.toInt ∧ l3.toInt ≤ 30) → (30 - l3.toInt).toNat < N → ∀ n : Nat, 8 * ((30 - l3.toInt).toNat + 1) ≤ n → Tot (L_m_outsAhead K n 1 l1 l2 l3 s0 s1 ipassed_ astm_) (fun r => True)) := by
    intro N
    induction N with
    | zero => exact fun _ _ _ _ _ _ hm => absurd hm (Nat.not_lt_zero _)
    | succ N ih =>
      have ih1 := ih; clear ih
      · intro l1 l2 l3 s0 s1 hI hm n hn
        obtain ⟨n, rfl⟩ : ∃ n9, n = n9 + 8 := ⟨n - 8, by omega⟩
        rw [L_m_outsAhead_e1]; unfold B_m_outsAhead_1; try simp only [subOne]
        repeat' (first | with_reducible refine Tot.ret ?_ | with_reducible refine Tot.ix ?_ ?_ | with_reducible refine Tot.yesB (by decide) ?_ | with_reducible refine Tot.noB (by decide) ?_ | with_reducible refine Tot.yes ?_ ?_ | with_reducible refine Tot.br (fun _ => ?_) (fun _ => ?_) | with_reducible refine ih1 _ _ _ _ _ ?_ ?_ _ ?_ | (rw [L_m_outsAhead_e0]; unfold B_m_outsAhead_0; try simp only [subOne]) | (rw [L_m_outsAhead_e2]; unfold B_m_outsAhead_2; try simp only [subOne]))
        all_goals clear ih1
        all_goals (first | exact True.intro | omega | (((try simp only [ne_eq, true_and, and_true, true_or, or_true, false_or, or_false, not_true_eq_false, not_false_eq_true, false_and, and_false, Int32.lt_iff_toInt_lt, Int32.le_iff_toInt_le, ← Int32.toInt_inj, Int32.toInt_add, Int32.toInt_sub, Int32.toInt_mul, Int32.reduceToInt, ge_iff_le, gt_iff_lt, upd_eq, upd_upd] at *) <;> (try simp (disch := omega) only [bmI] at *)) <;> (first | omega | ((try simp only [Int.bmod] at *) <;> omega) | simp_all)))
  have hk1 : ∀ (l1 : Int32) (l2 : Int32) (l3 : Int32) (s0 : Int32) (s1 : Int32), (l1 = l1_ ∧ 0 ≤ l3.toInt ∧ l3.toInt ≤ 30) → ∀ n : Nat, 8 * ((30 - l3.toInt).toNat + 1) ≤ n → Tot (L_m_outsAhead K n 1 l1 l2 l3 s0 s1 ipassed_ astm_) (fun r => True) := fun l1 l2 l3 s0 s1 hI n hn => (key ((30 - l3.toInt).toNat + 1)) l1 l2 l3 s0 s1 hI (Nat.lt_succ_self _) n hn
  clear key
  unfold F_m_outsAhead
  obtain ⟨n, hn⟩ : ∃ n9, K = n9 + 8 := ⟨K - 8, by omega⟩
  have hn2 : 999999000 ≤ n := by omega
  suffices hs : Tot (L_m_outsAhead K (n + 8) 0 l1_ 0 0 0 0 ipassed_ astm_) (fun r => True) from by rw [← hn] at hs; exact hs
  rw [L_m_outsAhead_e0]; unfold B_m_outsAhead_0
  repeat' (first | with_reducible refine Tot.ret ?_ | with_reducible refine Tot.ix ?_ ?_ | with_reducible refine Tot.yesB (by decide) ?_ | with_reducible refine Tot.noB (by decide) ?_ | with_reducible refine Tot.yes ?_ ?_ | with_reducible refine Tot.br (fun _ => ?_) (fun _ => ?_) | with_reducible refine hk1 _ _ _ _ _ ?_ _ ?_ | (rw [L_m_outsAhead_e0]; unfold B_m_outsAhead_0; try simp only [subOne]) | (rw [L_m_outsAhead_e2]; unfold B_m_outsAhead_2; try simp only [subOne]))
  all_goals clear hk1
  all_goals (first | exact True.intro | omega | (((try simp only [ne_eq, true_and, and_true, true_or, or_true, false_or, or_false, not_true_eq_false, not_false_eq_true, false_and, and_false, Int32.lt_iff_toInt_lt, Int32.le_iff_toInt_le, ← Int32.toInt_inj, Int32.toInt_add, Int32.toInt_sub, Int32.toInt_mul, Int32.reduceToInt, ge_iff_le, gt_iff_lt, upd_eq, upd_upd] at *) <;> (try simp (disch := omega) only [bmI] at *)) <;> (first | omega | ((try simp only [Int.bmod] at *) <;> omega) | simp_all)))
set_option maxHeartbeats 400000 in
set_option maxRecDepth 100000 in
theorem T_m_least (K : Nat) (hK : 1000000000 ≤ K) (l0_ : Int32) (l1_ : Int32) (hpre : True) : Tot (F_m_least K l0_ l1_) (fun r => (r = l0_ ∨ r = l1_) ∧ r.toInt ≤ l0_.toInt ∧ r.toInt ≤ l1_.toInt) := by
  unfold F_m_least
  obtain ⟨n, hn⟩ : ∃ n9, K = n9 + 8 := ⟨K - 8, by omega⟩
  have hn2 : 999999000 ≤ n := by omega
  suffices hs : Tot (L_m_least K (n + 8) 0 l0_ l1_) (fun r => (r = l0_ ∨ r = l1_) ∧ r.toInt ≤ l0_.toInt ∧ r.toInt ≤ l1_.toInt) from by rw [← hn] at hs; exact hs
  rw [L_m_least_e0]; unfold B_m_least_0
  repeat' (first | with_reducible refine Tot.ret ?_ | with_reducible refine Tot.ix ?_ ?_ | with_reducible refine Tot.yesB (by decide) ?_ | with_reducible refine Tot.noB (by decide) ?_ | with_reducible refine Tot.yes ?_ ?_ | with_reducible refine Tot.br (fun _ => ?_) (fun _ => ?_) | (rw [L_m_least_e0]; unfold B_m_least_0; try simp only [subOne]))
  all_goals (first | exact True.intro | omega | (((try simp only [ne_eq, true_and, and_true, true_or, or_true, false_or, or_false, not_true_eq_false, not_false_eq_true, false_and, and_false, Int32.lt_iff_toInt_lt, Int32.le_iff_toInt_le, ← Int32.toInt_inj, Int32.toInt_add, Int32.toInt_sub, Int32.toInt_mul, Int32.reduceToInt, ge_iff_le, gt_iff_lt, upd_eq, upd_upd] at *) <;> (try simp (disch := omega) only [bmI] at *)) <;> (first | omega | ((try simp only [Int.bmod] at *) <;> omega) | simp_all)))
set_option maxHeartbeats 400000 in
set_option maxRecDepth 100000 in
theorem T_m_ran (K : Nat) (hK : 1000000000 ≤ K) (l1_ : Int32) (ithrown_ : Int32) (iranSteps_ : Int32) (iranCame_ : Int32) (hpre : True) : Tot (F_m_ran K l1_ ithrown_ iranSteps_ iranCame_) (fun r => True) := by
  unfold F_m_ran
  obtain ⟨n, hn⟩ : ∃ n9, K = n9 + 8 := ⟨K - 8, by omega⟩
  have hn2 : 999999000 ≤ n := by omega
  suffices hs : Tot (L_m_ran K (n + 8) 0 l1_ ithrown_ iranSteps_ iranCame_) (fun r => True) from by rw [← hn] at hs; exact hs
  rw [L_m_ran_e0]; unfold B_m_ran_0
  repeat' (first | with_reducible refine Tot.ret ?_ | with_reducible refine Tot.ix ?_ ?_ | with_reducible refine Tot.yesB (by decide) ?_ | with_reducible refine Tot.noB (by decide) ?_ | with_reducible refine Tot.yes ?_ ?_ | with_reducible refine Tot.br (fun _ => ?_) (fun _ => ?_) | with_reducible refine Tot.bd (T_m_least K hK _ _ ?_) (fun _ _ => ?_) | (rw [L_m_ran_e0]; unfold B_m_ran_0; try simp only [subOne]))
  all_goals (first | exact True.intro | omega | (((try simp only [ne_eq, true_and, and_true, true_or, or_true, false_or, or_false, not_true_eq_false, not_false_eq_true, false_and, and_false, Int32.lt_iff_toInt_lt, Int32.le_iff_toInt_le, ← Int32.toInt_inj, Int32.toInt_add, Int32.toInt_sub, Int32.toInt_mul, Int32.reduceToInt, ge_iff_le, gt_iff_lt, upd_eq, upd_upd] at *) <;> (try simp (disch := omega) only [bmI] at *)) <;> (first | omega | ((try simp only [Int.bmod] at *) <;> omega) | simp_all)))
set_option maxHeartbeats 400000 in
set_option maxRecDepth 100000 in
theorem T_m_tape (K : Nat) (hK : 1000000000 ≤ K) (l1_ : Int32) (l2_ : Int32) (ithrown_ : Int32) (iranCame_ : Int32) (artp_ : Nat → Int32) (arlv_ : Nat → Int32) (hpre : 0 ≤ iranCame_.toInt) : Tot (F_m_tape K l1_ l2_ ithrown_ iranCame_ artp_ arlv_) (fun r => True) := by
  unfold F_m_tape
  obtain ⟨n, hn⟩ : ∃ n9, K = n9 + 8 := ⟨K - 8, by omega⟩
  have hn2 : 999999000 ≤ n := by omega
  suffices hs : Tot (L_m_tape K (n + 8) 0 l1_ l2_ ithrown_ iranCame_ artp_ arlv_) (fun r => True) from by rw [← hn] at hs; exact hs
  rw [L_m_tape_e0]; unfold B_m_tape_0
  repeat' (first | with_reducible refine Tot.ret ?_ | with_reducible refine Tot.ix ?_ ?_ | with_reducible refine Tot.yesB (by decide) ?_ | with_reducible refine Tot.noB (by decide) ?_ | with_reducible refine Tot.yes ?_ ?_ | with_reducible refine Tot.br (fun _ => ?_) (fun _ => ?_) | with_reducible refine Tot.bd (T_m_least K hK _ _ ?_) (fun _ _ => ?_) | with_reducible refine Tot.bd (T_m_in K hK _ _ _ ?_) (fun _ _ => ?_) | (rw [L_m_tape_e0]; unfold B_m_tape_0; try simp only [subOne]) | (rw [L_m_tape_e1]; unfold B_m_tape_1; try simp only [subOne]))
  all_goals (first | exact True.intro | omega | (((try simp only [ne_eq, true_and, and_true, true_or, or_true, false_or, or_false, not_true_eq_false, not_false_eq_true, false_and, and_false, Int32.lt_iff_toInt_lt, Int32.le_iff_toInt_le, ← Int32.toInt_inj, Int32.toInt_add, Int32.toInt_sub, Int32.toInt_mul, Int32.reduceToInt, ge_iff_le, gt_iff_lt, upd_eq, upd_upd] at *) <;> (try simp (disch := omega) only [bmI] at *)) <;> (first | omega | ((try simp only [Int.bmod] at *) <;> omega) | simp_all)))
set_option maxHeartbeats 400000 in
set_option maxRecDepth 100000 in
theorem T_m_cells (K : Nat) (hK : 1000000000 ≤ K) (l1_ : Int32) (l2_ : Int32) (alev_ : Nat → Int32) (hpre : True) : Tot (F_m_cells K l1_ l2_ alev_) (fun r => 0 ≤ r.toInt ∧ r.toInt ≤ 6) := by
  have key : ∀ N : Nat, (∀ (l1 : Int32) (l2 : Int32) (l3 : Int32) (l4 : Int32) (s0 : Int32) (s1 : Int32), (0 ≤ l3.toInt ∧ l3.toInt ≤ l4.toInt ∧ l4.toInt ≤ 6) → (6 - l4.toInt).toNat < N → ∀ n : Nat, 8 * ((6 - l4.toInt).toNat + 1) ≤ n → Tot (L_m_cells K n 1 l1 l2 l3 l4 s0 s1 alev_) (fun r => 0 ≤ r.toInt ∧ r.toInt ≤ 6)) := by
    intro N
    induction N with
    | zero => exact fun _ _ _ _ _ _ _ hm => absurd hm (Nat.not_lt_zero _)
    | succ N ih =>
      have ih1 := ih; clear ih
      · intro l1 l2 l3 l4 s0 s1 hI hm n hn
        obtain ⟨n, rfl⟩ : ∃ n9, n = n9 + 8 := ⟨n - 8, by omega⟩
        rw [L_m_cells_e1]; unfold B_m_cells_1; try simp only [subOne]
        repeat' (first | with_reducible refine Tot.ret ?_ | with_reducible refine Tot.ix ?_ ?_ | with_reducible refine Tot.yesB (by decide) ?_ | with_reducible refine Tot.noB (by decide) ?_ | with_reducible refine Tot.yes ?_ ?_ | with_reducible refine Tot.br (fun _ => ?_) (fun _ => ?_) | with_reducible refine Tot.bd (T_m_isWithin K hK _ _ ?_) (fun _ _ => ?_) | with_reducible refine ih1 _ _ _ _ _ _ ?_ ?_ _ ?_ | (rw [L_m_cells_e0]; unfold B_m_cells_0; try simp only [subOne]) | (rw [L_m_cells_e2]; unfold B_m_cells_2; try simp only [subOne]))
        all_goals clear ih1
        all_goals (first | exact True.intro | omega | (((try simp only [ne_eq, true_and, and_true, true_or, or_true, false_or, or_false, not_true_eq_false, not_false_eq_true, false_and, and_false, Int32.lt_iff_toInt_lt, Int32.le_iff_toInt_le, ← Int32.toInt_inj, Int32.toInt_add, Int32.toInt_sub, Int32.toInt_mul, Int32.reduceToInt, ge_iff_le, gt_iff_lt, upd_eq, upd_upd] at *) <;> (try simp (disch := omega) only [bmI] at *)) <;> (first | omega | ((try simp only [Int.bmod] at *) <;> omega) | simp_all)))
  have hk1 : ∀ (l1 : Int32) (l2 : Int32) (l3 : Int32) (l4 : Int32) (s0 : Int32) (s1 : Int32), (0 ≤ l3.toInt ∧ l3.toInt ≤ l4.toInt ∧ l4.toInt ≤ 6) → ∀ n : Nat, 8 * ((6 - l4.toInt).toNat + 1) ≤ n → Tot (L_m_cells K n 1 l1 l2 l3 l4 s0 s1 alev_) (fun r => 0 ≤ r.toInt ∧ r.toInt ≤ 6) := fun l1 l2 l3 l4 s0 s1 hI n hn => (key ((6 - l4.toInt).toNat + 1)) l1 l2 l3 l4 s0 s1 hI (Nat.lt_succ_self _) n hn
  clear key
  unfold F_m_cells
  obtain ⟨n, hn⟩ : ∃ n9, K = n9 + 8 := ⟨K - 8, by omega⟩
  have hn2 : 999999000 ≤ n := by omega
  suffices hs : Tot (L_m_cells K (n + 8) 0 l1_ l2_ 0 0 0 0 alev_) (fun r => 0 ≤ r.toInt ∧ r.toInt ≤ 6) from by rw [← hn] at hs; exact hs
  rw [L_m_cells_e0]; unfold B_m_cells_0
  repeat' (first | with_reducible refine Tot.ret ?_ | with_reducible refine Tot.ix ?_ ?_ | with_reducible refine Tot.yesB (by decide) ?_ | with_reducible refine Tot.noB (by decide) ?_ | with_reducible refine Tot.yes ?_ ?_ | with_reducible refine Tot.br (fun _ => ?_) (fun _ => ?_) | with_reducible refine Tot.bd (T_m_isWithin K hK _ _ ?_) (fun _ _ => ?_) | with_reducible refine hk1 _ _ _ _ _ _ ?_ _ ?_ | (rw [L_m_cells_e0]; unfold B_m_cells_0; try simp only [subOne]) | (rw [L_m_cells_e2]; unfold B_m_cells_2; try simp only [subOne]))
  all_goals clear hk1
  all_goals (first | exact True.intro | omega | (((try simp only [ne_eq, true_and, and_true, true_or, or_true, false_or, or_false, not_true_eq_false, not_false_eq_true, false_and, and_false, Int32.lt_iff_toInt_lt, Int32.le_iff_toInt_le, ← Int32.toInt_inj, Int32.toInt_add, Int32.toInt_sub, Int32.toInt_mul, Int32.reduceToInt, ge_iff_le, gt_iff_lt, upd_eq, upd_upd] at *) <;> (try simp (disch := omega) only [bmI] at *)) <;> (first | omega | ((try simp only [Int.bmod] at *) <;> omega) | simp_all)))
set_option maxHeartbeats 400000 in
set_option maxRecDepth 100000 in
theorem T_m_tells (K : Nat) (hK : 1000000000 ≤ K) (l1_ : Int32) (l2_ : Int32) (l3_ : Int32) (alev_ : Nat → Int32) (acel_ : Nat → Int32) (hpre : True) : Tot (F_m_tells K l1_ l2_ l3_ alev_ acel_) (fun r => True) := by
  have key : ∀ N : Nat, (∀ (l1 : Int32) (l2 : Int32) (l3 : Int32) (l4 : Int32) (l5 : Int32) (acel : Nat → Int32), (0 ≤ l5.toInt ∧ l5.toInt ≤ 6) → (6 - l5.toInt).toNat < N → ∀ n : Nat, 8 * ((6 - l5.toInt).toNat + 1) ≤ n → Tot (L_m_tells K n 1 l1 l2 l3 l4 l5 alev_ acel) (fun r => True)) := by
    intro N
    induction N with
    | zero => exact fun _ _ _ _ _ _ _ hm => absurd hm (Nat.not_lt_zero _)
    | succ N ih =>
      have ih1 := ih; clear ih
      · intro l1 l2 l3 l4 l5 acel hI hm n hn
        obtain ⟨n, rfl⟩ : ∃ n9, n = n9 + 8 := ⟨n - 8, by omega⟩
        rw [L_m_tells_e1]; unfold B_m_tells_1; try simp only [subOne]
        repeat' (first | with_reducible refine Tot.ret ?_ | with_reducible refine Tot.ix ?_ ?_ | with_reducible refine Tot.yesB (by decide) ?_ | with_reducible refine Tot.noB (by decide) ?_ | with_reducible refine Tot.yes ?_ ?_ | with_reducible refine Tot.br (fun _ => ?_) (fun _ => ?_) | with_reducible refine Tot.bd (T_m_isWithin K hK _ _ ?_) (fun _ _ => ?_) | with_reducible refine ih1 _ _ _ _ _ _ ?_ ?_ _ ?_ | (rw [L_m_tells_e0]; unfold B_m_tells_0; try simp only [subOne]) | (rw [L_m_tells_e2]; unfold B_m_tells_2; try simp only [subOne]))
        all_goals clear ih1
        all_goals (first | exact True.intro | omega | (((try simp only [ne_eq, true_and, and_true, true_or, or_true, false_or, or_false, not_true_eq_false, not_false_eq_true, false_and, and_false, Int32.lt_iff_toInt_lt, Int32.le_iff_toInt_le, ← Int32.toInt_inj, Int32.toInt_add, Int32.toInt_sub, Int32.toInt_mul, Int32.reduceToInt, ge_iff_le, gt_iff_lt, upd_eq, upd_upd] at *) <;> (try simp (disch := omega) only [bmI] at *)) <;> (first | omega | ((try simp only [Int.bmod] at *) <;> omega) | simp_all)))
  have hk1 : ∀ (l1 : Int32) (l2 : Int32) (l3 : Int32) (l4 : Int32) (l5 : Int32) (acel : Nat → Int32), (0 ≤ l5.toInt ∧ l5.toInt ≤ 6) → ∀ n : Nat, 8 * ((6 - l5.toInt).toNat + 1) ≤ n → Tot (L_m_tells K n 1 l1 l2 l3 l4 l5 alev_ acel) (fun r => True) := fun l1 l2 l3 l4 l5 acel hI n hn => (key ((6 - l5.toInt).toNat + 1)) l1 l2 l3 l4 l5 acel hI (Nat.lt_succ_self _) n hn
  clear key
  unfold F_m_tells
  obtain ⟨n, hn⟩ : ∃ n9, K = n9 + 8 := ⟨K - 8, by omega⟩
  have hn2 : 999999000 ≤ n := by omega
  suffices hs : Tot (L_m_tells K (n + 8) 0 l1_ l2_ l3_ 0 0 alev_ acel_) (fun r => True) from by rw [← hn] at hs; exact hs
  rw [L_m_tells_e0]; unfold B_m_tells_0
  repeat' (first | with_reducible refine Tot.ret ?_ | with_reducible refine Tot.ix ?_ ?_ | with_reducible refine Tot.yesB (by decide) ?_ | with_reducible refine Tot.noB (by decide) ?_ | with_reducible refine Tot.yes ?_ ?_ | with_reducible refine Tot.br (fun _ => ?_) (fun _ => ?_) | with_reducible refine Tot.bd (T_m_isWithin K hK _ _ ?_) (fun _ _ => ?_) | with_reducible refine hk1 _ _ _ _ _ _ ?_ _ ?_ | (rw [L_m_tells_e0]; unfold B_m_tells_0; try simp only [subOne]) | (rw [L_m_tells_e2]; unfold B_m_tells_2; try simp only [subOne]))
  all_goals clear hk1
  all_goals (first | exact True.intro | omega | (((try simp only [ne_eq, true_and, and_true, true_or, or_true, false_or, or_false, not_true_eq_false, not_false_eq_true, false_and, and_false, Int32.lt_iff_toInt_lt, Int32.le_iff_toInt_le, ← Int32.toInt_inj, Int32.toInt_add, Int32.toInt_sub, Int32.toInt_mul, Int32.reduceToInt, ge_iff_le, gt_iff_lt, upd_eq, upd_upd] at *) <;> (try simp (disch := omega) only [bmI] at *)) <;> (first | omega | ((try simp only [Int.bmod] at *) <;> omega) | simp_all)))
set_option maxHeartbeats 400000 in
set_option maxRecDepth 100000 in
theorem T_m_sees (K : Nat) (hK : 1000000000 ≤ K) (l1_ : Int32) (l2_ : Int32) (icame_ : Int32) (alev_ : Nat → Int32) (acel_ : Nat → Int32) (atap_ : Nat → Int32) (atpl_ : Nat → Int32) (asgt_ : Nat → Int64) (hpre : 0 ≤ icame_.toInt ∧ 0 ≤ l2_.toInt ∧ l2_.toInt ≤ 3) : Tot (F_m_sees K l1_ l2_ icame_ alev_ acel_ atap_ atpl_ asgt_) (fun r => True) := by
  have key : ∀ N : Nat, (∀ (l1 : Int32) (l2 : Int32) (j3 : Int64) (j5 : Int64) (j7 : Int64) (l9 : Int32) (l10 : Int32) (l11 : Int32) (s0 : Int32) (u0 : Int64) (asgt : Nat → Int64), (l2 = l2_ ∧ 0 ≤ l9.toInt ∧ l9.toInt ≤ 6) → (100 + (6 - l9.toInt).toNat) < N → ∀ n : Nat, 8 * ((100 + (6 - l9.toInt).toNat) + 1) ≤ n → Tot (L_m_sees K n 1 l1 l2 j3 j5 j7 l9 l10 l11 s0 u0 icame_ alev_ acel_ atap_ atpl_ asgt) (fun r => True)) ∧ (∀ (l1 : Int32) (l2 : Int32) (j3 : Int64) (j5 : Int64) (j7 : Int64) (l9 : Int32) (l10 : Int32) (l11 : Int32) (s0 : Int32) (u0 : Int64) (asgt : Nat → Int64), (l2 = l2_ ∧ 0 ≤ l10.toInt ∧ l10.toInt ≤ 20 ∧ l9.toInt ≤ 20) → (20 - l10.toInt).toNat < N → ∀ n : Nat, 8 * ((20 - l10.toInt).toNat + 1) ≤ n → Tot (L_m_sees K n 3 l1 l2 j3 j5 j7 l9 l10 l11 s0 u0 icame_ alev_ acel_ atap_ atpl_ asgt) (fun r => True)) := by
    intro N
    induction N with
    | zero => exact ⟨fun _ _ _ _ _ _ _ _ _ _ _ _ hm => absurd hm (Nat.not_lt_zero _), fun _ _ _ _ _ _ _ _ _ _ _ _ hm => absurd hm (Nat.not_lt_zero _)⟩
    | succ N ih =>
      obtain ⟨ih1, ih3⟩ := ih
      refine ⟨?_, ?_⟩
      · intro l1 l2 j3 j5 j7 l9 l10 l11 s0 u0 asgt hI hm n hn
        obtain ⟨n, rfl⟩ : ∃ n9, n = n9 + 8 := ⟨n - 8, by omega⟩
        rw [L_m_sees_e1]; unfold B_m_sees_1; try simp only [subOne]
        repeat' (first | with_reducible refine Tot.ret ?_ | with_reducible refine Tot.ix ?_ ?_ | with_reducible refine Tot.yesB (by decide) ?_ | with_reducible refine Tot.noB (by decide) ?_ | with_reducible refine Tot.yes ?_ ?_ | with_reducible refine Tot.br (fun _ => ?_) (fun _ => ?_) | with_reducible refine Tot.bd (T_m_least K hK _ _ ?_) (fun _ _ => ?_) | with_reducible refine Tot.bd (T_m_isWithin K hK _ _ ?_) (fun _ _ => ?_) | with_reducible refine ih1 _ _ _ _ _ _ _ _ _ _ _ ?_ ?_ _ ?_ | with_reducible refine ih3 _ _ _ _ _ _ _ _ _ _ _ ?_ ?_ _ ?_ | (rw [L_m_sees_e0]; unfold B_m_sees_0; try simp only [subOne]) | (rw [L_m_sees_e2]; unfold B_m_sees_2; try simp only [subOne]) | (rw [L_m_sees_e4]; unfold B_m_sees_4; try simp only [subOne]) | (rw [L_m_sees_e5]; unfold B_m_sees_5; try simp only [subOne]) | (rw [L_m_sees_e6]; unfold B_m_sees_6; try simp only [subOne]) | (rw [L_m_sees_e7]; unfold B_m_sees_7; try simp only [subOne]))
        all_goals clear ih1 ih3
        all_goals (first | exact True.intro | omega | (((try simp only [ne_eq, true_and, and_true, true_or, or_true, false_or, or_false, not_true_eq_false, not_false_eq_true, false_and, and_false, Int32.lt_iff_toInt_lt, Int32.le_iff_toInt_le, ← Int32.toInt_inj, Int32.toInt_add, Int32.toInt_sub, Int32.toInt_mul, Int32.reduceToInt, ge_iff_le, gt_iff_lt, upd_eq, upd_upd] at *) <;> (try simp (disch := omega) only [bmI] at *)) <;> (first | omega | ((try simp only [Int.bmod] at *) <;> omega) | simp_all)))
      · intro l1 l2 j3 j5 j7 l9 l10 l11 s0 u0 asgt hI hm n hn
        obtain ⟨n, rfl⟩ : ∃ n9, n = n9 + 8 := ⟨n - 8, by omega⟩
        rw [L_m_sees_e3]; unfold B_m_sees_3; try simp only [subOne]
        repeat' (first | with_reducible refine Tot.ret ?_ | with_reducible refine Tot.ix ?_ ?_ | with_reducible refine Tot.yesB (by decide) ?_ | with_reducible refine Tot.noB (by decide) ?_ | with_reducible refine Tot.yes ?_ ?_ | with_reducible refine Tot.br (fun _ => ?_) (fun _ => ?_) | with_reducible refine Tot.bd (T_m_least K hK _ _ ?_) (fun _ _ => ?_) | with_reducible refine Tot.bd (T_m_isWithin K hK _ _ ?_) (fun _ _ => ?_) | with_reducible refine ih1 _ _ _ _ _ _ _ _ _ _ _ ?_ ?_ _ ?_ | with_reducible refine ih3 _ _ _ _ _ _ _ _ _ _ _ ?_ ?_ _ ?_ | (rw [L_m_sees_e0]; unfold B_m_sees_0; try simp only [subOne]) | (rw [L_m_sees_e2]; unfold B_m_sees_2; try simp only [subOne]) | (rw [L_m_sees_e4]; unfold B_m_sees_4; try simp only [subOne]) | (rw [L_m_sees_e5]; unfold B_m_sees_5; try simp only [subOne]) | (rw [L_m_sees_e6]; unfold B_m_sees_6; try simp only [subOne]) | (rw [L_m_sees_e7]; unfold B_m_sees_7; try simp only [subOne]))
        all_goals clear ih1 ih3
        all_goals (first | exact True.intro | omega | (((try simp only [ne_eq, true_and, and_true, true_or, or_true, false_or, or_false, not_true_eq_false, not_false_eq_true, false_and, and_false, Int32.lt_iff_toInt_lt, Int32.le_iff_toInt_le, ← Int32.toInt_inj, Int32.toInt_add, Int32.toInt_sub, Int32.toInt_mul, Int32.reduceToInt, ge_iff_le, gt_iff_lt, upd_eq, upd_upd] at *) <;> (try simp (disch := omega) only [bmI] at *)) <;> (first | omega | ((try simp only [Int.bmod] at *) <;> omega) | simp_all)))
  have hk1 : ∀ (l1 : Int32) (l2 : Int32) (j3 : Int64) (j5 : Int64) (j7 : Int64) (l9 : Int32) (l10 : Int32) (l11 : Int32) (s0 : Int32) (u0 : Int64) (asgt : Nat → Int64), (l2 = l2_ ∧ 0 ≤ l9.toInt ∧ l9.toInt ≤ 6) → ∀ n : Nat, 8 * ((100 + (6 - l9.toInt).toNat) + 1) ≤ n → Tot (L_m_sees K n 1 l1 l2 j3 j5 j7 l9 l10 l11 s0 u0 icame_ alev_ acel_ atap_ atpl_ asgt) (fun r => True) := fun l1 l2 j3 j5 j7 l9 l10 l11 s0 u0 asgt hI n hn => (key ((100 + (6 - l9.toInt).toNat) + 1)).1 l1 l2 j3 j5 j7 l9 l10 l11 s0 u0 asgt hI (Nat.lt_succ_self _) n hn
  have hk3 : ∀ (l1 : Int32) (l2 : Int32) (j3 : Int64) (j5 : Int64) (j7 : Int64) (l9 : Int32) (l10 : Int32) (l11 : Int32) (s0 : Int32) (u0 : Int64) (asgt : Nat → Int64), (l2 = l2_ ∧ 0 ≤ l10.toInt ∧ l10.toInt ≤ 20 ∧ l9.toInt ≤ 20) → ∀ n : Nat, 8 * ((20 - l10.toInt).toNat + 1) ≤ n → Tot (L_m_sees K n 3 l1 l2 j3 j5 j7 l9 l10 l11 s0 u0 icame_ alev_ acel_ atap_ atpl_ asgt) (fun r => True) := fun l1 l2 j3 j5 j7 l9 l10 l11 s0 u0 asgt hI n hn => (key ((20 - l10.toInt).toNat + 1)).2 l1 l2 j3 j5 j7 l9 l10 l11 s0 u0 asgt hI (Nat.lt_succ_self _) n hn
  clear key
  unfold F_m_sees
  obtain ⟨n, hn⟩ : ∃ n9, K = n9 + 8 := ⟨K - 8, by omega⟩
  have hn2 : 999999000 ≤ n := by omega
  suffices hs : Tot (L_m_sees K (n + 8) 0 l1_ l2_ 0 0 0 0 0 0 0 0 icame_ alev_ acel_ atap_ atpl_ asgt_) (fun r => True) from by rw [← hn] at hs; exact hs
  rw [L_m_sees_e0]; unfold B_m_sees_0
  repeat' (first | with_reducible refine Tot.ret ?_ | with_reducible refine Tot.ix ?_ ?_ | with_reducible refine Tot.yesB (by decide) ?_ | with_reducible refine Tot.noB (by decide) ?_ | with_reducible refine Tot.yes ?_ ?_ | with_reducible refine Tot.br (fun _ => ?_) (fun _ => ?_) | with_reducible refine Tot.bd (T_m_least K hK _ _ ?_) (fun _ _ => ?_) | with_reducible refine Tot.bd (T_m_isWithin K hK _ _ ?_) (fun _ _ => ?_) | with_reducible refine hk1 _ _ _ _ _ _ _ _ _ _ _ ?_ _ ?_ | with_reducible refine hk3 _ _ _ _ _ _ _ _ _ _ _ ?_ _ ?_ | (rw [L_m_sees_e0]; unfold B_m_sees_0; try simp only [subOne]) | (rw [L_m_sees_e2]; unfold B_m_sees_2; try simp only [subOne]) | (rw [L_m_sees_e4]; unfold B_m_sees_4; try simp only [subOne]) | (rw [L_m_sees_e5]; unfold B_m_sees_5; try simp only [subOne]) | (rw [L_m_sees_e6]; unfold B_m_sees_6; try simp only [subOne]) | (rw [L_m_sees_e7]; unfold B_m_sees_7; try simp only [subOne]))
  all_goals clear hk1 hk3
  all_goals (first | exact True.intro | omega | (((try simp only [ne_eq, true_and, and_true, true_or, or_true, false_or, or_false, not_true_eq_false, not_false_eq_true, false_and, and_false, Int32.lt_iff_toInt_lt, Int32.le_iff_toInt_le, ← Int32.toInt_inj, Int32.toInt_add, Int32.toInt_sub, Int32.toInt_mul, Int32.reduceToInt, ge_iff_le, gt_iff_lt, upd_eq, upd_upd] at *) <;> (try simp (disch := omega) only [bmI] at *)) <;> (first | omega | ((try simp only [Int.bmod] at *) <;> omega) | simp_all)))
set_option maxHeartbeats 400000 in
set_option maxRecDepth 100000 in
theorem T_m_isLike (K : Nat) (hK : 1000000000 ≤ K) (l1_ : Int32) (l2_ : Int32) (asen_ : Nat → Int64) (hpre : 0 ≤ l1_.toInt ∧ l1_.toInt < 4096 ∧ 0 ≤ l2_.toInt ∧ l2_.toInt < 4096) : Tot (F_m_isLike K l1_ l2_ asen_) (fun r => r = 0 ∨ r = 1) := by
  have key : ∀ N : Nat, (∀ (l1 : Int32) (l2 : Int32) (l3 : Int32) (l4 : Int32) (s0 : Int32), (l1 = l1_ ∧ l2 = l2_ ∧ 0 ≤ l4.toInt ∧ l4.toInt ≤ 6 ∧ (l3 = 0 ∨ l3 = 1)) → (6 - l4.toInt).toNat < N → ∀ n : Nat, 8 * ((6 - l4.toInt).toNat + 1) ≤ n → Tot (L_m_isLike K n 1 l1 l2 l3 l4 s0 asen_) (fun r => r = 0 ∨ r = 1)) := by
    intro N
    induction N with
    | zero => exact fun _ _ _ _ _ _ hm => absurd hm (Nat.not_lt_zero _)
    | succ N ih =>
      have ih1 := ih; clear ih
      · intro l1 l2 l3 l4 s0 hI hm n hn
        obtain ⟨n, rfl⟩ : ∃ n9, n = n9 + 8 := ⟨n - 8, by omega⟩
        rw [L_m_isLike_e1]; unfold B_m_isLike_1; try simp only [subOne]
        repeat' (first | with_reducible refine Tot.ret ?_ | with_reducible refine Tot.ix ?_ ?_ | with_reducible refine Tot.yesB (by decide) ?_ | with_reducible refine Tot.noB (by decide) ?_ | with_reducible refine Tot.yes ?_ ?_ | with_reducible refine Tot.br (fun _ => ?_) (fun _ => ?_) | with_reducible refine ih1 _ _ _ _ _ ?_ ?_ _ ?_ | (rw [L_m_isLike_e0]; unfold B_m_isLike_0; try simp only [subOne]) | (rw [L_m_isLike_e2]; unfold B_m_isLike_2; try simp only [subOne]) | (rw [L_m_isLike_e3]; unfold B_m_isLike_3; try simp only [subOne]))
        all_goals clear ih1
        all_goals (first | exact True.intro | omega | (((try simp only [ne_eq, true_and, and_true, true_or, or_true, false_or, or_false, not_true_eq_false, not_false_eq_true, false_and, and_false, Int32.lt_iff_toInt_lt, Int32.le_iff_toInt_le, ← Int32.toInt_inj, Int32.toInt_add, Int32.toInt_sub, Int32.toInt_mul, Int32.reduceToInt, ge_iff_le, gt_iff_lt, upd_eq, upd_upd] at *) <;> (try simp (disch := omega) only [bmI] at *)) <;> (first | omega | ((try simp only [Int.bmod] at *) <;> omega) | simp_all)))
  have hk1 : ∀ (l1 : Int32) (l2 : Int32) (l3 : Int32) (l4 : Int32) (s0 : Int32), (l1 = l1_ ∧ l2 = l2_ ∧ 0 ≤ l4.toInt ∧ l4.toInt ≤ 6 ∧ (l3 = 0 ∨ l3 = 1)) → ∀ n : Nat, 8 * ((6 - l4.toInt).toNat + 1) ≤ n → Tot (L_m_isLike K n 1 l1 l2 l3 l4 s0 asen_) (fun r => r = 0 ∨ r = 1) := fun l1 l2 l3 l4 s0 hI n hn => (key ((6 - l4.toInt).toNat + 1)) l1 l2 l3 l4 s0 hI (Nat.lt_succ_self _) n hn
  clear key
  unfold F_m_isLike
  obtain ⟨n, hn⟩ : ∃ n9, K = n9 + 8 := ⟨K - 8, by omega⟩
  have hn2 : 999999000 ≤ n := by omega
  suffices hs : Tot (L_m_isLike K (n + 8) 0 l1_ l2_ 0 0 0 asen_) (fun r => r = 0 ∨ r = 1) from by rw [← hn] at hs; exact hs
  rw [L_m_isLike_e0]; unfold B_m_isLike_0
  repeat' (first | with_reducible refine Tot.ret ?_ | with_reducible refine Tot.ix ?_ ?_ | with_reducible refine Tot.yesB (by decide) ?_ | with_reducible refine Tot.noB (by decide) ?_ | with_reducible refine Tot.yes ?_ ?_ | with_reducible refine Tot.br (fun _ => ?_) (fun _ => ?_) | with_reducible refine hk1 _ _ _ _ _ ?_ _ ?_ | (rw [L_m_isLike_e0]; unfold B_m_isLike_0; try simp only [subOne]) | (rw [L_m_isLike_e2]; unfold B_m_isLike_2; try simp only [subOne]) | (rw [L_m_isLike_e3]; unfold B_m_isLike_3; try simp only [subOne]))
  all_goals clear hk1
  all_goals (first | exact True.intro | omega | (((try simp only [ne_eq, true_and, and_true, true_or, or_true, false_or, or_false, not_true_eq_false, not_false_eq_true, false_and, and_false, Int32.lt_iff_toInt_lt, Int32.le_iff_toInt_le, ← Int32.toInt_inj, Int32.toInt_add, Int32.toInt_sub, Int32.toInt_mul, Int32.reduceToInt, ge_iff_le, gt_iff_lt, upd_eq, upd_upd] at *) <;> (try simp (disch := omega) only [bmI] at *)) <;> (first | omega | ((try simp only [Int.bmod] at *) <;> omega) | simp_all)))
set_option maxHeartbeats 400000 in
set_option maxRecDepth 100000 in
theorem T_m_clears (K : Nat) (hK : 1000000000 ≤ K) (l1_ : Int32) (isecrets_ : Int32) (iheaps_ : Int32) (abgn_ : Nat → Int32) (asgt_ : Nat → Int64) (hpre : 1 ≤ l1_.toInt ∧ l1_.toInt ≤ 4096) : Tot (F_m_clears K l1_ isecrets_ iheaps_ abgn_ asgt_) (fun r => r.1 = l1_ ∧ r.2.1 = 0 ∧ ∀ k : Nat, (k : Int) < 2 * l1_.toInt → r.2.2.1 k = -9) := by
  have key : ∀ N : Nat, (∀ (l1 : Int32) (l2 : Int32) (isecrets : Int32) (iheaps : Int32) (abgn : Nat → Int32) (asgt : Nat → Int64), (l1 = l1_ ∧ isecrets = l1_ ∧ iheaps = 0 ∧ 0 ≤ l2.toInt ∧ l2.toInt ≤ 2 * l1_.toInt ∧ ∀ k : Nat, (k : Int) < l2.toInt → abgn k = -9) → (100 + (8192 - l2.toInt).toNat) < N → ∀ n : Nat, 8 * ((100 + (8192 - l2.toInt).toNat) + 1) ≤ n → Tot (L_m_clears K n 1 l1 l2 isecrets iheaps abgn asgt) (fun r => r.1 = l1_ ∧ r.2.1 = 0 ∧ ∀ k : Nat, (k : Int) < 2 * l1_.toInt → r.2.2.1 k = -9)) ∧ (∀ (l1 : Int32) (l2 : Int32) (isecrets : Int32) (iheaps : Int32) (abgn : Nat → Int32) (asgt : Nat → Int64), (isecrets = l1_ ∧ iheaps = 0 ∧ 0 ≤ l2.toInt ∧ l2.toInt ≤ 6 ∧ ∀ k : Nat, (k : Int) < 2 * l1_.toInt → abgn k = -9) → (6 - l2.toInt).toNat < N → ∀ n : Nat, 8 * ((6 - l2.toInt).toNat + 1) ≤ n → Tot (L_m_clears K n 2 l1 l2 isecrets iheaps abgn asgt) (fun r => r.1 = l1_ ∧ r.2.1 = 0 ∧ ∀ k : Nat, (k : Int) < 2 * l1_.toInt → r.2.2.1 k = -9)) := by
    intro N
    induction N with
    | zero => exact ⟨fun _ _ _ _ _ _ _ hm => absurd hm (Nat.not_lt_zero _), fun _ _ _ _ _ _ _ hm => absurd hm (Nat.not_lt_zero _)⟩
    | succ N ih =>
      obtain ⟨ih1, ih2⟩ := ih
      refine ⟨?_, ?_⟩
      · intro l1 l2 isecrets iheaps abgn asgt hI hm n hn
        obtain ⟨n, rfl⟩ : ∃ n9, n = n9 + 8 := ⟨n - 8, by omega⟩
        obtain ⟨rfl, rfl, rfl, h0, h1, hb⟩ := hI
        have cl := clampI h0
        rw [L_m_clears_e1]; unfold B_m_clears_1; try simp only [subOne]
        repeat' (first | with_reducible refine Tot.ret ?_ | with_reducible refine Tot.ix ?_ ?_ | with_reducible refine Tot.yesB (by decide) ?_ | with_reducible refine Tot.noB (by decide) ?_ | with_reducible refine Tot.yes ?_ ?_ | with_reducible refine Tot.br (fun _ => ?_) (fun _ => ?_) | with_reducible refine ih1 _ _ _ _ _ _ ?_ ?_ _ ?_ | with_reducible refine ih2 _ _ _ _ _ _ ?_ ?_ _ ?_ | (rw [L_m_clears_e0]; unfold B_m_clears_0; try simp only [subOne]))
        all_goals clear ih1 ih2
        all_goals (first | exact ⟨rfl, rfl, by decide, by decide, fun k hk => hb k (by (first | exact True.intro | omega | (((try simp only [ne_eq, true_and, and_true, true_or, or_true, false_or, or_false, not_true_eq_false, not_false_eq_true, false_and, and_false, Int32.lt_iff_toInt_lt, Int32.le_iff_toInt_le, ← Int32.toInt_inj, Int32.toInt_add, Int32.toInt_sub, Int32.toInt_mul, Int32.reduceToInt, ge_iff_le, gt_iff_lt, upd_eq, upd_upd] at *) <;> (try simp (disch := omega) only [bmI] at *)) <;> (first | omega | ((try simp only [Int.bmod] at *) <;> omega) | simp_all))))⟩ | exact ⟨rfl, rfl, rfl, by (first | exact True.intro | omega | (((try simp only [ne_eq, true_and, and_true, true_or, or_true, false_or, or_false, not_true_eq_false, not_false_eq_true, false_and, and_false, Int32.lt_iff_toInt_lt, Int32.le_iff_toInt_le, ← Int32.toInt_inj, Int32.toInt_add, Int32.toInt_sub, Int32.toInt_mul, Int32.reduceToInt, ge_iff_le, gt_iff_lt, upd_eq, upd_upd] at *) <;> (try simp (disch := omega) only [bmI] at *)) <;> (first | omega | ((try simp only [Int.bmod] at *) <;> omega) | simp_all))), by (first | exact True.intro | omega | (((try simp only [ne_eq, true_and, and_true, true_or, or_true, false_or, or_false, not_true_eq_false, not_false_eq_true, false_and, and_false, Int32.lt_iff_toInt_lt, Int32.le_iff_toInt_le, ← Int32.toInt_inj, Int32.toInt_add, Int32.toInt_sub, Int32.toInt_mul, Int32.reduceToInt, ge_iff_le, gt_iff_lt, upd_eq, upd_upd] at *) <;> (try simp (disch := omega) only [bmI] at *)) <;> (first | omega | ((try simp only [Int.bmod] at *) <;> omega) | simp_all))), fun k hk => by (by_cases z : k = l2.toNatClampNeg; (rw [z]; exact upd_eq _ _ _); (rw [upd_ne _ _ z]; exact hb k (by (first | exact True.intro | omega | (((try simp only [ne_eq, true_and, and_true, true_or, or_true, false_or, or_false, not_true_eq_false, not_false_eq_true, false_and, and_false, Int32.lt_iff_toInt_lt, Int32.le_iff_toInt_le, ← Int32.toInt_inj, Int32.toInt_add, Int32.toInt_sub, Int32.toInt_mul, Int32.reduceToInt, ge_iff_le, gt_iff_lt, upd_eq, upd_upd] at *) <;> (try simp (disch := omega) only [bmI] at *)) <;> (first | omega | ((try simp only [Int.bmod] at *) <;> omega) | simp_all))))))⟩ | (first | exact True.intro | omega | (((try simp only [ne_eq, true_and, and_true, true_or, or_true, false_or, or_false, not_true_eq_false, not_false_eq_true, false_and, and_false, Int32.lt_iff_toInt_lt, Int32.le_iff_toInt_le, ← Int32.toInt_inj, Int32.toInt_add, Int32.toInt_sub, Int32.toInt_mul, Int32.reduceToInt, ge_iff_le, gt_iff_lt, upd_eq, upd_upd] at *) <;> (try simp (disch := omega) only [bmI] at *)) <;> (first | omega | ((try simp only [Int.bmod] at *) <;> omega) | simp_all))))
      · intro l1 l2 isecrets iheaps abgn asgt hI hm n hn
        obtain ⟨n, rfl⟩ : ∃ n9, n = n9 + 8 := ⟨n - 8, by omega⟩
        obtain ⟨rfl, rfl, h0, h1, hb⟩ := hI
        rw [L_m_clears_e2]; unfold B_m_clears_2; try simp only [subOne]
        repeat' (first | with_reducible refine Tot.ret ?_ | with_reducible refine Tot.ix ?_ ?_ | with_reducible refine Tot.yesB (by decide) ?_ | with_reducible refine Tot.noB (by decide) ?_ | with_reducible refine Tot.yes ?_ ?_ | with_reducible refine Tot.br (fun _ => ?_) (fun _ => ?_) | with_reducible refine ih1 _ _ _ _ _ _ ?_ ?_ _ ?_ | with_reducible refine ih2 _ _ _ _ _ _ ?_ ?_ _ ?_ | (rw [L_m_clears_e0]; unfold B_m_clears_0; try simp only [subOne]))
        all_goals clear ih1 ih2
        all_goals (first | exact ⟨rfl, rfl, hb⟩ | exact ⟨rfl, rfl, by (first | exact True.intro | omega | (((try simp only [ne_eq, true_and, and_true, true_or, or_true, false_or, or_false, not_true_eq_false, not_false_eq_true, false_and, and_false, Int32.lt_iff_toInt_lt, Int32.le_iff_toInt_le, ← Int32.toInt_inj, Int32.toInt_add, Int32.toInt_sub, Int32.toInt_mul, Int32.reduceToInt, ge_iff_le, gt_iff_lt, upd_eq, upd_upd] at *) <;> (try simp (disch := omega) only [bmI] at *)) <;> (first | omega | ((try simp only [Int.bmod] at *) <;> omega) | simp_all))), by (first | exact True.intro | omega | (((try simp only [ne_eq, true_and, and_true, true_or, or_true, false_or, or_false, not_true_eq_false, not_false_eq_true, false_and, and_false, Int32.lt_iff_toInt_lt, Int32.le_iff_toInt_le, ← Int32.toInt_inj, Int32.toInt_add, Int32.toInt_sub, Int32.toInt_mul, Int32.reduceToInt, ge_iff_le, gt_iff_lt, upd_eq, upd_upd] at *) <;> (try simp (disch := omega) only [bmI] at *)) <;> (first | omega | ((try simp only [Int.bmod] at *) <;> omega) | simp_all))), hb⟩ | (first | exact True.intro | omega | (((try simp only [ne_eq, true_and, and_true, true_or, or_true, false_or, or_false, not_true_eq_false, not_false_eq_true, false_and, and_false, Int32.lt_iff_toInt_lt, Int32.le_iff_toInt_le, ← Int32.toInt_inj, Int32.toInt_add, Int32.toInt_sub, Int32.toInt_mul, Int32.reduceToInt, ge_iff_le, gt_iff_lt, upd_eq, upd_upd] at *) <;> (try simp (disch := omega) only [bmI] at *)) <;> (first | omega | ((try simp only [Int.bmod] at *) <;> omega) | simp_all))))
  have hk1 : ∀ (l1 : Int32) (l2 : Int32) (isecrets : Int32) (iheaps : Int32) (abgn : Nat → Int32) (asgt : Nat → Int64), (l1 = l1_ ∧ isecrets = l1_ ∧ iheaps = 0 ∧ 0 ≤ l2.toInt ∧ l2.toInt ≤ 2 * l1_.toInt ∧ ∀ k : Nat, (k : Int) < l2.toInt → abgn k = -9) → ∀ n : Nat, 8 * ((100 + (8192 - l2.toInt).toNat) + 1) ≤ n → Tot (L_m_clears K n 1 l1 l2 isecrets iheaps abgn asgt) (fun r => r.1 = l1_ ∧ r.2.1 = 0 ∧ ∀ k : Nat, (k : Int) < 2 * l1_.toInt → r.2.2.1 k = -9) := fun l1 l2 isecrets iheaps abgn asgt hI n hn => (key ((100 + (8192 - l2.toInt).toNat) + 1)).1 l1 l2 isecrets iheaps abgn asgt hI (Nat.lt_succ_self _) n hn
  have hk2 : ∀ (l1 : Int32) (l2 : Int32) (isecrets : Int32) (iheaps : Int32) (abgn : Nat → Int32) (asgt : Nat → Int64), (isecrets = l1_ ∧ iheaps = 0 ∧ 0 ≤ l2.toInt ∧ l2.toInt ≤ 6 ∧ ∀ k : Nat, (k : Int) < 2 * l1_.toInt → abgn k = -9) → ∀ n : Nat, 8 * ((6 - l2.toInt).toNat + 1) ≤ n → Tot (L_m_clears K n 2 l1 l2 isecrets iheaps abgn asgt) (fun r => r.1 = l1_ ∧ r.2.1 = 0 ∧ ∀ k : Nat, (k : Int) < 2 * l1_.toInt → r.2.2.1 k = -9) := fun l1 l2 isecrets iheaps abgn asgt hI n hn => (key ((6 - l2.toInt).toNat + 1)).2 l1 l2 isecrets iheaps abgn asgt hI (Nat.lt_succ_self _) n hn
  clear key
  unfold F_m_clears
  obtain ⟨n, hn⟩ : ∃ n9, K = n9 + 8 := ⟨K - 8, by omega⟩
  have hn2 : 999999000 ≤ n := by omega
  suffices hs : Tot (L_m_clears K (n + 8) 0 l1_ 0 isecrets_ iheaps_ abgn_ asgt_) (fun r => r.1 = l1_ ∧ r.2.1 = 0 ∧ ∀ k : Nat, (k : Int) < 2 * l1_.toInt → r.2.2.1 k = -9) from by rw [← hn] at hs; exact hs
  rw [L_m_clears_e0]; unfold B_m_clears_0
  repeat' (first | with_reducible refine Tot.ret ?_ | with_reducible refine Tot.ix ?_ ?_ | with_reducible refine Tot.yesB (by decide) ?_ | with_reducible refine Tot.noB (by decide) ?_ | with_reducible refine Tot.yes ?_ ?_ | with_reducible refine Tot.br (fun _ => ?_) (fun _ => ?_) | with_reducible refine hk1 _ _ _ _ _ _ ?_ _ ?_ | with_reducible refine hk2 _ _ _ _ _ _ ?_ _ ?_ | (rw [L_m_clears_e0]; unfold B_m_clears_0; try simp only [subOne]))
  all_goals clear hk1 hk2
  all_goals (first | exact ⟨rfl, rfl, rfl, by decide, by (first | exact True.intro | omega | (((try simp only [ne_eq, true_and, and_true, true_or, or_true, false_or, or_false, not_true_eq_false, not_false_eq_true, false_and, and_false, Int32.lt_iff_toInt_lt, Int32.le_iff_toInt_le, ← Int32.toInt_inj, Int32.toInt_add, Int32.toInt_sub, Int32.toInt_mul, Int32.reduceToInt, ge_iff_le, gt_iff_lt, upd_eq, upd_upd] at *) <;> (try simp (disch := omega) only [bmI] at *)) <;> (first | omega | ((try simp only [Int.bmod] at *) <;> omega) | simp_all))), fun k hk => absurd hk (by simp only [Int32.reduceToInt]; omega)⟩ | (first | exact True.intro | omega | (((try simp only [ne_eq, true_and, and_true, true_or, or_true, false_or, or_false, not_true_eq_false, not_false_eq_true, false_and, and_false, Int32.lt_iff_toInt_lt, Int32.le_iff_toInt_le, ← Int32.toInt_inj, Int32.toInt_add, Int32.toInt_sub, Int32.toInt_mul, Int32.reduceToInt, ge_iff_le, gt_iff_lt, upd_eq, upd_upd] at *) <;> (try simp (disch := omega) only [bmI] at *)) <;> (first | omega | ((try simp only [Int.bmod] at *) <;> omega) | simp_all))))
set_option maxHeartbeats 4000000 in
set_option maxRecDepth 100000 in
theorem T_m_takes (K : Nat) (hK : 1000000000 ≤ K) (l1_ : Int32) (isecrets_ : Int32) (iheaps_ : Int32) (asen_ : Nat → Int64) (ahpo_ : Nat → Int32) (ahpm_ : Nat → Int32) (abgn_ : Nat → Int32) (achn_ : Nat → Int32) (asgt_ : Nat → Int64) (hpre : (0 ≤ l1_.toInt ∧ l1_.toInt < isecrets_.toInt ∧ isecrets_.toInt ≤ 4096) ∧ HIv l1_ isecrets_ iheaps_ ahpo_ abgn_ achn_) : Tot (F_m_takes K l1_ isecrets_ iheaps_ asen_ ahpo_ ahpm_ abgn_ achn_ asgt_) (fun r => HIv (l1_ + 1) isecrets_ r.1 r.2.2.1 r.2.2.2.2.1 r.2.2.2.2.2) := by
  obtain ⟨hA, hH⟩ := hpre
  have key : ∀ N : Nat, (∀ (l1 : Int32) (j2 : Int64) (l4 : Int32) (l5 : Int32) (iheaps : Int32) (asen : Nat → Int64) (ahpo : Nat → Int32) (ahpm : Nat → Int32) (abgn : Nat → Int32) (achn : Nat → Int32), (iheaps = iheaps_ ∧ ahpo = ahpo_ ∧ abgn = abgn_ ∧ achn = achn_ ∧ l1 = l1_ ∧ 0 ≤ l4.toInt ∧ l4.toInt ≤ 6) → (10000 + (6 - l4.toInt).toNat) < N → ∀ n : Nat, 8 * ((10000 + (6 - l4.toInt).toNat) + 1) ≤ n → Tot (L_m_takes K n 1 l1 j2 l4 l5 isecrets_ iheaps asen ahpo ahpm abgn achn asgt_) (fun r => HIv (l1_ + 1) isecrets_ r.1 r.2.2.1 r.2.2.2.2.1 r.2.2.2.2.2)) ∧ (∀ (l1 : Int32) (j2 : Int64) (l4 : Int32) (l5 : Int32) (iheaps : Int32) (asen : Nat → Int64) (ahpo : Nat → Int32) (ahpm : Nat → Int32) (abgn : Nat → Int32) (achn : Nat → Int32), (iheaps = iheaps_ ∧ ahpo = ahpo_ ∧ abgn = abgn_ ∧ achn = achn_ ∧ l1 = l1_ ∧ 0 ≤ l4.toInt ∧ l4.toInt < 2 * isecrets_.toInt ∧ HLk l1_ l5 ahpo) → (l5.toInt + 10).toNat < N → ∀ n : Nat, 8 * ((l5.toInt + 10).toNat + 1) ≤ n → Tot (L_m_takes K n 2 l1 j2 l4 l5 isecrets_ iheaps asen ahpo ahpm abgn achn asgt_) (fun r => HIv (l1_ + 1) isecrets_ r.1 r.2.2.1 r.2.2.2.2.1 r.2.2.2.2.2)) := by
    intro N
    induction N with
    | zero => exact ⟨fun _ _ _ _ _ _ _ _ _ _ _ hm => absurd hm (Nat.not_lt_zero _), fun _ _ _ _ _ _ _ _ _ _ _ hm => absurd hm (Nat.not_lt_zero _)⟩
    | succ N ih =>
      obtain ⟨ih1, ih2⟩ := ih
      refine ⟨?_, ?_⟩
      · intro l1 j2 l4 l5 iheaps asen ahpo ahpm abgn achn hI hm n hn
        obtain ⟨n, rfl⟩ : ∃ n9, n = n9 + 8 := ⟨n - 8, by omega⟩
        obtain ⟨rfl, rfl, rfl, rfl, rfl, h0, h1⟩ := hI
        have hm1 := maskB (j2 ^^^ ((j2).toUInt64 >>> ((31 : Int32).toInt64.toUInt64 &&& Int64.toUInt64 63)).toInt64) (sc := isecrets_) (by omega) (by omega)
        have hb1 := hH.bg hm1.1 hm1.2
        have hb2 := hb1.r
        rw [L_m_takes_e1]; unfold B_m_takes_1; try simp only [subOne]
        repeat' (first | with_reducible refine Tot.ret ?_ | with_reducible refine Tot.ix ?_ ?_ | with_reducible refine Tot.yesB (by decide) ?_ | with_reducible refine Tot.noB (by decide) ?_ | with_reducible refine Tot.yes ?_ ?_ | with_reducible refine Tot.br (fun _ => ?_) (fun _ => ?_) | with_reducible refine Tot.bd (T_m_isLike K hK _ _ _ ?_) (fun _ _ => ?_) | with_reducible refine ih1 _ _ _ _ _ _ _ _ _ _ ?_ ?_ _ ?_ | with_reducible refine ih2 _ _ _ _ _ _ _ _ _ _ ?_ ?_ _ ?_ | (rw [L_m_takes_e0]; unfold B_m_takes_0; try simp only [subOne]) | (rw [L_m_takes_e3]; unfold B_m_takes_3; try simp only [subOne]))
        all_goals clear ih1 ih2
        all_goals (first | exact ⟨hm1.1, by omega⟩ | exact ⟨rfl, rfl, rfl, rfl, rfl, hm1.1, hm1.2, hb1⟩ | omega | (first | exact True.intro | omega | (((try simp only [ne_eq, true_and, and_true, true_or, or_true, false_or, or_false, not_true_eq_false, not_false_eq_true, false_and, and_false, Int32.lt_iff_toInt_lt, Int32.le_iff_toInt_le, ← Int32.toInt_inj, Int32.toInt_add, Int32.toInt_sub, Int32.toInt_mul, Int32.reduceToInt, ge_iff_le, gt_iff_lt, upd_eq, upd_upd] at *) <;> (try simp (disch := omega) only [bmI] at *)) <;> (first | omega | ((try simp only [Int.bmod] at *) <;> omega) | simp_all))))
      · intro l1 j2 l4 l5 iheaps asen ahpo ahpm abgn achn hI hm n hn
        obtain ⟨n, rfl⟩ : ∃ n9, n = n9 + 8 := ⟨n - 8, by omega⟩
        obtain ⟨rfl, rfl, rfl, rfl, rfl, h0, h1, hL⟩ := hI
        have hLr := hL.r
        have hch := fun h => (hH.ch hL h).2
        rw [L_m_takes_e2]; unfold B_m_takes_2; try simp only [subOne]
        repeat' (first | with_reducible refine Tot.ret ?_ | with_reducible refine Tot.ix ?_ ?_ | with_reducible refine Tot.yesB (by decide) ?_ | with_reducible refine Tot.noB (by decide) ?_ | with_reducible refine Tot.yes ?_ ?_ | with_reducible refine Tot.br (fun _ => ?_) (fun _ => ?_) | with_reducible refine Tot.bd (T_m_isLike K hK _ _ _ ?_) (fun _ _ => ?_) | with_reducible refine ih1 _ _ _ _ _ _ _ _ _ _ ?_ ?_ _ ?_ | with_reducible refine ih2 _ _ _ _ _ _ _ _ _ _ ?_ ?_ _ ?_ | (rw [L_m_takes_e0]; unfold B_m_takes_0; try simp only [subOne]) | (rw [L_m_takes_e3]; unfold B_m_takes_3; try simp only [subOne]))
        all_goals clear ih1 ih2
        all_goals (first | exact hH.new (by omega) (by omega) (by omega) h0 h1 | exact hH.old (by omega) (by omega) (by omega) hL (by (first | exact True.intro | omega | (((try simp only [ne_eq, true_and, and_true, true_or, or_true, false_or, or_false, not_true_eq_false, not_false_eq_true, false_and, and_false, Int32.lt_iff_toInt_lt, Int32.le_iff_toInt_le, ← Int32.toInt_inj, Int32.toInt_add, Int32.toInt_sub, Int32.toInt_mul, Int32.reduceToInt, ge_iff_le, gt_iff_lt, upd_eq, upd_upd] at *) <;> (try simp (disch := omega) only [bmI] at *)) <;> (first | omega | ((try simp only [Int.bmod] at *) <;> omega) | simp_all)))) | exact ⟨rfl, rfl, rfl, rfl, rfl, h0, h1, (hH.ch hL (by (first | exact True.intro | omega | (((try simp only [ne_eq, true_and, and_true, true_or, or_true, false_or, or_false, not_true_eq_false, not_false_eq_true, false_and, and_false, Int32.lt_iff_toInt_lt, Int32.le_iff_toInt_le, ← Int32.toInt_inj, Int32.toInt_add, Int32.toInt_sub, Int32.toInt_mul, Int32.reduceToInt, ge_iff_le, gt_iff_lt, upd_eq, upd_upd] at *) <;> (try simp (disch := omega) only [bmI] at *)) <;> (first | omega | ((try simp only [Int.bmod] at *) <;> omega) | simp_all))))).1⟩ | (first | exact True.intro | omega | (((try simp only [ne_eq, true_and, and_true, true_or, or_true, false_or, or_false, not_true_eq_false, not_false_eq_true, false_and, and_false, Int32.lt_iff_toInt_lt, Int32.le_iff_toInt_le, ← Int32.toInt_inj, Int32.toInt_add, Int32.toInt_sub, Int32.toInt_mul, Int32.reduceToInt, ge_iff_le, gt_iff_lt, upd_eq, upd_upd] at *) <;> (try simp (disch := omega) only [bmI] at *)) <;> (first | omega | ((try simp only [Int.bmod] at *) <;> omega) | simp_all))))
  have hk1 : ∀ (l1 : Int32) (j2 : Int64) (l4 : Int32) (l5 : Int32) (iheaps : Int32) (asen : Nat → Int64) (ahpo : Nat → Int32) (ahpm : Nat → Int32) (abgn : Nat → Int32) (achn : Nat → Int32), (iheaps = iheaps_ ∧ ahpo = ahpo_ ∧ abgn = abgn_ ∧ achn = achn_ ∧ l1 = l1_ ∧ 0 ≤ l4.toInt ∧ l4.toInt ≤ 6) → ∀ n : Nat, 8 * ((10000 + (6 - l4.toInt).toNat) + 1) ≤ n → Tot (L_m_takes K n 1 l1 j2 l4 l5 isecrets_ iheaps asen ahpo ahpm abgn achn asgt_) (fun r => HIv (l1_ + 1) isecrets_ r.1 r.2.2.1 r.2.2.2.2.1 r.2.2.2.2.2) := fun l1 j2 l4 l5 iheaps asen ahpo ahpm abgn achn hI n hn => (key ((10000 + (6 - l4.toInt).toNat) + 1)).1 l1 j2 l4 l5 iheaps asen ahpo ahpm abgn achn hI (Nat.lt_succ_self _) n hn
  have hk2 : ∀ (l1 : Int32) (j2 : Int64) (l4 : Int32) (l5 : Int32) (iheaps : Int32) (asen : Nat → Int64) (ahpo : Nat → Int32) (ahpm : Nat → Int32) (abgn : Nat → Int32) (achn : Nat → Int32), (iheaps = iheaps_ ∧ ahpo = ahpo_ ∧ abgn = abgn_ ∧ achn = achn_ ∧ l1 = l1_ ∧ 0 ≤ l4.toInt ∧ l4.toInt < 2 * isecrets_.toInt ∧ HLk l1_ l5 ahpo) → ∀ n : Nat, 8 * ((l5.toInt + 10).toNat + 1) ≤ n → Tot (L_m_takes K n 2 l1 j2 l4 l5 isecrets_ iheaps asen ahpo ahpm abgn achn asgt_) (fun r => HIv (l1_ + 1) isecrets_ r.1 r.2.2.1 r.2.2.2.2.1 r.2.2.2.2.2) := fun l1 j2 l4 l5 iheaps asen ahpo ahpm abgn achn hI n hn => (key ((l5.toInt + 10).toNat + 1)).2 l1 j2 l4 l5 iheaps asen ahpo ahpm abgn achn hI (Nat.lt_succ_self _) n hn
  clear key
  unfold F_m_takes
  obtain ⟨n, hn⟩ : ∃ n9, K = n9 + 8 := ⟨K - 8, by omega⟩
  have hn2 : 999999000 ≤ n := by omega
  suffices hs : Tot (L_m_takes K (n + 8) 0 l1_ 0 0 0 isecrets_ iheaps_ asen_ ahpo_ ahpm_ abgn_ achn_ asgt_) (fun r => HIv (l1_ + 1) isecrets_ r.1 r.2.2.1 r.2.2.2.2.1 r.2.2.2.2.2) from by rw [← hn] at hs; exact hs
  rw [L_m_takes_e0]; unfold B_m_takes_0
  repeat' (first | with_reducible refine Tot.ret ?_ | with_reducible refine Tot.ix ?_ ?_ | with_reducible refine Tot.yesB (by decide) ?_ | with_reducible refine Tot.noB (by decide) ?_ | with_reducible refine Tot.yes ?_ ?_ | with_reducible refine Tot.br (fun _ => ?_) (fun _ => ?_) | with_reducible refine Tot.bd (T_m_isLike K hK _ _ _ ?_) (fun _ _ => ?_) | with_reducible refine hk1 _ _ _ _ _ _ _ _ _ _ ?_ _ ?_ | with_reducible refine hk2 _ _ _ _ _ _ _ _ _ _ ?_ _ ?_ | (rw [L_m_takes_e0]; unfold B_m_takes_0; try simp only [subOne]) | (rw [L_m_takes_e3]; unfold B_m_takes_3; try simp only [subOne]))
  all_goals clear hk1 hk2
  all_goals (first | exact True.intro | omega | (((try simp only [ne_eq, true_and, and_true, true_or, or_true, false_or, or_false, not_true_eq_false, not_false_eq_true, false_and, and_false, Int32.lt_iff_toInt_lt, Int32.le_iff_toInt_le, ← Int32.toInt_inj, Int32.toInt_add, Int32.toInt_sub, Int32.toInt_mul, Int32.reduceToInt, ge_iff_le, gt_iff_lt, upd_eq, upd_upd] at *) <;> (try simp (disch := omega) only [bmI] at *)) <;> (first | omega | ((try simp only [Int.bmod] at *) <;> omega) | simp_all)))
set_option maxHeartbeats 400000 in
set_option maxRecDepth 100000 in
theorem T_m_isAsked (K : Nat) (hK : 1000000000 ≤ K) (l1_ : Int32) (l2_ : Int32) (hpre : True) : Tot (F_m_isAsked K l1_ l2_) (fun r => r = 0 ∨ r = 1) := by
  unfold F_m_isAsked
  obtain ⟨n, hn⟩ : ∃ n9, K = n9 + 8 := ⟨K - 8, by omega⟩
  have hn2 : 999999000 ≤ n := by omega
  suffices hs : Tot (L_m_isAsked K (n + 8) 0 l1_ l2_) (fun r => r = 0 ∨ r = 1) from by rw [← hn] at hs; exact hs
  rw [L_m_isAsked_e0]; unfold B_m_isAsked_0
  repeat' (first | with_reducible refine Tot.ret ?_ | with_reducible refine Tot.ix ?_ ?_ | with_reducible refine Tot.yesB (by decide) ?_ | with_reducible refine Tot.noB (by decide) ?_ | with_reducible refine Tot.yes ?_ ?_ | with_reducible refine Tot.br (fun _ => ?_) (fun _ => ?_) | with_reducible refine Tot.bd (T_m_in K hK _ _ _ ?_) (fun _ _ => ?_) | (rw [L_m_isAsked_e0]; unfold B_m_isAsked_0; try simp only [subOne]) | (rw [L_m_isAsked_e1]; unfold B_m_isAsked_1; try simp only [subOne]))
  all_goals (first | exact True.intro | omega | (((try simp only [ne_eq, true_and, and_true, true_or, or_true, false_or, or_false, not_true_eq_false, not_false_eq_true, false_and, and_false, Int32.lt_iff_toInt_lt, Int32.le_iff_toInt_le, ← Int32.toInt_inj, Int32.toInt_add, Int32.toInt_sub, Int32.toInt_mul, Int32.reduceToInt, ge_iff_le, gt_iff_lt, upd_eq, upd_upd] at *) <;> (try simp (disch := omega) only [bmI] at *)) <;> (first | omega | ((try simp only [Int.bmod] at *) <;> omega) | simp_all)))
set_option maxHeartbeats 400000 in
set_option maxRecDepth 100000 in
theorem T_m_isOpen (K : Nat) (hK : 1000000000 ≤ K) (l1_ : Int32) (l2_ : Int32) (alev_ : Nat → Int32) (hpre : True) : Tot (F_m_isOpen K l1_ l2_ alev_) (fun r => r = 0 ∨ r = 1) := by
  unfold F_m_isOpen
  obtain ⟨n, hn⟩ : ∃ n9, K = n9 + 8 := ⟨K - 8, by omega⟩
  have hn2 : 999999000 ≤ n := by omega
  suffices hs : Tot (L_m_isOpen K (n + 8) 0 l1_ l2_ alev_) (fun r => r = 0 ∨ r = 1) from by rw [← hn] at hs; exact hs
  rw [L_m_isOpen_e0]; unfold B_m_isOpen_0
  repeat' (first | with_reducible refine Tot.ret ?_ | with_reducible refine Tot.ix ?_ ?_ | with_reducible refine Tot.yesB (by decide) ?_ | with_reducible refine Tot.noB (by decide) ?_ | with_reducible refine Tot.yes ?_ ?_ | with_reducible refine Tot.br (fun _ => ?_) (fun _ => ?_) | with_reducible refine Tot.bd (T_m_cells K hK _ _ _ ?_) (fun _ _ => ?_) | with_reducible refine Tot.bd (T_m_in K hK _ _ _ ?_) (fun _ _ => ?_) | (rw [L_m_isOpen_e0]; unfold B_m_isOpen_0; try simp only [subOne]))
  all_goals (first | exact True.intro | omega | (((try simp only [ne_eq, true_and, and_true, true_or, or_true, false_or, or_false, not_true_eq_false, not_false_eq_true, false_and, and_false, Int32.lt_iff_toInt_lt, Int32.le_iff_toInt_le, ← Int32.toInt_inj, Int32.toInt_add, Int32.toInt_sub, Int32.toInt_mul, Int32.reduceToInt, ge_iff_le, gt_iff_lt, upd_eq, upd_upd] at *) <;> (try simp (disch := omega) only [bmI] at *)) <;> (first | omega | ((try simp only [Int.bmod] at *) <;> omega) | simp_all)))
