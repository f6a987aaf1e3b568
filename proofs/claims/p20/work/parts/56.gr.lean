/-! p3: both read alike -/
theorem ofn_i (n : Nat) (h : n < 1000000) : (Int32.ofNat n).toInt = (n : Int) := Int32.toInt_ofNat_of_lt (by omega)
theorem ofn_of (x : Int32) (n : Nat) (hn : n < 1000000) (h : x.toInt = (n : Int)) : x = Int32.ofNat n := Int32.toInt_inj.mp (by rw [h, ofn_i n hn])
theorem first_bad (P : Nat → Prop) : ∀ m : Nat, (∀ j : Nat, j < m → P j) ∨ ∃ j0 : Nat, j0 < m ∧ ¬ P j0 ∧ ∀ j : Nat, j < j0 → P j := by
  intro m
  induction m with
  | zero => exact Or.inl (fun j h => by omega)
  | succ m ih =>
    rcases ih with h | ⟨j0, h1, h2, h3⟩
    · rcases Classical.em (P m) with hm | hm
      · refine Or.inl (fun j hj => ?_)
        by_cases h9 : j = m
        · rw [h9]; exact hm
        · exact h j (by omega)
      · exact Or.inr ⟨m, by omega, hm, h⟩
    · exact Or.inr ⟨j0, by omega, h2, h3⟩
theorem ChC.str {L E : Nat} {tx fk fv fp : Nat → Int32} {bd : Nat → Nat} (h : ChC L tx E fk fv fp bd) (hE : E ≤ 300) (h0 : fk E = 0) (h1 : fv E = 0) : STR2 E fk fv := by
  refine ⟨by omega, h0, fun j hj => ?_, fun j hj => ?_⟩
  · obtain ⟨s, _, h3, _⟩ := h.2.2 j hj
    exact h3.ok.1
  · by_cases hje : j = E
    · rw [hje, h1]; exact ⟨by decide, by decide, fun _ => by decide⟩
    · obtain ⟨s, _, h3, _⟩ := h.2.2 j (by omega)
      exact h3.ok.2.2.2.1
def RdP (ityped imany : Int32) (st0 sm0 fk fv : Nat → Int32) (r : R16) : Prop :=
  (r.2.2.1 = ityped ∧ (∀ x : TRt, ¬ Hl2 fk fv ([], fun _ => 0, fun _ => 0, [], 0) x) ∧ r.2.2.2.2.2.2.2.2.1 = imany ∧ (∀ p : Nat, p < 240 → r.2.2.2.2.2.2.2.2.2.2.2.1 p = st0 p) ∧ (∀ p : Nat, p < 300 → r.2.2.2.2.2.2.2.2.2.2.2.2.1 p = sm0 p)) ∨ (r.2.2.1 = 0 ∧ ∃ (D' : List SRc) (M' N' : Nat → Nat) (j' : Nat), Hl2 fk fv ([], fun _ => 0, fun _ => 0, [], 0) (D', M', N', j') ∧ (r.2.2.2.2.2.2.2.2.1).toInt = (D'.length : Int) ∧ D'.length ≤ 30 ∧ ∀ i : Nat, i < D'.length → FRow r.2.2.2.2.2.2.2.2.2.2.2.1 r.2.2.2.2.2.2.2.2.2.2.2.2.1 D' M' N' i)
theorem ref_same (K : Nat) (hK : 1000000000 ≤ K) (L E : Nat) (tx fk fv fp : Nat → Int32) (bd : Nat → Nat) (ithrown ityped inext itoken iplace ivalue ifault imany idrafts isumMany : Int32) (astm asm asgn aopn aopp : Nat → Int32)
    (hL : ityped.toInt = (L : Int)) (hL3 : L ≤ 300) (hEL : E ≤ L) (hby : ∀ i : Nat, i < L → 0 ≤ (tx i).toInt ∧ (tx i).toInt ≤ 255) (hC : ChC L tx E fk fv fp bd) (hB : BLn tx (bd E) L) (h0 : fk E = 0) (h1 : fv E = 0) :
    Par (F_m_read K ithrown ityped inext itoken iplace ivalue ifault imany idrafts isumMany tx astm asm asgn aopn aopp) (RdP ityped imany astm asm fk fv) := by
  have hS := hC.str (by omega) h0 h1
  have hbdL : ∀ j : Nat, j < E → bd (j + 1) ≤ L := by
    intro j hj
    obtain ⟨s, _, h3, _⟩ := hC.2.2 j hj
    exact h3.ok.2.2.1
  have hAll : ∀ (e s : Nat) (nx itk ipl ivl : Int32), nx.toInt = (e : Int) → BLn tx e s → s ≤ L → (s < L → tx s ≠ 32) → Par (F_m_advances K ityped nx itk ipl ivl tx) (AdvP L tx s) :=
    fun e s nx itk ipl ivl he hb hs h32 => E_m_advances K hK ityped nx itk ipl ivl tx L e s hL hL3 he hb hs h32 hby
  rcases first_bad (fun j => ∀ i : Nat, bd j ≤ i → i < bd (j + 1) → ¬ isUp (tx i)) E with hA | ⟨j0, hj0, hbad, hcl⟩
  · -- no upper-case letter
    have hix : ∀ i : Nat, i ≤ E → ∀ nx itk ipl ivl : Int32, nx.toInt = (bd i : Int) → Par (F_m_advances K ityped nx itk ipl ivl tx) (fun r => RTk fk fv (fun j => Int32.ofNat (if j < E then bd (j + 1) else L)) i r.1 r.2.1 r.2.2.1 r.2.2.2) := by
      intro i hi nx itk ipl ivl hnx
      by_cases hiE : i < E
      · obtain ⟨s, c1, c2, c3⟩ := hC.2.2 i hiE
        have ok := c2.ok
        refine (hAll (bd i) s nx itk ipl ivl hnx c1 (by omega) (fun _ => ok.2.2.2.2)).mono (fun r hr => ?_)
        obtain ⟨d1, d2, d3⟩ := tok_same c2 (fun i2 a b => hA i hiE i2 (by have := c1.1; omega) b) hr
        refine ⟨?_, d2, d3⟩
        show r.1 = Int32.ofNat (if i < E then bd (i + 1) else L)
        rw [if_pos hiE]
        exact ofn_of _ _ (by have := hbdL i hiE; omega) d1
      · have hie : i = E := by omega
        subst hie
        refine (hAll (bd i) L nx itk ipl ivl hnx hB (Nat.le_refl _) (fun h => by omega)).mono (fun r hr => ?_)
        obtain ⟨hp, hr⟩ := hr
        rcases hr with ⟨_, a2, a3⟩ | ⟨q, a1, _⟩ | ⟨q, a1, _⟩ | ⟨a1, _⟩
        · refine ⟨?_, ?_, by omega⟩
          · show r.1 = Int32.ofNat (if i < i then bd (i + 1) else L)
            rw [if_neg (by omega)]
            exact ofn_of _ _ (by omega) a2
          · rw [h0, a3]; exact Or.inl ⟨rfl, rfl⟩
        · exact absurd a1.1 (by have := a1.2.1; omega)
        · exact absurd a1.1 (by have := a1.2.1; omega)
        · omega
    have hR : RStq K E ityped tx fk fv (fun j => Int32.ofNat (if j < E then bd (j + 1) else L)) := by
      intro j hj _ itk ipl ivl
      refine hix (j + 1) hj _ itk ipl ivl ?_
      show (Int32.ofNat (if j < E then bd (j + 1) else L)).toInt = _
      rw [if_pos hj]
      exact ofn_i _ (by have := hbdL j hj; omega)
    refine (N_read K hK E fk fv _ ithrown ityped inext itoken iplace ivalue ifault imany idrafts isumMany tx astm asm asgn aopn aopp hS hR (fun itk ipl ivl => hix 0 (Nat.zero_le _) 0 itk ipl ivl (by rw [hC.1]; decide))).mono (fun r hr => ?_)
    rcases hr with ⟨a1, a2, a3⟩ | ⟨a1, a2⟩
    · exact Or.inl ⟨a1, fun x hx => a2.hl hx, a3⟩
    · exact Or.inr ⟨a1, a2⟩
  · -- a word with an upper-case letter
    obtain ⟨i, hi1, hi2, hiu⟩ : ∃ i : Nat, bd j0 ≤ i ∧ i < bd (j0 + 1) ∧ isUp (tx i) := by
      rcases Classical.em (∃ i : Nat, bd j0 ≤ i ∧ i < bd (j0 + 1) ∧ isUp (tx i)) with h | h
      · exact h
      · exact absurd (fun i a b c => h ⟨i, a, b, c⟩) hbad
    obtain ⟨s, c1, c2, c3⟩ := hC.2.2 j0 hj0
    have ok := c2.ok
    have hqL := hbdL j0 hj0
    have his : s ≤ i := by
      rcases Nat.lt_or_ge i s with h | h
      · exfalso
        have := c1.2 i hi1 h
        rw [this] at hiu
        have := hiu.1
        revert this; decide
      · exact h
    obtain ⟨hW, hkk⟩ : WRun isLt L tx s (bd (j0 + 1)) ∧ fk j0 = kOf (bd (j0 + 1) - s) (hv tx s (bd (j0 + 1) - s)) := by
      rcases c2 with ⟨a1, a2, _⟩ | ⟨a1, _⟩ | ⟨a1, a2, a3, _⟩
      · exact ⟨a1, a2⟩
      · exact absurd (a1.2.2.1 i his hi2) (up_sg hiu).2.1
      · exfalso
        have : i = s := by omega
        rw [this] at hiu
        exact a3 (Or.inr hiu)
    have hk1 : fk j0 = 1 := by rw [hkk]; exact up_k1 hW his hi2 hiu
    have hno := fun x => st_bad hS hj0 hk1 (fun _ => 0) (fun _ => 0) x
    -- tokens ahead of it
    have hah : ∀ (j : Nat), j < j0 → ∀ nx itk ipl ivl : Int32, nx.toInt = (bd j : Int) → Par (F_m_advances K ityped nx itk ipl ivl tx) (fun r => r.1 = Int32.ofNat (bd (j + 1)) ∧ Rtq (fk j) (fv j) r.2.1 r.2.2.2 ∧ 0 ≤ r.2.2.1.toInt) := by
      intro j hj nx itk ipl ivl hnx
      obtain ⟨s2, d1, d2, d3⟩ := hC.2.2 j (by omega)
      have ok2 := d2.ok
      refine (hAll (bd j) s2 nx itk ipl ivl hnx d1 (by omega) (fun _ => ok2.2.2.2.2)).mono (fun r hr => ?_)
      obtain ⟨e1, e2, e3⟩ := tok_same d2 (fun i2 a b => hcl j hj i2 (by have := d1.1; omega) b) hr
      exact ⟨ofn_of _ _ (by have := hbdL j (by omega); omega) e1, e2, e3⟩
    have hj300 : j0 ≤ 299 := by omega
    have fin : ∀ (ER : Nat) (kR vR nR : Nat → Int32), STR2 ER kR vR → RStq K ER ityped tx kR vR nR → (∀ itk ipl ivl : Int32, Par (F_m_advances K ityped 0 itk ipl ivl tx) (fun r => RTk kR vR nR 0 r.1 r.2.1 r.2.2.1 r.2.2.2)) → (∃ i9 : Nat, i9 < ER ∧ kR i9 = 1) → Par (F_m_read K ithrown ityped inext itoken iplace ivalue ifault imany idrafts isumMany tx astm asm asgn aopn aopp) (RdP ityped imany astm asm fk fv) := by
      rintro ER kR vR nR hSR hRR h00 ⟨i9, g1, g2⟩
      refine (N_read K hK ER kR vR nR ithrown ityped inext itoken iplace ivalue ifault imany idrafts isumMany tx astm asm asgn aopn aopp hSR hRR h00).mono (fun r hr => ?_)
      rcases hr with ⟨a1, a2, a3⟩ | ⟨a1, D', M', N', j', a2, _⟩
      · exact Or.inl ⟨a1, hno, a3⟩
      · exact absurd a2 (st_bad hSR g1 g2 _ _ _)
    have hvb : ∀ j : Nat, j < j0 → 0 ≤ (fv j).toInt ∧ (fv j).toInt ≤ 9 ∧ (fk j = 2 → (fv j).toInt ≤ 5) := fun j hj => hS.2.2.2 j (by omega)
    rcases hW.2.2.1 s (Nat.le_refl _) hW.1 with hlow | hup
    · -- a lower-case beginning
      obtain ⟨q, hq⟩ := run_ex (P := isLw) (fun b => Classical.em _) (L := L) (tx := tx) (s := s) hlow (by omega)
      have hqi : q ≤ i := by
        rcases Nat.lt_or_ge i q with h | h
        · exact absurd hiu (fun h9 => lw_up (hq.2.2.1 i his h) h9)
        · exact h
      have hupq : isUp (tx q) := by
        rcases hW.2.2.1 q (by have := hq.1; omega) (by omega) with h | h
        · exact absurd h (hq.2.2.2 (by omega))
        · exact h
      have hk2 : kOf (q - s) (hv tx s (q - s)) = 2 → 97 ≤ (tx s).toInt ∧ (tx s).toInt < 103 := by
        intro h
        unfold kOf at h
        by_cases ha : q - s = 1 ∧ 97 ≤ hv tx s (q - s) ∧ hv tx s (q - s) < 103
        · rw [ha.1, hv_one] at ha; exact ha.2
        · exfalso
          rw [if_neg ha] at h
          split at h
          · split at h
            · exact absurd h (by decide)
            · split at h
              · exact absurd h (by decide)
              · split at h
                · exact absurd h (by decide)
                · split at h <;> exact absurd h (by decide)
          · exact absurd h (by decide)
      have hvv : (tx s - 97).toInt = (tx s).toInt - 97 := by
        have := hlow.1
        have := hlow.2
        simp only [Int32.toInt_sub, Int32.reduceToInt]
        exact bmI (by omega) (by omega)
      refine fin (j0 + 2) (fun j => if j < j0 then fk j else if j = j0 then kOf (q - s) (hv tx s (q - s)) else if j = j0 + 1 then 1 else 0) (fun j => if j < j0 then fv j else if j = j0 then (if kOf (q - s) (hv tx s (q - s)) = 2 then tx s - 97 else 0) else 0) (fun j => if j < j0 then Int32.ofNat (bd (j + 1)) else if j = j0 then Int32.ofNat q else Int32.ofNat (q + 1)) ?_ ?_ ?_ ⟨j0 + 1, by omega, ?_⟩
      · refine ⟨by omega, ?_, fun j hj => ?_, fun j hj => ?_⟩
        · show (if j0 + 2 < j0 then fk (j0 + 2) else if j0 + 2 = j0 then kOf (q - s) (hv tx s (q - s)) else if j0 + 2 = j0 + 1 then 1 else 0) = (0 : Int32)
          rw [if_neg (by omega), if_neg (by omega), if_neg (by omega)]
        · show (if j < j0 then fk j else if j = j0 then kOf (q - s) (hv tx s (q - s)) else if j = j0 + 1 then 1 else 0) ≠ (0 : Int32)
          by_cases a : j < j0
          · rw [if_pos a]; exact hS.2.2.1 j (by omega)
          · rw [if_neg a]
            by_cases b : j = j0
            · rw [if_pos b]; exact kOf_ne _ _
            · rw [if_neg b, if_pos (by omega)]; decide
        · show 0 ≤ (if j < j0 then fv j else if j = j0 then (if kOf (q - s) (hv tx s (q - s)) = 2 then tx s - 97 else 0) else 0 : Int32).toInt ∧ (if j < j0 then fv j else if j = j0 then (if kOf (q - s) (hv tx s (q - s)) = 2 then tx s - 97 else 0) else 0 : Int32).toInt ≤ 9 ∧ ((if j < j0 then fk j else if j = j0 then kOf (q - s) (hv tx s (q - s)) else if j = j0 + 1 then 1 else 0 : Int32) = 2 → (if j < j0 then fv j else if j = j0 then (if kOf (q - s) (hv tx s (q - s)) = 2 then tx s - 97 else 0) else 0 : Int32).toInt ≤ 5)
          by_cases a : j < j0
          · rw [if_pos a, if_pos a]; exact hvb j a
          · rw [if_neg a, if_neg a]
            by_cases b : j = j0
            · rw [if_pos b, if_pos b]
              by_cases c : kOf (q - s) (hv tx s (q - s)) = 2
              · rw [if_pos c, hvv]
                have := hk2 c
                exact ⟨by omega, by omega, fun _ => by omega⟩
              · rw [if_neg c]; exact ⟨by decide, by decide, fun _ => by decide⟩
            · rw [if_neg b, if_neg b]; exact ⟨by decide, by decide, fun _ => by decide⟩
      · intro j hj hne itk ipl ivl
        by_cases a : j < j0
        · have e0 : (if j < j0 then Int32.ofNat (bd (j + 1)) else if j = j0 then Int32.ofNat q else Int32.ofNat (q + 1)) = Int32.ofNat (bd (j + 1)) := if_pos a
          show Par (F_m_advances K ityped (if j < j0 then Int32.ofNat (bd (j + 1)) else if j = j0 then Int32.ofNat q else Int32.ofNat (q + 1)) itk ipl ivl tx) _
          rw [e0]
          have hb1 : (Int32.ofNat (bd (j + 1))).toInt = (bd (j + 1) : Int) := ofn_i _ (by have := hbdL j (by omega); omega)
          by_cases b : j + 1 < j0
          · refine (hah (j + 1) b _ itk ipl ivl hb1).mono (fun r hr => ?_)
            refine ⟨?_, ?_, hr.2.2⟩
            · show r.1 = (if j + 1 < j0 then Int32.ofNat (bd (j + 1 + 1)) else if j + 1 = j0 then Int32.ofNat q else Int32.ofNat (q + 1))
              rw [if_pos b]; exact hr.1
            · show Rtq (if j + 1 < j0 then fk (j + 1) else if j + 1 = j0 then kOf (q - s) (hv tx s (q - s)) else if j + 1 = j0 + 1 then 1 else 0) (if j + 1 < j0 then fv (j + 1) else if j + 1 = j0 then (if kOf (q - s) (hv tx s (q - s)) = 2 then tx s - 97 else 0) else 0) r.2.1 r.2.2.2
              rw [if_pos b, if_pos b]; exact hr.2.1
          · have b2 : j + 1 = j0 := by omega
            rw [b2] at hb1 ⊢
            refine (hAll (bd j0) s _ itk ipl ivl hb1 c1 (by omega) (fun _ => ok.2.2.2.2)).mono (fun r hr => ?_)
            obtain ⟨e1, e2, e3⟩ := tok_lw (v := if kOf (q - s) (hv tx s (q - s)) = 2 then tx s - 97 else 0) hq hr (fun hk => by rw [if_pos hk]; exact hvv)
            refine ⟨?_, ?_, e3⟩
            · show r.1 = (if j0 < j0 then Int32.ofNat (bd (j0 + 1)) else if j0 = j0 then Int32.ofNat q else Int32.ofNat (q + 1))
              rw [if_neg (by omega), if_pos rfl]; exact ofn_of _ _ (by have := hq.2.1; omega) e1
            · show Rtq (if j0 < j0 then fk j0 else if j0 = j0 then kOf (q - s) (hv tx s (q - s)) else if j0 = j0 + 1 then 1 else 0) (if j0 < j0 then fv j0 else if j0 = j0 then (if kOf (q - s) (hv tx s (q - s)) = 2 then tx s - 97 else 0) else 0) r.2.1 r.2.2.2
              rw [if_neg (by omega), if_pos rfl, if_neg (by omega), if_pos rfl]; exact e2
        · by_cases b : j = j0
          · subst b
            show Par (F_m_advances K ityped (if j < j then Int32.ofNat (bd (j + 1)) else if j = j then Int32.ofNat q else Int32.ofNat (q + 1)) itk ipl ivl tx) _
            rw [if_neg a, if_pos rfl]
            have hq32 : tx q ≠ 32 := by
              intro h
              rw [h] at hupq
              have := hupq.1
              revert this; decide
            refine (hAll q q _ itk ipl ivl (ofn_i _ (by have := hq.2.1; omega)) ⟨Nat.le_refl _, fun i a b => by omega⟩ hq.2.1 (fun _ => hq32)).mono (fun r hr => ?_)
            obtain ⟨e1, e2, e3⟩ := tok_up hupq (by omega) hr
            refine ⟨?_, ?_, e3⟩
            · show r.1 = (if j + 1 < j then Int32.ofNat (bd (j + 1 + 1)) else if j + 1 = j then Int32.ofNat q else Int32.ofNat (q + 1))
              rw [if_neg (by omega), if_neg (by omega)]; exact ofn_of _ _ (by omega) e1
            · show Rtq (if j + 1 < j then fk (j + 1) else if j + 1 = j then kOf (q - s) (hv tx s (q - s)) else if j + 1 = j + 1 then 1 else 0) _ r.2.1 r.2.2.2
              rw [if_neg (by omega), if_neg (by omega), if_pos rfl, e2]; exact Or.inr (Or.inl ⟨rfl, rfl⟩)
          · exfalso
            refine hne ?_
            show (if j < j0 then fk j else if j = j0 then kOf (q - s) (hv tx s (q - s)) else if j = j0 + 1 then 1 else 0) = (1 : Int32)
            rw [if_neg a, if_neg b, if_pos (by omega)]
      · intro itk ipl ivl
        have hb0 : (0 : Int32).toInt = (bd 0 : Int) := by rw [hC.1]; decide
        by_cases b : 0 < j0
        · refine (hah 0 b 0 itk ipl ivl hb0).mono (fun r hr => ?_)
          refine ⟨?_, ?_, hr.2.2⟩
          · show r.1 = (if 0 < j0 then Int32.ofNat (bd (0 + 1)) else if 0 = j0 then Int32.ofNat q else Int32.ofNat (q + 1))
            rw [if_pos b]; exact hr.1
          · show Rtq (if 0 < j0 then fk 0 else if 0 = j0 then kOf (q - s) (hv tx s (q - s)) else if 0 = j0 + 1 then 1 else 0) (if 0 < j0 then fv 0 else if 0 = j0 then (if kOf (q - s) (hv tx s (q - s)) = 2 then tx s - 97 else 0) else 0) r.2.1 r.2.2.2
            rw [if_pos b, if_pos b]; exact hr.2.1
        · have b2 : j0 = 0 := by omega
          subst b2
          refine (hAll (bd 0) s _ itk ipl ivl hb0 c1 (by omega) (fun _ => ok.2.2.2.2)).mono (fun r hr => ?_)
          obtain ⟨e1, e2, e3⟩ := tok_lw (v := if kOf (q - s) (hv tx s (q - s)) = 2 then tx s - 97 else 0) hq hr (fun hk => by rw [if_pos hk]; exact hvv)
          refine ⟨?_, ?_, e3⟩
          · show r.1 = (if 0 < 0 then Int32.ofNat (bd (0 + 1)) else if 0 = 0 then Int32.ofNat q else Int32.ofNat (q + 1))
            rw [if_neg (by omega), if_pos rfl]; exact ofn_of _ _ (by have := hq.2.1; omega) e1
          · show Rtq (if 0 < 0 then fk 0 else if 0 = 0 then kOf (q - s) (hv tx s (q - s)) else if 0 = 0 + 1 then 1 else 0) (if 0 < 0 then fv 0 else if 0 = 0 then (if kOf (q - s) (hv tx s (q - s)) = 2 then tx s - 97 else 0) else 0) r.2.1 r.2.2.2
            rw [if_neg (by omega), if_pos rfl, if_neg (by omega), if_pos rfl]; exact e2
      · show (if j0 + 1 < j0 then fk (j0 + 1) else if j0 + 1 = j0 then kOf (q - s) (hv tx s (q - s)) else if j0 + 1 = j0 + 1 then 1 else 0) = (1 : Int32)
        rw [if_neg (by omega), if_neg (by omega), if_pos rfl]
    · -- an upper-case beginning
      refine fin (j0 + 1) (fun j => if j < j0 then fk j else if j = j0 then 1 else 0) (fun j => if j < j0 then fv j else 0) (fun j => if j < j0 then Int32.ofNat (bd (j + 1)) else Int32.ofNat (s + 1)) ?_ ?_ ?_ ⟨j0, by omega, ?_⟩
      · refine ⟨by omega, ?_, fun j hj => ?_, fun j hj => ?_⟩
        · show (if j0 + 1 < j0 then fk (j0 + 1) else if j0 + 1 = j0 then 1 else 0) = (0 : Int32)
          rw [if_neg (by omega), if_neg (by omega)]
        · show (if j < j0 then fk j else if j = j0 then 1 else 0) ≠ (0 : Int32)
          by_cases a : j < j0
          · rw [if_pos a]; exact hS.2.2.1 j (by omega)
          · rw [if_neg a, if_pos (by omega)]; decide
        · show 0 ≤ (if j < j0 then fv j else 0 : Int32).toInt ∧ (if j < j0 then fv j else 0 : Int32).toInt ≤ 9 ∧ ((if j < j0 then fk j else if j = j0 then 1 else 0 : Int32) = 2 → (if j < j0 then fv j else 0 : Int32).toInt ≤ 5)
          by_cases a : j < j0
          · rw [if_pos a, if_pos a]; exact hvb j a
          · rw [if_neg a]; exact ⟨by decide, by decide, fun _ => by decide⟩
      · intro j hj hne itk ipl ivl
        by_cases a : j < j0
        · show Par (F_m_advances K ityped (if j < j0 then Int32.ofNat (bd (j + 1)) else Int32.ofNat (s + 1)) itk ipl ivl tx) _
          rw [if_pos a]
          have hb1 : (Int32.ofNat (bd (j + 1))).toInt = (bd (j + 1) : Int) := ofn_i _ (by have := hbdL j (by omega); omega)
          by_cases b : j + 1 < j0
          · refine (hah (j + 1) b _ itk ipl ivl hb1).mono (fun r hr => ?_)
            refine ⟨?_, ?_, hr.2.2⟩
            · show r.1 = (if j + 1 < j0 then Int32.ofNat (bd (j + 1 + 1)) else Int32.ofNat (s + 1))
              rw [if_pos b]; exact hr.1
            · show Rtq (if j + 1 < j0 then fk (j + 1) else if j + 1 = j0 then 1 else 0) (if j + 1 < j0 then fv (j + 1) else 0) r.2.1 r.2.2.2
              rw [if_pos b, if_pos b]; exact hr.2.1
          · have b2 : j + 1 = j0 := by omega
            rw [b2] at hb1 ⊢
            refine (hAll (bd j0) s _ itk ipl ivl hb1 c1 (by omega) (fun _ => ok.2.2.2.2)).mono (fun r hr => ?_)
            obtain ⟨e1, e2, e3⟩ := tok_up hup (by omega) hr
            refine ⟨?_, ?_, e3⟩
            · show r.1 = (if j0 < j0 then Int32.ofNat (bd (j0 + 1)) else Int32.ofNat (s + 1))
              rw [if_neg (by omega)]; exact ofn_of _ _ (by omega) e1
            · show Rtq (if j0 < j0 then fk j0 else if j0 = j0 then 1 else 0) _ r.2.1 r.2.2.2
              rw [if_neg (by omega), if_pos rfl, e2]; exact Or.inr (Or.inl ⟨rfl, rfl⟩)
        · exfalso
          refine hne ?_
          show (if j < j0 then fk j else if j = j0 then 1 else 0) = (1 : Int32)
          rw [if_neg a, if_pos (by omega)]
      · intro itk ipl ivl
        have hb0 : (0 : Int32).toInt = (bd 0 : Int) := by rw [hC.1]; decide
        by_cases b : 0 < j0
        · refine (hah 0 b 0 itk ipl ivl hb0).mono (fun r hr => ?_)
          refine ⟨?_, ?_, hr.2.2⟩
          · show r.1 = (if 0 < j0 then Int32.ofNat (bd (0 + 1)) else Int32.ofNat (s + 1))
            rw [if_pos b]; exact hr.1
          · show Rtq (if 0 < j0 then fk 0 else if 0 = j0 then 1 else 0) (if 0 < j0 then fv 0 else 0) r.2.1 r.2.2.2
            rw [if_pos b, if_pos b]; exact hr.2.1
        · have b2 : j0 = 0 := by omega
          subst b2
          refine (hAll (bd 0) s _ itk ipl ivl hb0 c1 (by omega) (fun _ => ok.2.2.2.2)).mono (fun r hr => ?_)
          obtain ⟨e1, e2, e3⟩ := tok_up hup (by omega) hr
          refine ⟨?_, ?_, e3⟩
          · show r.1 = (if 0 < 0 then Int32.ofNat (bd (0 + 1)) else Int32.ofNat (s + 1))
            rw [if_neg (by omega)]; exact ofn_of _ _ (by omega) e1
          · show Rtq (if 0 < 0 then fk 0 else if 0 = 0 then 1 else 0) _ r.2.1 r.2.2.2
            rw [if_neg (by omega), if_pos rfl, e2]; exact Or.inr (Or.inl ⟨rfl, rfl⟩)
      · show (if j0 < j0 then fk j0 else if j0 = j0 then 1 else 0) = (1 : Int32)
        rw [if_neg (by omega), if_pos rfl]
abbrev R17 : Type := Int32 × (Nat → Nat → Int32) × Int32 × Int32 × Int32 × Int32 × Int32 × Int32 × Int32 × (Nat → Int32) × (Nat → Int32) × (Nat → Int32) × Int32 × Int32 × Int32 × Int32 × (Nat → Int32)
/-- the class's parse: the tokens of the text, and how the machine ends over them -/
def PrsP (L : Nat) (tx : Nat → Int32) (ppg : Nat → Option Nat) (sv : Nat → Nat → Int32) (r : R17) : Prop :=
  SvF ppg sv r.2.1 ∧ ∃ (E : Nat) (fk fv fp : Nat → Int32) (bd : Nat → Nat), E ≤ L ∧ ChC L tx E fk fv fp bd ∧ BLn tx (bd E) L ∧ fk E = 0 ∧ fv E = 0 ∧
    ((r.1 = -1 ∧ ∃ (D' : List SRc) (M' N' : Nat → Nat) (j' : Nat), Hl2 fk fv ([], fun _ => 0, fun _ => 0, [], 0) (D', M', N', j') ∧ r.2.2.2.2.2.2.2.2.2.2.2.2.1.toInt = (D'.length : Int) ∧ r.2.2.2.2.2.2.2.2.2.2.2.2.2.2.1.toInt = (cn1 D' : Int) ∧ r.2.2.2.2.2.2.2.2.2.2.2.2.2.2.2.1 = usX D' ∧ ∀ i : Nat, i < D'.length → RowC ppg r.2.1 r.2.2.2.2.2.2.2.2.2.2.2.2.2.2.2.2 D' M' N' r.2.2.2.2.2.2.2.2.2.2.2.2.2.1.toInt i) ∨ (0 ≤ r.1.toInt ∧ Fl2 fk fv ([], fun _ => 0, fun _ => 0, [], 0)))
theorem E_X3_parse (K : Nat) (hK : 1000000000 ≤ K) (LL : List Nat) (sv : Nat → Nat → Int32) (ops cl mn at_ kd vl pl : Int32) (fk fv fp : Nat → Int32) (sz cs ou us : Int32) (ppg : Nat → Option Nat) (ppk : Nat → Int32) (len : Int32) (tx : Nat → Int32) (L : Nat) (hL : len.toInt = (L : Int)) (hL3 : L ≤ 300) (hby : ∀ i : Nat, i < L → 0 ≤ (tx i).toInt ∧ (tx i).toInt ≤ 255) (hpg : PGi ppg) :
    Par (F_X3_parse K LL sv ops cl mn at_ kd vl pl fk fv fp sz cs ou us ppg ppk len tx) (PrsP L tx ppg sv) := by
  unfold F_X3_parse
  have h2c : ∀ (Q : R17 → Prop) (n : Nat) (s0 : Int32) (s : Nat → Nat → Int32) (c1 c2 c3 c4 c5 c6 c7 : Int32) (g1 g2 g3 : Nat → Int32) (c8 c9 c10 c11 : Int32) (g4 : Nat → Int32), ((s0 = 0 → Q (c7, s, c1, c2, c3, c4, c5, c6, c7, g1, g2, g3, c8, c9, c10, c11, g4)) ∧ (s0 ≠ 0 → Q (-1, s, c1, c2, c3, c4, c5, c6, c7, g1, g2, g3, c8, c9, c10, c11, g4))) → Par (L_X3_parse K n 2 s0 LL s c1 c2 c3 c4 c5 c6 c7 g1 g2 g3 c8 c9 c10 c11 ppg g4 len tx) Q := by
    intro Q n s0 s c1 c2 c3 c4 c5 c6 c7 g1 g2 g3 c8 c9 c10 c11 g4 hQ
    cases n with
    | zero => exact Par.no
    | succ n =>
      rw [L_X3_parse_e2]; unfold B_X3_parse_2
      exact Par.br (fun h => Par.ret (hQ.1 h)) (fun h => Par.ret (hQ.2 h))
  have h1c : ∀ (Q : R17 → Prop) (n : Nat) (s0 : Int32) (s : Nat → Nat → Int32) (c1 c2 c3 c4 c5 c6 c7 : Int32) (g1 g2 g3 : Nat → Int32) (c8 c9 c10 c11 : Int32) (g4 : Nat → Int32), Q (c7, s, c1, c2, c3, c4, c5, c6, c7, g1, g2, g3, c8, c9, c10, c11, g4) → Par (L_X3_parse K n 1 s0 LL s c1 c2 c3 c4 c5 c6 c7 g1 g2 g3 c8 c9 c10 c11 ppg g4 len tx) Q := by
    intro Q n s0 s c1 c2 c3 c4 c5 c6 c7 g1 g2 g3 c8 c9 c10 c11 g4 hQ
    cases n with
    | zero => exact Par.no
    | succ n =>
      rw [L_X3_parse_e1]; unfold B_X3_parse_1
      exact h2c Q n 0 s c1 c2 c3 c4 c5 c6 c7 g1 g2 g3 c8 c9 c10 c11 g4 ⟨fun _ => hQ, fun h => absurd rfl h⟩
  obtain ⟨n, hn⟩ : ∃ n9, K = n9 + 1 := ⟨K - 1, by omega⟩
  generalize hz : L_X3_parse K K 0 0 LL sv ops cl mn at_ kd vl pl fk fv fp sz cs ou us ppg ppk len tx = z
  have hz2 : z = L_X3_parse K (n + 1) 0 0 LL sv ops cl mn at_ kd vl pl fk fv fp sz cs ou us ppg ppk len tx := by rw [← hn, hz]
  rw [hz2, L_X3_parse_e0]; unfold B_X3_parse_0
  have hres : Par (F_X4_reset K sz cs ou us) (fun r => r = (0, 0, 0, 0)) := by
    unfold F_X4_reset
    generalize hy : L_X4_reset K K 0 sz cs ou us = y
    have hy2 : y = L_X4_reset K (n + 1) 0 sz cs ou us := by rw [← hn, hy]
    rw [hy2, L_X4_reset_e0]; unfold B_X4_reset_0
    exact Par.ret rfl
  refine Par.bd hres (fun q hq => ?_)
  subst hq
  refine Par.bd (E_X7_cut K hK mn at_ kd vl pl len fk fv fp tx L hL hL3 hby) (fun c hc => ?_)
  obtain ⟨E, bd, c1, c2, c3, c4, c5, c6, c7, c8⟩ := hc
  have hpl : ∀ (D : List SRc) (j : Nat) (r : R13), SSt c.1 c.2.2.2.2.2.1 c.2.2.2.2.2.2.1 D j r → 0 ≤ r.2.2.2.2.2.2.2.1.toInt := fun D j r h => h.1.2.1.2
  refine Par.bd (P := fun r => StsP c.1 c.2.2.2.2.2.1 c.2.2.2.2.2.2.1 ppg (-1) [] (fun _ => 0) (fun _ => 0) sv ppk 0 0 0 0 r ∧ 0 ≤ r.2.2.2.2.2.2.2.1.toInt ∧ SvF ppg sv r.2.1) ?_ (fun r hr => ?_)
  · intro q9 hq9
    exact ⟨Q_X3_stms K hK _ _ _ _ _ _ _ _ _ _ _ _ _ _ _ _ _ _ _ _ [] (fun _ => 0) (fun _ => 0) 0 0 c7 c8 hpg (by decide) (by omega) (by decide) (by simp) (by decide) q9 hq9, PL_X3_takeStatements K hK _ _ _ _ _ _ _ _ _ _ _ _ _ _ _ _ _ _ _ _ (fun j hj => (c7.2.2.2.2 j hj).2.2.2) c8.2.1.2 q9 hq9, SF_X3_takeStatements K hK sv _ _ _ _ _ _ _ _ _ _ _ _ _ _ _ _ _ _ _ _ (fun _ _ _ => rfl) q9 hq9⟩
  · obtain ⟨hr, hr0, hsf⟩ := hr
    rcases hr with ⟨d1, d2⟩ | ⟨d1, X, M2, N2, j', d2, dc, d3, d4⟩
    · refine Par.yes d1 ?_
      exact h1c _ n _ _ _ _ _ _ _ _ _ _ _ _ _ _ _ _ _ ⟨hsf, E, _, _, _, bd, c1, c3, c4, c5, c6, Or.inr ⟨hr0, d2 [] rfl rfl⟩⟩
    · refine Par.not (by rw [d1]; decide) ?_
      have hkd : r.2.2.2.2.2.1 = c.2.2.2.2.2.1 j' := d2.1.2.2.1
      have hR := d4 [] rfl rfl
      refine Par.br (fun h => ?_) (fun h => ?_)
      · refine h2c _ n 1 _ _ _ _ _ _ _ _ _ _ _ _ _ _ _ _ ⟨fun h9 => absurd h9 (by decide), fun _ => ⟨hsf, E, _, _, _, bd, c1, c3, c4, c5, c6, Or.inl ⟨rfl, [] ++ X, M2, N2, j', hR.hl (s_end (by rw [← hkd]; exact h)), d2.2.1, d2.2.2.2, ?_, fun i hi => dc.2.2.2.2.1 i (Nat.zero_le _) hi⟩⟩⟩
        have hus := dc.2.2.2.2.2
        rw [Int32.zero_or] at hus
        exact hus
      · refine h1c _ n _ _ _ _ _ _ _ _ _ _ _ _ _ _ _ _ _ ⟨hsf, E, _, _, _, bd, c1, c3, c4, c5, c6, Or.inr ⟨hr0, hR.fl (s_none d3 (by rw [← hkd]; exact h))⟩⟩
/-- the two programs are one -/
def SameP (ppg : Nat → Option Nat) (sv : Nat → Nat → Int32) (ppk : Nat → Int32) (sz cs ou us : Int32) (many : Int32) (astm asm : Nat → Int32) : Prop :=
  ∃ (D : List SRc) (M N : Nat → Nat), (∃ (k v : Nat → Int32) (j : Nat), Hl2 k v ([], fun _ => 0, fun _ => 0, [], 0) (D, M, N, j) ∧ ∀ x : SRc, x ∈ D → GdE x.2.2.1) ∧ D.length ≤ 30 ∧ sz.toInt = (D.length : Int) ∧ many.toInt = (D.length : Int) ∧ ou.toInt = (cn1 D : Int) ∧ us = usX D ∧ (∀ i : Nat, i < D.length → RowC ppg sv ppk D M N cs.toInt i) ∧ (∀ i : Nat, i < D.length → FRow astm asm D M N i)
/-- the two readings of one text end alike -/
theorem both_read (K : Nat) (hK : 1000000000 ≤ K) (LL : List Nat) (sv : Nat → Nat → Int32) (ops cl mn at_ kd vl pl : Int32) (fk fv fp : Nat → Int32) (sz cs ou us : Int32) (ppg : Nat → Option Nat) (ppk : Nat → Int32) (len : Int32) (tx : Nat → Int32) (ithrown inext itoken iplace ivalue ifault imany idrafts isumMany : Int32) (astm asm asgn aopn aopp : Nat → Int32) (hL : 0 ≤ len.toInt ∧ len.toInt ≤ 300) (hby : ∀ i : Nat, (i : Int) < len.toInt → 0 ≤ (tx i).toInt ∧ (tx i).toInt ≤ 255) (hpg : PGi ppg)
    (rc : R17) (rm : R16) (hc : F_X3_parse K LL sv ops cl mn at_ kd vl pl fk fv fp sz cs ou us ppg ppk len tx = some rc) (hm : F_m_read K ithrown len inext itoken iplace ivalue ifault imany idrafts isumMany tx astm asm asgn aopn aopp = some rm) :
    SvF ppg sv rc.2.1 ∧ ((rc.1 < 0 ∧ rm.2.2.1 = 0 ∧ SameP ppg rc.2.1 rc.2.2.2.2.2.2.2.2.2.2.2.2.2.2.2.2 rc.2.2.2.2.2.2.2.2.2.2.2.2.1 rc.2.2.2.2.2.2.2.2.2.2.2.2.2.1 rc.2.2.2.2.2.2.2.2.2.2.2.2.2.2.1 rc.2.2.2.2.2.2.2.2.2.2.2.2.2.2.2.1 rm.2.2.2.2.2.2.2.2.1 rm.2.2.2.2.2.2.2.2.2.2.2.1 rm.2.2.2.2.2.2.2.2.2.2.2.2.1) ∨ (¬ rc.1 < 0 ∧ rm.2.2.1 = len ∧ rm.2.2.2.2.2.2.2.2.1 = imany ∧ (∀ p : Nat, p < 240 → rm.2.2.2.2.2.2.2.2.2.2.2.1 p = astm p) ∧ (∀ p : Nat, p < 300 → rm.2.2.2.2.2.2.2.2.2.2.2.2.1 p = asm p))) := by
  have hLn : len.toInt = ((len.toInt.toNat : Nat) : Int) := by omega
  have hby2 : ∀ i : Nat, i < len.toInt.toNat → 0 ≤ (tx i).toInt ∧ (tx i).toInt ≤ 255 := fun i hi => hby i (by omega)
  obtain ⟨hsf, E, fk2, fv2, fp2, bd, c1, c2, c3, c4, c5, c6⟩ := E_X3_parse K hK LL sv ops cl mn at_ kd vl pl fk fv fp sz cs ou us ppg ppk len tx len.toInt.toNat hLn (by omega) hby2 hpg rc hc
  have hr := ref_same K hK len.toInt.toNat E tx fk2 fv2 fp2 bd ithrown len inext itoken iplace ivalue ifault imany idrafts isumMany astm asm asgn aopn aopp hLn (by omega) c1 hby2 c2 c3 c4 c5 rm hm
  refine ⟨hsf, ?_⟩
  rcases c6 with ⟨d1, D', M', N', j', d2, d3, d4, d5, d6⟩ | ⟨d1, d2⟩
  · rcases hr with ⟨_, e2, _⟩ | ⟨e1, D2, M2, N2, j2, e2, e3, e4, e5⟩
    · exact absurd d2 (e2 _)
    · have hsame : (D2, M2, N2, j2) = (D', M', N', j') := by
        obtain ⟨m1, h1⟩ := d2
        obtain ⟨m2, h2⟩ := e2
        have a1 := h1 m2
        have a2 := h2 m1
        rw [Nat.add_comm, a2] at a1
        exact Option.some.inj (Option.some.inj a1)
      obtain ⟨rfl, rfl, rfl, rfl⟩ : D2 = D' ∧ M2 = M' ∧ N2 = N' ∧ j2 = j' := ⟨congrArg (fun z : TRt => z.1) hsame, congrArg (fun z : TRt => z.2.1) hsame, congrArg (fun z : TRt => z.2.2.1) hsame, congrArg (fun z : TRt => z.2.2.2) hsame⟩
      exact Or.inl ⟨by rw [d1]; decide, e1, D2, M2, N2, ⟨_, _, _, d2, d2.cd (c2.str (by omega) c4 c5)⟩, e4, d3, e3, d4, d5, d6, e5⟩
  · rcases hr with ⟨e1, _, e3, e4, e5⟩ | ⟨_, D2, M2, N2, j2, e2, _⟩
    · refine Or.inr ⟨fun h => ?_, e1, e3, e4, e5⟩
      rw [Int32.lt_iff_toInt_lt] at h
      simp only [Int32.reduceToInt] at h
      omega
    · exact absurd e2 (fun h => d2.hl h)
