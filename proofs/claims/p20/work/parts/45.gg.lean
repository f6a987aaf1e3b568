/-! p3: the reference's loop of sums, step by step with the machine -/
theorem clo0 : clo 0 = 0 := by decide
theorem clo1 : clo 1 = 0 := by decide
theorem popGe_len (c : Nat) : ∀ (S out : List Int32), (popGe c S out).1.length ≤ S.length := by
  intro S
  induction S with
  | nil => intro out; exact Nat.le_refl _
  | cons x S ih =>
    intro out
    by_cases h : c ≤ clo x
    · simp only [popGe, if_pos h, List.length_cons]; exact Nat.le_succ_of_le (ih _)
    · simp only [popGe, if_neg h]; exact Nat.le_refl _
theorem MPs.push {B : Int} {a : Int32} {g0 : Nat → Int32} {S : List Int32} {o : Int} {out : List Int32} {l2 l3 sm : Int32} {asm asgn : Nat → Int32} (h : MPs B a g0 S o out l2 l3 sm asm asgn) (hok : okIx l2 80 = true) (y : Int32) :
    MPs (B + 1) a g0 (y :: S) o out (l2 + 1) l3 sm asm (upd asgn l2.toNatClampNeg y) := by
  obtain ⟨h1, h2, h3, h4, h5, h6, h7⟩ := h
  have hn : l2.toNatClampNeg = S.length := cl1 _ _ h2
  have hk := (okIx_iff l2 80).mp hok
  refine ⟨?_, ad1 _ _ h2 (by omega), ?_, h4, ?_, h6, h7⟩
  · rw [hn]; exact h1.push y
  · rw [List.length_cons]; omega
  · rw [List.length_cons]; omega
theorem MPs.opn {B : Int} {a : Int32} {g0 : Nat → Int32} {S : List Int32} {o : Int} {out : List Int32} {l2 l3 sm : Int32} {asm asgn : Nat → Int32} (h : MPs B a g0 S o out l2 l3 sm asm asgn) (hB : B ≤ 1000) (ho : o < 8) (hok : okIx l2 80 = true) (y : Int32) :
    MPs B a g0 (y :: S) (o + 1) out (l2 + 1) (l3 + 1) sm asm (upd asgn l2.toNatClampNeg y) := by
  obtain ⟨h1, h2, h3, h4, h5, h6, h7⟩ := h
  have hn : l2.toNatClampNeg = S.length := cl1 _ _ h2
  have hk := (okIx_iff l2 80).mp hok
  refine ⟨?_, ad1 _ _ h2 (by omega), ?_, ?_, ?_, by omega, h7⟩
  · rw [hn]; exact h1.push y
  · rw [List.length_cons]; omega
  · simp only [Int32.toInt_add, Int32.reduceToInt, h4]
    rw [bmI (by omega) (by omega)]
  · rw [List.length_cons]; omega
theorem MPs.put {B : Int} {a : Int32} {g0 : Nat → Int32} {S : List Int32} {o : Int} {out : List Int32} {l2 l3 sm s2 : Int32} {asm asgn : Nat → Int32} (h : MPs B a g0 S o out l2 l3 sm asm asgn) (x : Int32) (h2 : s2.toInt = sm.toInt + 1) (h9 : s2.toInt ≤ 300) :
    MPs B a g0 S o (out ++ [x]) l2 l3 s2 (upd asm (300 + sm.toInt.toNat) x) asgn := by
  obtain ⟨h1, h3, h4, h5, h6, h7, h8⟩ := h
  exact ⟨h1, h3, h4, h5, h6, h7, h8.one h2 h9⟩
theorem sg33 : sgq 33 := by unfold sgq; decide
theorem sg40 : sgq 40 := by unfold sgq; decide
set_option maxHeartbeats 4000000 in
set_option maxRecDepth 100000 in
theorem M_1 (K : Nat) (hK : 1000000000 ≤ K) (E : Nat) (k v nx : Nat → Int32) (a : Int32) (g0 : Nat → Int32) (l1 ityped ifault : Int32) (atxt astm : Nat → Int32) (hS : STR2 E k v) (hR : RStq K E ityped atxt k v nx) (hw : ifault.toInt < 0) :
    ∀ (n : Nat) (w : Bool) (S : List Int32) (o : Int) (lv j : Nat) (out : List Int32) (l2 l3 l4 sm inext itoken iplace ivalue : Int32) (asm asgn : Nat → Int32),
    MPs (j : Int) a g0 S o out l2 l3 sm asm asgn → l4.toInt = (lv : Int) → lv ≤ 24 → (w = false → NTop S) → RTk k v nx j inext itoken iplace ivalue → j ≤ E →
    Par (L_m_readsSum K n 1 l1 l2 l3 l4 (if w = true then 1 else 0) 1 0 0 0 ityped inext itoken iplace ivalue ifault sm atxt astm asm asgn) (RSQ E k v nx a g0 l1 astm (w, S, o, lv, j, out)) := by
  intro n
  induction n using Nat.strongRecOn with
  | _ n ih =>
  intro w S o lv j out l2 l3 l4 sm inext itoken iplace ivalue asm asgn hM h4 hlv hN hT hj
  have hE3 := hS.1
  have hjB : (j : Int) ≤ 1000 := by omega
  have hMl3 : l3.toInt = o := hM.2.2.2.1
  have hplace := hT.2.2
  have hQ := hT.2.1
  cases n with
  | zero => exact Par.no
  | succ n =>
  rw [L_m_readsSum_e1]; unfold B_m_readsSum_1
  refine Par.not (by decide) ?_
  refine Par.bd (T_m_isWell K hK ifault True.intro).pr (fun q hq => ?_)
  rcases hq with ⟨hq, _⟩ | ⟨_, h⟩
  case inr => omega
  refine Par.not (by rw [hq]; decide) ?_
  cases w with
  | true =>
    refine Par.not (by decide) ?_
    -- the end where nothing stands
    have h9 : ∀ (m : Nat) (l7 l8 : Int32), ¬ ((k j = 33 ∨ k j = 40) ∧ o < 8) → ¬ ((k j = 2 ∨ (k j = 3 ∧ v j < 4)) ∧ lv < 24) → Par (L_m_readsSum K m 9 l1 l2 l3 l4 1 1 l7 l8 0 ityped inext itoken iplace ivalue ifault sm atxt astm asm asgn) (RSQ E k v nx a g0 l1 astm (true, S, o, lv, j, out)) :=
      fun m l7 l8 ha hb => (f9 K hK l1 ityped ifault atxt m l2 l3 l4 l7 l8 inext itoken iplace ivalue sm astm asm asgn hplace).mono (fun r hr => Or.inl ⟨hr.1, sb_wfl ha hb, fun p hp => by rw [hr.2.1]; exact hM.2.2.2.2.2.2.2.2.1 p (by omega), hr.2.2⟩)
    have h7 : ∀ (m : Nat) (l7 l8 : Int32), m < n + 1 → ¬ ((k j = 33 ∨ k j = 40) ∧ o < 8) → ((l8 = 1 ∧ (k j = 2 ∨ (k j = 3 ∧ v j < 4))) ∨ (l8 = 0 ∧ ¬ (k j = 2 ∨ (k j = 3 ∧ v j < 4)))) → Par (L_m_readsSum K m 7 l1 l2 l3 l4 1 1 l7 l8 0 ityped inext itoken iplace ivalue ifault sm atxt astm asm asgn) (RSQ E k v nx a g0 l1 astm (true, S, o, lv, j, out)) := by
      intro m l7 l8 hm ha hb
      cases m with
      | zero => exact Par.no
      | succ m =>
        rw [L_m_readsSum_e7]; unfold B_m_readsSum_7
        rcases hb with ⟨h8, hb⟩ | ⟨h8, hb⟩
        · refine Par.not (by rw [h8]; decide) ?_
          refine Par.br (fun h24 => ?_) (fun h24 => ?_)
          · rw [Int32.le_iff_toInt_le] at h24
            simp only [Int32.reduceToInt] at h24
            exact h9 m l7 l8 ha (fun h => by omega)
          · rw [Int32.le_iff_toInt_le] at h24
            simp only [Int32.reduceToInt] at h24
            have hk0 : k j ≠ 0 ∧ k j ≠ 1 := by rcases hb with h | ⟨h, _⟩ <;> rw [h] <;> decide
            have h8 : ∀ (m2 : Nat) (s0 : Int32), m2 < n + 1 → s0 = lfc (k j) (v j) → Par (L_m_readsSum K m2 8 l1 l2 l3 l4 1 1 l7 l8 s0 ityped inext itoken iplace ivalue ifault sm atxt astm asm asgn) (RSQ E k v nx a g0 l1 astm (true, S, o, lv, j, out)) := by
              intro m2 s0 hm2 hs0
              cases m2 with
              | zero => exact Par.no
              | succ m2 =>
                rw [L_m_readsSum_e8]; unfold B_m_readsSum_8
                refine Par.bd (E_m_putsP K hK s0 sm asm hM.2.2.2.2.2.2.nn) (fun r hr => ?_)
                refine Par.bd (hR.adv hS hj hT hk0) (fun q hq => ?_)
                cases m2 with
                | zero => exact Par.no
                | succ m2 =>
                  rw [L_m_readsSum_e10]; unfold B_m_readsSum_10
                  have hM2 : MPs ((j + 1 : Nat) : Int) a g0 S o (out ++ [lfc (k j) (v j)]) l2 l3 r.1 r.2 asgn := by
                    rw [hr.2.2, hs0]; exact (hM.put _ hr.1 hr.2.1).mono (by omega)
                  refine M_18 K hK ((j + 1 : Nat) : Int) (by omega) a g0 _ l1 (l4 + 1) 1 ityped q.1 q.2.1 q.2.2.1 q.2.2.2 ifault atxt astm asgn S o (out ++ [lfc (k j) (v j)]) m2 l2 l3 l7 l8 r.1 r.2 hM2 (fun m3 hm3 l2' l3' sm' asm' hM3 => ?_)
                  have hgo := ih m3 (by omega) false _ _ (lv + 1) (j + 1) _ l2' l3' (l4 + 1) sm' q.1 q.2.1 q.2.2.1 q.2.2.2 asm' asgn hM3 (by rw [ad1 l4 lv h4 (by omega)]) (by omega) (fun _ => popNq_nt _ _ _) hq (hS.go hj hk0)
                  exact hgo.mono (fun r9 hr9 => RSQ.back (sb_leaf hb (by omega)) hr9)
            refine Par.br (fun h5 => ?_) (fun h5 => ?_)
            · refine h8 m _ (by omega) ?_
              have hk2 := hQ.cell.1.mp h5
              rw [hQ.cell.2 hk2, hk2]; rfl
            · refine h8 m _ (by omega) ?_
              have hk2 : k j ≠ 2 := fun h => h5 (hQ.cell.1.mpr h)
              rcases hb with h | ⟨h, _⟩
              · exact absurd h hk2
              · rw [hQ.num.2 h, h]; rfl
        · refine Par.yes h8 ?_
          exact h9 m l7 l8 ha (fun h => hb h.1)
    have h6 : ∀ (m : Nat) (l7 l8 : Int32), m < n + 1 → ((l7 = 1 ∧ (k j = 33 ∨ k j = 40)) ∨ (l7 = 0 ∧ ¬ (k j = 33 ∨ k j = 40))) → ((l8 = 1 ∧ (k j = 2 ∨ (k j = 3 ∧ v j < 4))) ∨ (l8 = 0 ∧ ¬ (k j = 2 ∨ (k j = 3 ∧ v j < 4)))) → Par (L_m_readsSum K m 6 l1 l2 l3 l4 1 1 l7 0 l8 ityped inext itoken iplace ivalue ifault sm atxt astm asm asgn) (RSQ E k v nx a g0 l1 astm (true, S, o, lv, j, out)) := by
      intro m l7 l8 hm ha hb
      cases m with
      | zero => exact Par.no
      | succ m =>
        rw [L_m_readsSum_e6]; unfold B_m_readsSum_6
        rcases ha with ⟨h7e, ha⟩ | ⟨h7e, ha⟩
        · refine Par.not (by rw [h7e]; decide) ?_
          refine Par.br (fun h8 => ?_) (fun h8 => ?_)
          · rw [Int32.le_iff_toInt_le] at h8
            simp only [Int32.reduceToInt] at h8
            exact h7 m l7 l8 (by omega) (fun h => by omega) hb
          · rw [Int32.le_iff_toInt_le] at h8
            simp only [Int32.reduceToInt] at h8
            have hk0 : k j ≠ 0 ∧ k j ≠ 1 := by rcases ha with h | h <;> rw [h] <;> decide
            have hval : ivalue = k j := by
              rcases ha with h | h
              · rw [h]; exact ((hQ.sign 33 sg33).mpr h).2
              · rw [h]; exact ((hQ.sign 40 sg40).mpr h).2
            refine Par.br (fun hok => ?_) (fun _ => Par.no)
            refine Par.bd (hR.adv hS hj hT hk0) (fun q hq => ?_)
            cases m with
            | zero => exact Par.no
            | succ m =>
              rw [L_m_readsSum_e10]; unfold B_m_readsSum_10
              cases m with
              | zero => exact Par.no
              | succ m =>
                rw [L_m_readsSum_e18]; unfold B_m_readsSum_18
                refine Par.not (by decide) ?_
                have hM2 : MPs ((j + 1 : Nat) : Int) a g0 (k j :: S) (o + 1) out (l2 + 1) (l3 + 1) sm asm (upd asgn l2.toNatClampNeg ivalue) := by
                  rw [hval]; exact (hM.opn hjB (by omega) hok (k j)).mono (by omega)
                have hgo := ih m (by omega) true _ _ lv (j + 1) _ (l2 + 1) (l3 + 1) l4 sm q.1 q.2.1 q.2.2.1 q.2.2.2 asm _ hM2 h4 hlv (fun h => by cases h) hq (hS.go hj hk0)
                exact hgo.mono (fun r9 hr9 => RSQ.back (sb_open ha (by omega)) hr9)
        · refine Par.yes h7e ?_
          exact h7 m l7 l8 (by omega) (fun h => ha h.1) hb
    have h3 : ∀ (m : Nat) (s0 : Int32), m < n + 1 → ((s0 = 1 ∧ (k j = 33 ∨ k j = 40)) ∨ (s0 = 0 ∧ ¬ (k j = 33 ∨ k j = 40))) → Par (L_m_readsSum K m 3 l1 l2 l3 l4 1 1 0 0 s0 ityped inext itoken iplace ivalue ifault sm atxt astm asm asgn) (RSQ E k v nx a g0 l1 astm (true, S, o, lv, j, out)) := by
      intro m s0 hm ha
      cases m with
      | zero => exact Par.no
      | succ m =>
        rw [L_m_readsSum_e3]; unfold B_m_readsSum_3
        have hy : (k j = 2 ∨ (k j = 3 ∧ v j < 4)) → Par (L_m_readsSum K m 4 l1 l2 l3 l4 1 1 s0 0 0 ityped inext itoken iplace ivalue ifault sm atxt astm asm asgn) (RSQ E k v nx a g0 l1 astm (true, S, o, lv, j, out)) := by
          intro hb
          cases m with
          | zero => exact Par.no
          | succ m =>
            rw [L_m_readsSum_e4]; unfold B_m_readsSum_4
            exact h6 m s0 1 (by omega) ha (Or.inl ⟨rfl, hb⟩)
        have hn : ¬ (k j = 2 ∨ (k j = 3 ∧ v j < 4)) → Par (L_m_readsSum K m 5 l1 l2 l3 l4 1 1 s0 0 0 ityped inext itoken iplace ivalue ifault sm atxt astm asm asgn) (RSQ E k v nx a g0 l1 astm (true, S, o, lv, j, out)) := by
          intro hb
          cases m with
          | zero => exact Par.no
          | succ m =>
            rw [L_m_readsSum_e5]; unfold B_m_readsSum_5
            exact h6 m s0 0 (by omega) ha (Or.inr ⟨rfl, hb⟩)
        refine Par.br (fun h5 => hy (Or.inl (hQ.cell.1.mp h5))) (fun h5 => ?_)
        have hk2 : k j ≠ 2 := fun h => h5 (hQ.cell.1.mpr h)
        refine Par.br (fun h6e => ?_) (fun h6e => ?_)
        · have hk3 := hQ.num.1.mp h6e
          have hv := hQ.num.2 hk3
          refine Par.br (fun h => hn ?_) (fun h => hy ?_)
          · rintro (h2 | ⟨_, h2⟩)
            · exact hk2 h2
            · rw [hv, Int32.le_iff_toInt_le] at h
              rw [Int32.lt_iff_toInt_lt] at h2
              omega
          · refine Or.inr ⟨hk3, ?_⟩
            rw [hv, Int32.le_iff_toInt_le] at h
            rw [Int32.lt_iff_toInt_lt]
            omega
        · refine hn ?_
          rintro (h2 | ⟨h2, _⟩)
          · exact hk2 h2
          · exact h6e (hQ.num.1.mpr h2)
    have h2 : ∀ (m : Nat), m < n + 1 → (k j = 33 ∨ k j = 40) → Par (L_m_readsSum K m 2 l1 l2 l3 l4 1 1 0 0 0 ityped inext itoken iplace ivalue ifault sm atxt astm asm asgn) (RSQ E k v nx a g0 l1 astm (true, S, o, lv, j, out)) := by
      intro m hm ha
      cases m with
      | zero => exact Par.no
      | succ m =>
        rw [L_m_readsSum_e2]; unfold B_m_readsSum_2
        exact h3 m 1 (by omega) (Or.inl ⟨rfl, ha⟩)
    refine Par.bd (T_m_isSign K hK 33 itoken ivalue ifault True.intro).pr (fun q1 hq1 => ?_)
    rcases hq1 with ⟨e1, _, e2, e3⟩ | ⟨e1, e2⟩
    · refine Par.not (by rw [e1]; decide) ?_
      exact h2 n (by omega) (Or.inl ((hQ.sign 33 sg33).mp ⟨e2, e3⟩))
    · refine Par.yes e1 ?_
      have hk33 : k j ≠ 33 := by
        intro h
        have := (hQ.sign 33 sg33).mpr h
        rcases e2 with e2 | e2 | e2
        · omega
        · exact e2 this.1
        · exact e2 this.2
      refine Par.bd (T_m_isSign K hK 40 itoken ivalue ifault True.intro).pr (fun q2 hq2 => ?_)
      rcases hq2 with ⟨f1e, _, f2e, f3e⟩ | ⟨f1e, f2e⟩
      · refine Par.not (by rw [f1e]; decide) ?_
        exact h2 n (by omega) (Or.inr ((hQ.sign 40 sg40).mp ⟨f2e, f3e⟩))
      · refine Par.yes f1e ?_
        refine h3 n 0 (by omega) (Or.inr ⟨rfl, ?_⟩)
        rintro (h | h)
        · exact hk33 h
        · have := (hQ.sign 40 sg40).mpr h
          rcases f2e with e2 | e2 | e2
          · omega
          · exact e2 this.1
          · exact e2 this.2
  | false =>
    refine Par.yes rfl ?_
    have hNT := hN rfl
    have hS80 : S.length ≤ 80 := hM.2.2.1
    have hl2 : l2.toInt = (S.length : Int) := hM.2.1
    have hl2n : l2.toNatClampNeg = S.length := cl1 _ _ hl2
    have hstk : StkR S asgn S.length := hM.1
    have hstk2 : StkR S asgn l2.toNatClampNeg := by rw [hl2n]; exact hstk
    -- the sum's end
    have h17 : ∀ (m : Nat) (l7 l8 : Int32), ¬ (1 < clo (k j) ∨ (clo (k j) = 1 ∧ mayC S = true)) → (k j = 41 → hasO S = false) → Par (L_m_readsSum K m 17 l1 l2 l3 l4 0 1 l7 l8 0 ityped inext itoken iplace ivalue ifault sm atxt astm asm asgn) (RSQ E k v nx a g0 l1 astm (false, S, o, lv, j, out)) := by
      intro m l7 l8 ha hb
      cases m with
      | zero => exact Par.no
      | succ m =>
        rw [L_m_readsSum_e17]; unfold B_m_readsSum_17
        refine M_18 K hK (j : Int) hjB a g0 _ l1 l4 0 ityped inext itoken iplace ivalue ifault atxt astm asgn S o out m l2 l3 l7 l8 sm asm hM (fun m3 hm3 l2' l3' sm' asm' hM3 => ?_)
        rw [popNq_of hNT] at hM3
        cases m3 with
        | zero => exact Par.no
        | succ m3 =>
          rw [L_m_readsSum_e1]; unfold B_m_readsSum_1
          refine Par.yes rfl ?_
          cases m3 with
          | zero => exact Par.no
          | succ m3 =>
            rw [L_m_readsSum_e19]; unfold B_m_readsSum_19
            refine Par.bd (T_m_isWell K hK ifault True.intro).pr (fun q hq => ?_)
            rcases hq with ⟨hq, _⟩ | ⟨_, h⟩
            case inr => omega
            refine Par.not (by rw [hq]; decide) ?_
            have hl2' : l2'.toNatClampNeg = S.length := cl1 _ _ hM3.2.1
            refine Par.bd (E_m_hasOpen K hK l2' S asgn (by rw [hl2']; exact hstk) hM3.2.1 hS80) (fun q2 hq2 => ?_)
            rcases hq2 with ⟨hq2, ho⟩ | ⟨hq2, ho⟩
            · refine Par.not (by rw [hq2]; decide) ?_
              refine Par.bd (T_m_fails K hK iplace ifault hplace).pr (fun q3 hq3 => ?_)
              refine (f20 K l1 ityped q3 atxt hK hq3 m3 l2' l3' l4 0 0 inext itoken iplace ivalue sm' astm asm' asgn).mono (fun r hr => Or.inl ⟨by rw [hr.1]; exact hq3, sb_efl ha (fun h => ?_) ho, fun p hp => by rw [hr.2.1]; exact hM3.2.2.2.2.2.2.2.2.1 p (by omega), hr.2.2⟩)
              rw [hb h] at ho; cases ho
            · refine Par.yes hq2 ?_
              refine (e20 K hK (j : Int) a g0 l1 l3' l4 0 0 ityped inext itoken iplace ivalue ifault atxt astm asgn o hw S out m3 l2' sm' asm' hstk hM3.2.1 hS80 hM3.2.2.2.2.2.2).mono (fun r hr => ?_)
              obtain ⟨r1, r2, r3, r4, r5, r6, r7⟩ := hr
              refine Or.inr ⟨by rw [r1]; exact hw, j, out ++ S, sb_end ha ho, hj, ?_, r6, r7⟩
              rw [r2, r3, r4, r5]; exact hT
    have h15 : ∀ (m : Nat) (c l8 : Int32), m < n + 1 → (c = 41 ↔ k j = 41) → ¬ (1 < clo (k j) ∨ (clo (k j) = 1 ∧ mayC S = true)) → Par (L_m_readsSum K m 15 l1 l2 l3 l4 0 1 c l8 0 ityped inext itoken iplace ivalue ifault sm atxt astm asm asgn) (RSQ E k v nx a g0 l1 astm (false, S, o, lv, j, out)) := by
      intro m c l8 hm hc ha
      cases m with
      | zero => exact Par.no
      | succ m =>
        rw [L_m_readsSum_e15]; unfold B_m_readsSum_15
        refine Par.br (fun h41 => ?_) (fun h41 => ?_)
        · have hk41 := hc.mp h41
          refine Par.bd (E_m_hasOpen K hK l2 S asgn hstk2 hl2 hS80) (fun q2 hq2 => ?_)
          rcases hq2 with ⟨hq2, ho⟩ | ⟨hq2, ho⟩
          · refine Par.not (by rw [hq2]; decide) ?_
            have hk0 : k j ≠ 0 ∧ k j ≠ 1 := by rw [hk41]; decide
            refine M_16 K hK (j : Int) hjB a g0 _ l1 l3 l4 0 1 c l8 ityped inext itoken iplace ivalue ifault atxt astm asgn o S out m l2 sm asm hM (fun m3 hm3 l2' sm' asm' hM3 => ?_)
            refine Par.bd (hR.adv hS hj hT hk0) (fun q hq => ?_)
            refine M_18 K hK (j : Int) hjB a g0 _ l1 l4 1 ityped q.1 q.2.1 q.2.2.1 q.2.2.2 ifault atxt astm asgn _ _ _ m3 l2' (l3 - 1) c l8 sm' asm' hM3 (fun m4 hm4 l2'' l3'' sm'' asm'' hM4 => ?_)
            have hgo := ih m4 (by omega) false _ _ lv (j + 1) _ l2'' l3'' l4 sm'' q.1 q.2.1 q.2.2.1 q.2.2.2 asm'' asgn (hM4.mono (by omega)) h4 hlv (fun _ => popNq_nt _ _ _) hq (hS.go hj hk0)
            exact hgo.mono (fun r9 hr9 => RSQ.back (sb_close hk41 ho) hr9)
          · refine Par.yes hq2 ?_
            exact h17 m c l8 ha (fun _ => ho)
        · exact h17 m c l8 ha (fun h => absurd (hc.mpr h) h41)
    have h13 : ∀ (m : Nat) (c l8 : Int32), m < n + 1 → c = k j → (1 < clo (k j) ∨ (clo (k j) = 1 ∧ mayC S = true)) → Par (L_m_readsSum K m 13 l1 l2 l3 l4 0 1 c l8 0 ityped inext itoken iplace ivalue ifault sm atxt astm asm asgn) (RSQ E k v nx a g0 l1 astm (false, S, o, lv, j, out)) := by
      intro m c l8 hm hc ha
      have hk0 : k j ≠ 0 ∧ k j ≠ 1 := by
        refine ⟨fun h => ?_, fun h => ?_⟩
        · rw [h, clo0] at ha
          rcases ha with h | ⟨h, _⟩ <;> omega
        · rw [h, clo1] at ha
          rcases ha with h | ⟨h, _⟩ <;> omega
      refine M_13 K hK (j : Int) hjB a g0 _ l1 l3 l4 0 1 c l8 ityped inext itoken iplace ivalue ifault atxt astm asgn o S out m l2 sm asm hM (fun m3 hm3 l2' sm' asm' hM3 => ?_)
      cases m3 with
      | zero => exact Par.no
      | succ m3 =>
        rw [L_m_readsSum_e14]; unfold B_m_readsSum_14
        refine Par.br (fun hok => ?_) (fun _ => Par.no)
        refine Par.bd (hR.adv hS hj hT hk0) (fun q hq => ?_)
        cases m3 with
        | zero => exact Par.no
        | succ m3 =>
          rw [L_m_readsSum_e18]; unfold B_m_readsSum_18
          refine Par.not (by decide) ?_
          have hM4 := hM3.push hok c
          rw [hc] at hM4 ⊢
          have hgo := ih m3 (by omega) true _ _ lv (j + 1) _ (l2' + 1) l3 l4 sm' q.1 q.2.1 q.2.2.1 q.2.2.2 asm' _ (hM4.mono (by omega)) h4 hlv (fun h => by cases h) hq (hS.go hj hk0)
          exact hgo.mono (fun r9 hr9 => RSQ.back (sb_op ha) hr9)
    have h12 : ∀ (m : Nat) (c s0 : Int32), m < n + 1 → clo c = clo (k j) → (c = 41 ↔ k j = 41) → (0 < clo (k j) → c = k j) → ((s0 = 1 ∧ clo c = 1) ∨ (s0 = 0 ∧ clo c ≠ 1)) → Par (L_m_readsSum K m 12 l1 l2 l3 l4 0 1 c 0 s0 ityped inext itoken iplace ivalue ifault sm atxt astm asm asgn) (RSQ E k v nx a g0 l1 astm (false, S, o, lv, j, out)) := by
      intro m c s0 hm hc1 hc2 hc3 hs0
      cases m with
      | zero => exact Par.no
      | succ m =>
        rw [L_m_readsSum_e12]; unfold B_m_readsSum_12
        refine Par.bd (E_m_close K hK c) (fun q hq => ?_)
        refine Par.br (fun h => ?_) (fun h => ?_)
        · rw [Int32.lt_iff_toInt_lt, hq] at h
          simp only [Int32.reduceToInt] at h
          exact h13 m c s0 (by omega) (hc3 (by omega)) (Or.inl (by omega))
        · rw [Int32.lt_iff_toInt_lt, hq] at h
          simp only [Int32.reduceToInt] at h
          rcases hs0 with ⟨e1, e2⟩ | ⟨e1, e2⟩
          · refine Par.not (by rw [e1]; decide) ?_
            refine Par.bd (E_m_mayCompare K hK l2 S asgn hstk hl2 hS80) (fun q2 hq2 => ?_)
            rcases hq2 with ⟨hq2, ho⟩ | ⟨hq2, ho⟩
            · refine Par.not (by rw [hq2]; decide) ?_
              exact h13 m c s0 (by omega) (hc3 (by omega)) (Or.inr ⟨by omega, ho⟩)
            · refine Par.yes hq2 ?_
              refine h15 m c s0 (by omega) hc2 ?_
              rintro (h9 | ⟨_, h9⟩)
              · omega
              · rw [ho] at h9; cases h9
          · refine Par.yes e1 ?_
            refine h15 m c s0 (by omega) hc2 ?_
            rintro (h9 | ⟨h9, _⟩) <;> omega
    have h11 : ∀ (m : Nat) (c : Int32), m < n + 1 → clo c = clo (k j) → (c = 41 ↔ k j = 41) → (0 < clo (k j) → c = k j) → Par (L_m_readsSum K m 11 l1 l2 l3 l4 0 1 0 0 c ityped inext itoken iplace ivalue ifault sm atxt astm asm asgn) (RSQ E k v nx a g0 l1 astm (false, S, o, lv, j, out)) := by
      intro m c hm hc1 hc2 hc3
      cases m with
      | zero => exact Par.no
      | succ m =>
        rw [L_m_readsSum_e11]; unfold B_m_readsSum_11
        refine Par.bd (E_m_close K hK c) (fun q hq => ?_)
        refine Par.br (fun h => ?_) (fun h => ?_)
        · have h1 : clo c = 1 := by
            rw [h] at hq
            simp only [Int32.reduceToInt] at hq
            omega
          exact h12 m c 1 (by omega) hc1 hc2 hc3 (Or.inl ⟨rfl, h1⟩)
        · refine h12 m c 0 (by omega) hc1 hc2 hc3 (Or.inr ⟨rfl, fun h1 => h ?_⟩)
          rw [h1] at hq
          exact Int32.toInt_inj.mp hq
    refine Par.br (fun h7 => ?_) (fun h7 => ?_)
    · have hv := hQ.clo.1 h7
      exact h11 n ivalue (by omega) (by rw [hv]) (by rw [hv]) (fun _ => hv)
    · have hv := hQ.clo.2 h7
      refine h11 n 0 (by omega) (by rw [clo0, hv.1]) ⟨fun h => absurd h (by decide), fun h => absurd h hv.2⟩ (fun h => ?_)
      rw [hv.1] at h; omega
/-- a whole reading of a sum -/
theorem M_sum (K : Nat) (hK : 1000000000 ≤ K) (E : Nat) (k v nx : Nat → Int32) (l1 ityped inext itoken iplace ivalue ifault sm : Int32) (atxt astm asm asgn : Nat → Int32) (j : Nat) (hS : STR2 E k v) (hR : RStq K E ityped atxt k v nx) (hw : ifault.toInt < 0) (hT : RTk k v nx j inext itoken iplace ivalue) (hj : j ≤ E) (hsm : 0 ≤ sm.toInt) :
    Par (F_m_readsSum K l1 ityped inext itoken iplace ivalue ifault sm atxt astm asm asgn) (RSQ E k v nx sm asm l1 (upd astm (l1 + 2).toNatClampNeg sm) (true, [], 0, 0, j, [])) := by
  unfold F_m_readsSum
  obtain ⟨n, hn⟩ : ∃ n9, K = n9 + 1 := ⟨K - 1, by omega⟩
  suffices hz : Par (L_m_readsSum K (n + 1) 0 l1 0 0 0 0 0 0 0 0 ityped inext itoken iplace ivalue ifault sm atxt astm asm asgn) (RSQ E k v nx sm asm l1 (upd astm (l1 + 2).toNatClampNeg sm) (true, [], 0, 0, j, [])) from by rw [← hn] at hz; exact hz
  rw [L_m_readsSum_e0]; unfold B_m_readsSum_0
  refine Par.br (fun _ => ?_) (fun _ => Par.no)
  have hE3 := hS.1
  refine M_1 K hK E k v nx sm asm l1 ityped ifault atxt _ hS hR hw n true [] 0 0 j [] 0 0 0 sm inext itoken iplace ivalue asm asgn ⟨rfl, rfl, by simp, rfl, ?_, by omega, hsm, by simp, fun _ _ => rfl, fun i x h => by simp at h, Or.inr rfl⟩ rfl (by omega) (fun h => by cases h) hT hj
  simp
