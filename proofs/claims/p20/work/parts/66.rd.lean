/-! the class's run -/
/-- all numbers as one against the cells' numbers -/
def PkW (w : Int32) (g : Nat → Int32) : Prop := (∀ j : Nat, 12 ≤ j → w.toBitVec.getLsbD j = false) ∧ ∀ c : Nat, c < 6 → cvW w (Int32.ofNat (2 * c)) = g c
theorem bv3 (v : BitVec 32) (s i : Nat) : ((v >>> s) &&& 3#32).getLsbD i = (decide (i < 2) && v.getLsbD (s + i)) := by
  rw [BitVec.getLsbD_and, BitVec.getLsbD_ushiftRight]
  by_cases hi : i < 32
  · have e := (show ∀ i : Fin 32, (3#32).getLsbD i.val = decide (i.val < 2) by decide +kernel) ⟨i, hi⟩
    simp only at e
    rw [e, Bool.and_comm]
  · rw [BitVec.getLsbD_of_ge _ i (by omega), BitVec.getLsbD_of_ge _ (s + i) (by omega)]
    simp
theorem cvW_bv (w : Int32) (c : Nat) (hc : c < 6) : (cvW w (Int32.ofNat (2 * c))).toBitVec = (w.toBitVec >>> (2 * c)) &&& 3#32 := by
  rcases (show c = 0 ∨ c = 1 ∨ c = 2 ∨ c = 3 ∨ c = 4 ∨ c = 5 by omega) with rfl | rfl | rfl | rfl | rfl | rfl <;> rfl
theorem cvW_eq {w u : Int32} {c k : Nat} (hc : c < 6) (hk : k < 6) (h0 : w.toBitVec.getLsbD (2 * c) = u.toBitVec.getLsbD (2 * k)) (h1 : w.toBitVec.getLsbD (2 * c + 1) = u.toBitVec.getLsbD (2 * k + 1)) : cvW w (Int32.ofNat (2 * c)) = cvW u (Int32.ofNat (2 * k)) := by
  rw [← Int32.toBitVec_inj, cvW_bv w c hc, cvW_bv u k hk]
  apply BitVec.eq_of_getLsbD_eq
  intro i _
  rw [bv3, bv3]
  by_cases h2 : i < 2
  · rcases (show i = 0 ∨ i = 1 by omega) with rfl | rfl
    · rw [Nat.add_zero, Nat.add_zero, h0]
    · rw [h1]
  · simp [h2]
/-- what assign leaves -/
def asW (w c x : Int32) : Int32 := (w &&& ((3 <<< ((2 * c) &&& 31)) ^^^ (-1))) ||| (x <<< ((2 * c) &&& 31))
theorem asW_tab : ∀ (c : Fin 6) (x : Fin 4) (j : Fin 32), (((3 : Int32) <<< ((2 * Int32.ofNat c.val) &&& 31)) ^^^ (-1)).toBitVec.getLsbD j.val = decide (¬ (j.val = 2 * c.val ∨ j.val = 2 * c.val + 1)) ∧ (Int32.ofNat x.val <<< ((2 * Int32.ofNat c.val) &&& 31)).toBitVec.getLsbD j.val = (decide (2 * c.val ≤ j.val) && (Int32.ofNat x.val).toBitVec.getLsbD (j.val - 2 * c.val)) := by decide +kernel
theorem x4_hi : ∀ (x : Fin 4) (j : Fin 32), 2 ≤ j.val → (Int32.ofNat x.val).toBitVec.getLsbD j.val = false := by decide +kernel
theorem v3_fin (x : Int32) (h : v3 x) : ∃ y : Fin 4, x = Int32.ofNat y.val := by
  rcases four_i x h with rfl | rfl | rfl | rfl
  · exact ⟨0, by decide⟩
  · exact ⟨1, by decide⟩
  · exact ⟨2, by decide⟩
  · exact ⟨3, by decide⟩
theorem asW_bit (w : Int32) (c : Nat) (hc : c < 6) (y : Fin 4) (j : Nat) (hj : j < 32) : (asW w (Int32.ofNat c) (Int32.ofNat y.val)).toBitVec.getLsbD j = if j = 2 * c ∨ j = 2 * c + 1 then (Int32.ofNat y.val).toBitVec.getLsbD (j - 2 * c) else w.toBitVec.getLsbD j := by
  obtain ⟨e1, e2⟩ := asW_tab ⟨c, hc⟩ y ⟨j, hj⟩
  simp only at e1 e2
  have e : (asW w (Int32.ofNat c) (Int32.ofNat y.val)).toBitVec = (w.toBitVec &&& (((3 : Int32) <<< ((2 * Int32.ofNat c) &&& 31)) ^^^ (-1)).toBitVec) ||| (Int32.ofNat y.val <<< ((2 * Int32.ofNat c) &&& 31)).toBitVec := rfl
  rw [e, BitVec.getLsbD_or, BitVec.getLsbD_and, e1, e2]
  by_cases h : j = 2 * c ∨ j = 2 * c + 1
  · have h2 : 2 * c ≤ j := by omega
    rw [if_pos h]
    simp [h, h2]
  · rw [if_neg h]
    by_cases h2 : 2 * c ≤ j
    · have h3 := x4_hi y ⟨j - 2 * c, by omega⟩ (by show 2 ≤ j - 2 * c; omega)
      simp only at h3
      rw [h3]
      simp [h]
    · simp [h, h2]
theorem PkW.asg {w x : Int32} {g : Nat → Int32} (h : PkW w g) {c : Nat} (hc : c < 6) (hx : v3 x) : PkW (asW w (Int32.ofNat c) x) (upd g c x) := by
  obtain ⟨y, rfl⟩ := v3_fin x hx
  refine ⟨fun j hj => ?_, fun k hk => ?_⟩
  · by_cases h32 : j < 32
    · rw [asW_bit w c hc y j h32, if_neg (by omega)]; exact h.1 j hj
    · exact BitVec.getLsbD_of_ge _ _ (by omega)
  · by_cases hkc : k = c
    · subst hkc
      rw [upd_eq]
      have e : cvW (Int32.ofNat y.val) (Int32.ofNat (2 * 0)) = Int32.ofNat y.val := (show ∀ y : Fin 4, cvW (Int32.ofNat y.val) (Int32.ofNat (2 * 0)) = Int32.ofNat y.val by decide +kernel) y
      rw [← e]
      refine cvW_eq hk (by omega) ?_ ?_
      · rw [e, asW_bit w k hc y _ (by omega), if_pos (Or.inl rfl), Nat.sub_self]
      · rw [e, asW_bit w k hc y _ (by omega), if_pos (Or.inr rfl), Nat.add_sub_cancel_left]
    · rw [upd_ne _ _ hkc, ← h.2 k hk]
      refine cvW_eq hk hk ?_ ?_
      · rw [asW_bit w c hc y _ (by omega), if_neg (by omega)]
      · rw [asW_bit w c hc y _ (by omega), if_neg (by omega)]
/-- the class's machine against a run's state -/
def RlC (s : RSt) (w st cm : Int32) (fn fl : Nat → Int32) : Prop := PkW w s.1 ∧ st.toInt = (s.2.1 : Int) ∧ cm.toInt = (s.2.2.length : Int) ∧ TpR fn fl s.2.2
abbrev R5c : Type := Int32 × Int32 × Int32 × (Nat → Int32) × (Nat → Int32)
def RlT (s : RSt) (r : R5c) : Prop := RlC s r.1 r.2.1 r.2.2.1 r.2.2.2.1 r.2.2.2.2
/-- the class's program, as far as a run wants it -/
def CRw (pg : Nat → Option Nat) (sv : Nat → Nat → Int32) (pk : Nat → Int32) (D : List SRc) (M N : Nat → Nat) : Prop := ∀ i : Nat, i < D.length → ∃ a : Nat, pg i = some a ∧ sv a 0 = kf D i ∧ sv a 1 = nf D i ∧ CSm sv pk a (cod D i) ∧ (kf D i = 2 → (sv a 7).toInt = (M i : Int)) ∧ (sv a 8).toInt = (EnD D N i : Int) ∧ (kf D i = 1 → sv a 2 = Int32.ofNat (cn1 (D.take i))) ∧ (kf D i = 0 → tcC D i < 6 ∧ nf D i = Int32.ofNat (tcC D i)) ∧ (kf D i ≠ 3 → WfC (cod D i))
theorem E_X2_putOut (K : Nat) (hK : 1000000000 ≤ K) (a b cm : Int32) (fn fl : Nat → Int32) (out : List (Int32 × Int32)) (h : cm.toInt = (out.length : Int)) (hl : out.length ≤ 400) (ht : TpR fn fl out) : Par (F_X2_putOut K a b cm fn fl) (fun r => r.1.toInt = ((out ++ [(a, b)]).length : Int) ∧ TpR r.2.1 r.2.2 (out ++ [(a, b)])) := by
  have hln : (out ++ [(a, b)]).length = out.length + 1 := by rw [List.length_append]; rfl
  have one : ∀ (n : Nat) (fn fl : Nat → Int32), TpR fn fl (out ++ [(a, b)]) → Par (L_X2_putOut K n 1 a b cm fn fl) (fun r => r.1.toInt = ((out ++ [(a, b)]).length : Int) ∧ TpR r.2.1 r.2.2 (out ++ [(a, b)])) := by
    intro n fn fl h9
    cases n with
    | zero => exact Par.no
    | succ n =>
      rw [L_X2_putOut_e1]; unfold B_X2_putOut_1
      exact Par.ret ⟨by rw [hln]; exact ad1 cm _ h (by omega), h9⟩
  unfold F_X2_putOut
  obtain ⟨n, rfl⟩ : ∃ n9, K = n9 + 1 := ⟨K - 1, by omega⟩
  rw [L_X2_putOut_e0]; unfold B_X2_putOut_0
  refine Par.br (fun h20 => one n _ _ ?_) (fun h20 => ?_)
  · rw [Int32.le_iff_toInt_le, h] at h20
    simp only [Int32.reduceToInt] at h20
    exact ht.full (by omega) _
  · refine Par.br (fun _ => ?_) (fun _ => Par.no)
    refine Par.br (fun _ => one n _ _ ?_) (fun _ => Par.no)
    rw [cl1 cm _ h]
    exact ht.put a b
theorem E_X2_assign (K : Nat) (hK : 1000000000 ≤ K) (c x w : Int32) : Par (F_X2_assign K c x w) (fun r => r = asW w c x) := by
  unfold F_X2_assign
  obtain ⟨n, rfl⟩ : ∃ n9, K = n9 + 1 := ⟨K - 1, by omega⟩
  rw [L_X2_assign_e0]; unfold B_X2_assign_0
  exact Par.ret rfl
theorem E_X2_doSt (K : Nat) (hK : 1000000000 ≤ K) (LL : List Nat) (sv : Nat → Nat → Int32) (pg : Nat → Option Nat) (pk : Nat → Int32) (D : List SRc) (M N dp : Nat → Nat) (wo : Int32) (hD : D.length ≤ 30) (hC : CRw pg sv pk D M N) (hN : NsT D M N dp) (hV : VlD D) : ∀ (d i t : Nat) (l2 l3 l5 w st cm : Int32) (fn fl : Nat → Int32) (s : RSt), l2.toInt = (i : Int) → l3.toInt = (t : Int) → i ≤ t → RgP D N i t → (0 ≤ l5.toInt ∧ l5.toInt ≤ 6 ∧ ∀ j : Nat, i ≤ j → j < t → l5.toInt ≤ (dp j : Int)) → OkS s → RlC s w st cm fn fl → Par ((DD_doSt K d) l2 l3 wo l5 LL sv w st cm fn fl pg pk) (RlT (exC D M N wo i t s)) := by
  intro d
  induction d with
  | zero => intros; exact Par.no
  | succ d ihd =>
    intro i t l2 l3 l5 w st cm fn fl s h2 h3 hit hR h5 hO hS
    show Par (L_X2_doStatements K (DD_doSt K d) K 0 l2 l3 wo l5 0 0 0 LL sv w st cm fn fl pg pk) (RlT (exC D M N wo i t s))
    have hrun : ∀ (i' : Nat) (s' : RSt), i' ≤ t → OkS s' → exC D M N wo i t s = exC D M N wo i' t s' → OkS (exC D M N wo i' t s') := fun i' s' _ h _ => exC_ok hV _ _ _ h
    have key : ∀ (n i' : Nat) (l6 : Int32) (a7 : Nat) (l8 w st cm : Int32) (fn fl : Nat → Int32) (s' : RSt), l6.toInt = (i' : Int) → i ≤ i' → i' ≤ t → OkS s' → RlC s' w st cm fn fl → exC D M N wo i t s = exC D M N wo i' t s' → Par (L_X2_doStatements K (DD_doSt K d) n 1 l2 l3 wo l5 l6 a7 l8 LL sv w st cm fn fl pg pk) (RlT (exC D M N wo i t s)) := by
      intro n
      induction n using Nat.strongRecOn with
      | _ n ih =>
      intro i' l6 a7 l8 w st cm fn fl s' h6 hii hit' hO' hS' he
      cases n with
      | zero => exact Par.no
      | succ n =>
        rw [L_X2_doStatements_e1]; unfold B_X2_doStatements_1
        have stop : ¬ (i' < t ∧ s'.2.1 < 400) → Par (some (w, st, cm, fn, fl)) (RlT (exC D M N wo i t s)) := by
          intro h
          rw [he, exC_no h]
          exact Par.ret hS'
        refine Par.br (fun h => stop ?_) (fun hlt => ?_)
        · rw [Int32.le_iff_toInt_le, h3, h6] at h; omega
        · rw [Int32.le_iff_toInt_le, h3, h6] at hlt
          have hlt : i' < t := by omega
          have hil : i' < D.length := by have := hR.1; omega
          refine Par.not (by rw [Int32.le_iff_toInt_le, h6]; simp only [Int32.reduceToInt]; omega) ?_
          refine Par.br (fun h => stop ?_) (fun h4 => ?_)
          · rw [Int32.le_iff_toInt_le, hS'.2.1] at h
            simp only [Int32.reduceToInt] at h
            omega
          · rw [Int32.le_iff_toInt_le, hS'.2.1] at h4
            simp only [Int32.reduceToInt] at h4
            have h4 : s'.2.1 < 400 := by omega
            have hgo := exC_go (wo := wo) hN hlt h4 (hR.sub hii)
            have hEt := hR.2 i' hii hlt
            obtain ⟨e1, e2, e3⟩ := hN.1 i' hil
            obtain ⟨a, c1, c2, c3, c4, c5, c6, c7, c8, c9⟩ := hC i' hil
            refine Par.br (fun _ => ?_) (fun _ => Par.no)
            rw [cl1 l6 i' h6]
            refine Par.bd (P := fun z => z = a) (fun z hz => by rw [c1] at hz; exact (Option.some.inj hz).symm) (fun z hz => ?_)
            subst hz
            refine Par.br (fun _ => ?_) (fun _ => Par.no)
            -- the statement's end
            have four : ∀ (q : Nat) (l8 w st cm : Int32) (fn fl : Nat → Int32) (s2 : RSt), q < n + 1 → OkS s2 → RlC s2 w st cm fn fl → stR D M N wo (exC D M N wo) i' s' = s2 → Par (L_X2_doStatements K (DD_doSt K d) q 4 l2 l3 wo l5 l6 z l8 LL sv w st cm fn fl pg pk) (RlT (exC D M N wo i t s)) := by
              intro q l8 w st cm fn fl s2 hq hO2 hS2 he2
              cases q with
              | zero => exact Par.no
              | succ q =>
                rw [L_X2_doStatements_e4]; unfold B_X2_doStatements_4
                refine Par.br (fun _ => ?_) (fun _ => Par.no)
                have hm : (if (l6 + 1) < (sv z 8) then (sv z 8) else (l6 + 1)).toInt = (EnD D N i' : Int) := by
                  have h61 := ad1 l6 i' h6 (by omega)
                  split
                  · exact c6
                  · rename_i hn
                    rw [Int32.lt_iff_toInt_lt, h61, c6] at hn
                    rw [h61]; omega
                exact ih q (by omega) (EnD D N i') _ 0 0 w st cm fn fl s2 hm (by omega) hEt hO2 hS2 (by rw [he, hgo, he2])
            have hst1 : (st + 1).toInt = ((s'.2.1 + 1 : Nat) : Int) := ad1 st _ hS'.2.1 (by omega)
            have hO1 : OkS (s'.1, s'.2.1 + 1, s'.2.2) := ⟨hO'.1, by show s'.2.1 + 1 ≤ 400; omega, by show s'.2.2.length ≤ s'.2.1 + 1; have := hO'.2.2; omega⟩
            have hS1 : RlC (s'.1, s'.2.1 + 1, s'.2.2) w (st + 1) cm fn fl := ⟨hS'.1, hst1, hS'.2.2⟩
            have hb5 : bkP D i' → l5.toInt ≤ 5 := fun hb => by
              have := h5.2.2 i' hii hlt
              have := hN.2.2.2.1 i' hil hb
              omega
            have hl51 : bkP D i' → (l5 + 1).toInt = l5.toInt + 1 := fun hb => adI l5 _ rfl h5.1 (by have := hb5 hb; omega)
            -- a block under it
            have blk : ∀ (f t2 : Nat) (lf lt2 : Int32) (w st cm : Int32) (fn fl : Nat → Int32) (s2 : RSt), bkP D i' → lf.toInt = (f : Int) → lt2.toInt = (t2 : Int) → f ≤ t2 → RgP D N f t2 → i' < f → t2 ≤ EnD D N i' → OkS s2 → RlC s2 w st cm fn fl → Par ((DD_doSt K d) lf lt2 wo (l5 + 1) LL sv w st cm fn fl pg pk) (RlT (exC D M N wo f t2 s2)) := by
              intro f t2 lf lt2 w st cm fn fl s2 hb hf ht2 hft hR2 hf2 ht3 hO2 hS2
              have h9 := hb5 hb
              refine ihd f t2 lf lt2 (l5 + 1) w st cm fn fl s2 hf ht2 hft hR2 ⟨by rw [hl51 hb]; omega, by rw [hl51 hb]; omega, fun j hj1 hj2 => ?_⟩ hO2 hS2
              rw [hl51 hb]
              have h10 := h5.2.2 i' hii hlt
              have h11 := (e3 j (by omega) (by omega)).2
              omega
            -- what is done in a step
            have two : ∀ (q : Nat) (l8 : Int32), q < n + 1 → ¬ psW wo D i' → Par (L_X2_doStatements K (DD_doSt K d) q 2 l2 l3 wo l5 l6 z l8 LL sv w st cm fn fl pg pk) (RlT (exC D M N wo i t s)) := by
              intro q l8 hq hp
              cases q with
              | zero => exact Par.no
              | succ q =>
                rw [L_X2_doStatements_e2]; unfold B_X2_doStatements_2
                refine Par.br (fun _ => ?_) (fun _ => Par.no)
                rw [c2, c3]
                refine Par.br (fun hk0 => ?_) (fun hk0 => ?_)
                · refine Par.bd (E_X2_valueOf K hK z LL sv w pk (cod D i') s'.1 c4 (c9 (by rw [hk0]; decide)) hO'.1 hS'.1.2) (fun o ho => ?_)
                  refine Par.bd (E_X2_assign K hK _ _ _) (fun p hp2 => ?_)
                  have hv := hV i' s'.1 hO'.1
                  have hst : stR D M N wo (exC D M N wo) i' s' = (upd s'.1 (tcC D i') (vlE (cod D i') s'.1), s'.2.1 + 1, s'.2.2) := by unfold stR; rw [if_neg hp, if_pos hk0]
                  refine four q _ _ _ _ _ _ (upd s'.1 (tcC D i') (vlE (cod D i') s'.1), s'.2.1 + 1, s'.2.2) (by omega) ⟨vl3_upd hO'.1 hv, hO1.2⟩ ⟨?_, hst1, hS'.2.2⟩ hst
                  rw [hp2, (c8 hk0).2, ho]
                  exact hS'.1.asg (c8 hk0).1 hv
                · refine Par.br (fun hk1 => ?_) (fun hk1 => ?_)
                  · refine Par.bd (E_X2_valueOf K hK z LL sv w pk (cod D i') s'.1 c4 (c9 (by rw [hk1]; decide)) hO'.1 hS'.1.2) (fun o ho => ?_)
                    refine Par.bd (E_X2_putOut K hK o (nf D i') cm fn fl s'.2.2 hS'.2.2.1 (by have := hO'.2.1; have := hO'.2.2; omega) hS'.2.2.2) (fun p hp2 => ?_)
                    have hst : stR D M N wo (exC D M N wo) i' s' = (s'.1, s'.2.1 + 1, s'.2.2 ++ [(vlE (cod D i') s'.1, nf D i')]) := by unfold stR; rw [if_neg hp, if_neg hk0, if_pos hk1]
                    rw [ho] at hp2
                    refine four q _ _ _ _ _ _ (s'.1, s'.2.1 + 1, s'.2.2 ++ [(vlE (cod D i') s'.1, nf D i')]) (by omega) ⟨hO'.1, hO1.2.1, ?_⟩ ⟨hS'.1, hst1, hp2⟩ hst
                    show (s'.2.2 ++ [_]).length ≤ s'.2.1 + 1
                    rw [List.length_append]
                    have := hO'.2.2
                    simp only [List.length_cons, List.length_nil]
                    omega
                  · refine Par.br (fun hk2 => ?_) (fun hk2 => ?_)
                    · refine Par.bd (E_X2_valueOf K hK z LL sv w pk (cod D i') s'.1 c4 (c9 (by rw [hk2]; decide)) hO'.1 hS'.1.2) (fun o ho => ?_)
                      obtain ⟨g1, g2, g3, g4, g5⟩ := hN.g2 hil hk2
                      have hEn : EnD D N i' = N i' := En_bk (Or.inl hk2)
                      have c7' := c5 hk2
                      refine Par.br (fun h0 => ?_) (fun h0 => ?_)
                      · have hst : stR D M N wo (exC D M N wo) i' s' = exC D M N wo (M i') (N i') (s'.1, s'.2.1 + 1, s'.2.2) := by
                          unfold stR
                          rw [if_neg hp, if_neg hk0, if_neg hk1, if_pos hk2, if_pos (by rw [← ho]; exact h0)]
                        refine Par.bd (blk (M i') (N i') _ _ w (st + 1) cm fn fl _ (Or.inl hk2) c7' (by rw [c6, hEn]) g4 g2 (by omega) (by omega) hO1 hS1) (fun r hr => ?_)
                        exact four q _ _ _ _ _ _ _ (by omega) (exC_ok hV _ _ _ hO1) hr hst
                      · have hst : stR D M N wo (exC D M N wo) i' s' = exC D M N wo (i' + 1) (M i') (s'.1, s'.2.1 + 1, s'.2.2) := by
                          unfold stR
                          rw [if_neg hp, if_neg hk0, if_neg hk1, if_pos hk2, if_neg (by rw [← ho]; exact h0)]
                        refine Par.bd (blk (i' + 1) (M i') _ _ w (st + 1) cm fn fl _ (Or.inl hk2) (ad1 l6 i' h6 (by omega)) c7' g3 g1 (by omega) (by omega) hO1 hS1) (fun r hr => ?_)
                        exact four q _ _ _ _ _ _ _ (by omega) (exC_ok hV _ _ _ hO1) hr hst
                    · have hk3 : kf D i' = 3 := by
                        rcases hN.k4 i' with h | h | h | h
                        · exact absurd h hk0
                        · exact absurd h hk1
                        · exact absurd h hk2
                        · exact h
                      have hEn : EnD D N i' = N i' := En_bk (Or.inr hk3)
                      have hst : stR D M N wo (exC D M N wo) i' s' = itR (exC D M N wo (i' + 1) (N i')) (nf D i').toInt.toNat (s'.1, s'.2.1 + 1, s'.2.2) := by
                        unfold stR
                        rw [if_neg hp, if_neg hk0, if_neg hk1, if_neg hk2]
                      have three : ∀ (m k : Nat) (l8 w st cm : Int32) (fn fl : Nat → Int32) (s2 : RSt), m < q + 1 → l8.toInt = (k : Int) → k ≤ 2147483647 → OkS s2 → RlC s2 w st cm fn fl → stR D M N wo (exC D M N wo) i' s' = itR (exC D M N wo (i' + 1) (N i')) ((nf D i').toInt.toNat - k) s2 → Par (L_X2_doStatements K (DD_doSt K d) m 3 l2 l3 wo l5 l6 z l8 LL sv w st cm fn fl pg pk) (RlT (exC D M N wo i t s)) := by
                        intro m
                        induction m using Nat.strongRecOn with
                        | _ m ih3 =>
                        intro k l8 w st cm fn fl s2 hm h8 hk9 hO2 hS2 he2
                        cases m with
                        | zero => exact Par.no
                        | succ m =>
                          rw [L_X2_doStatements_e3]; unfold B_X2_doStatements_3
                          refine Par.br (fun _ => ?_) (fun _ => Par.no)
                          rw [c3]
                          refine Par.br (fun h => ?_) (fun h => ?_)
                          · rw [Int32.le_iff_toInt_le, h8] at h
                            have e0 : (nf D i').toInt.toNat - k = 0 := by omega
                            rw [e0] at he2
                            exact four m _ _ _ _ _ _ s2 (by omega) hO2 hS2 he2
                          · rw [Int32.le_iff_toInt_le, h8] at h
                            have hr := i32r (nf D i')
                            obtain ⟨u, hu⟩ : ∃ u, (nf D i').toInt.toNat - k = u + 1 := ⟨(nf D i').toInt.toNat - k - 1, by omega⟩
                            rw [hu] at he2
                            have g1 := hN.g1 hil (Or.inr hk3)
                            refine Par.bd (blk (i' + 1) (N i') _ _ w st cm fn fl s2 (Or.inr hk3) (ad1 l6 i' h6 (by omega)) (by rw [c6, hEn]) (by omega) g1 (by omega) (by omega) hO2 hS2) (fun r hr9 => ?_)
                            refine ih3 m (by omega) (k + 1) (l8 + 1) _ _ _ _ _ _ (by omega) ?_ (by omega) (exC_ok hV _ _ _ hO2) hr9 ?_
                            · rw [Int32.toInt_add, h8]
                              simp only [Int32.reduceToInt]
                              rw [bmI (by omega) (by omega)]; omega
                            · have : (nf D i').toInt.toNat - (k + 1) = u := by omega
                              rw [he2, this]; rfl
                      exact three q 0 0 _ _ _ _ _ _ (by omega) rfl (by omega) hO1 hS1 (by rw [Nat.sub_zero]; exact hst)
            rw [c2]
            refine Par.br (fun hk1 => ?_) (fun hk1 => two n 0 (by omega) (fun h => hk1 h.1))
            have h2 := c7 hk1
            rw [h2]
            refine Par.br (fun hb => two n 0 (by omega) (fun h => h.2 hb)) (fun hb => ?_)
            refine four n _ _ _ _ _ _ s' (by omega) hO' hS' ?_
            unfold stR
            rw [if_pos ⟨hk1, hb⟩]
    obtain ⟨n, hn⟩ : ∃ n9, K = n9 + 1 := ⟨K - 1, by omega⟩
    generalize hz : L_X2_doStatements K (DD_doSt K d) K 0 l2 l3 wo l5 0 0 0 LL sv w st cm fn fl pg pk = z
    have hz2 : z = L_X2_doStatements K (DD_doSt K d) (n + 1) 0 l2 l3 wo l5 0 0 0 LL sv w st cm fn fl pg pk := by rw [← hn, hz]
    rw [hz2, L_X2_doStatements_e0]; unfold B_X2_doStatements_0
    refine Par.yes (by rw [Int32.le_iff_toInt_le]; simp only [Int32.reduceToInt]; omega) ?_
    exact key n i l2 0 0 w st cm fn fl s h2 (Nat.le_refl _) hit hO hS rfl
theorem E_X2_execute (K : Nat) (hK : 1000000000 ≤ K) (l2 wo : Int32) (LL : List Nat) (sv : Nat → Nat → Int32) (a1 a2 a3 : Int32) (fn fl : Nat → Int32) (sz : Int32) (pg : Nat → Option Nat) (pk : Nat → Int32) (D : List SRc) (M N dp : Nat → Nat) (hs : sz.toInt = (D.length : Int)) (hD : D.length ≤ 30) (hC : CRw pg sv pk D M N) (hN : NsT D M N dp) (hV : VlD D) (g : Nat → Int32) (hg : vl3 g) (hw : PkW l2 g) : Par (F_X2_execute K l2 wo LL sv a1 a2 a3 fn fl sz pg pk) (fun r => RlT (exC D M N wo 0 D.length (g, 0, [])) r) := by
  unfold F_X2_execute
  obtain ⟨n, rfl⟩ : ∃ n9, K = n9 + 1 := ⟨K - 1, by omega⟩
  rw [L_X2_execute_e0]; unfold B_X2_execute_0
  refine Par.bd (E_X2_doSt _ hK LL sv pg pk D M N dp wo hD hC hN hV 8 0 D.length 0 sz 0 l2 0 0 fn fl (g, 0, []) rfl hs (Nat.zero_le _) ⟨Nat.le_refl _, fun j _ hj => (hN.1 j hj).2.1⟩ ⟨by decide, by decide, fun j _ _ => ?_⟩ ⟨hg, Nat.zero_le _, Nat.le_refl _⟩ ⟨hw, rfl, rfl, fun k x _ hx => by simp at hx⟩) (fun r hr => Par.ret hr)
  have : (0 : Int32).toInt = 0 := by decide
  omega
