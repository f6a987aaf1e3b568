/-! stop: the fewest outs passed by -/
def onK (s : Nat) : Nat → Nat
  | 0 => 0
  | k + 1 => onK s k + s / 2 ^ k % 2
def onN (s : Nat) : Nat := onK s 8
theorem onK_le (s : Nat) : ∀ k : Nat, onK s k ≤ k := by
  intro k
  induction k with
  | zero => exact Nat.le_refl _
  | succ k ih =>
    have e : onK s (k + 1) = onK s k + s / 2 ^ k % 2 := rfl
    have := Nat.mod_lt (s / 2 ^ k) (show 0 < 2 by omega)
    omega
theorem bc_tab : ∀ (s : Fin 256) (k : Fin 8), ((Int32.ofNat s.val >>> (Int32.ofNat k.val &&& 31)) &&& 1) = Int32.ofNat (s.val / 2 ^ k.val % 2) := by decide +kernel
theorem sh_tab : ∀ k : Fin 9, (1 : Int32) <<< (Int32.ofNat k.val &&& 31) = Int32.ofNat (2 ^ k.val) ∧ 2 ^ k.val ≤ 256 := by decide +kernel
theorem E_m_ones (K : Nat) (hK : 1000000000 ≤ K) (s : Nat) (hs : s < 256) : Par (F_m_ones K (Int32.ofNat s)) (fun r => r.toInt = (onN s : Int)) := by
  have key : ∀ (q k : Nat) (l1 l2 : Int32), l2 = Int32.ofNat k → k ≤ 8 → l1.toInt = (onK s k : Int) → Par (L_m_ones K q 1 (Int32.ofNat s) l1 l2) (fun r => r.toInt = (onN s : Int)) := by
    intro q
    induction q using Nat.strongRecOn with
    | _ q ih =>
    intro k l1 l2 h2 hk h1
    have h2i : l2.toInt = (k : Int) := by rw [h2, ofn_i k (by omega)]
    cases q with
    | zero => exact Par.no
    | succ q =>
      rw [L_m_ones_e1]; unfold B_m_ones_1
      refine Par.br (fun h => Par.ret ?_) (fun h => ?_)
      · rw [Int32.le_iff_toInt_le, h2i] at h
        simp only [Int32.reduceToInt] at h
        have e : k = 8 := by omega
        rw [e] at h1
        exact h1
      · rw [Int32.le_iff_toInt_le, h2i] at h
        simp only [Int32.reduceToInt] at h
        have hk8 : k < 8 := by omega
        have hb := bc_tab ⟨s, hs⟩ ⟨k, hk8⟩
        simp only at hb
        have hm := Nat.mod_lt (s / 2 ^ k) (show 0 < 2 by omega)
        have hle := onK_le s k
        have e : onK s (k + 1) = onK s k + s / 2 ^ k % 2 := rfl
        refine ih q (by omega) (k + 1) _ _ (by rw [h2, of_s k (by omega)]) (by omega) ?_
        rw [h2, hb, Int32.toInt_add, h1, ofn_i _ (by omega), bmI (by omega) (by omega), e]
        omega
  unfold F_m_ones
  obtain ⟨n, rfl⟩ : ∃ n9, K = n9 + 1 := ⟨K - 1, by omega⟩
  rw [L_m_ones_e0]; unfold B_m_ones_0
  exact key n 0 0 0 rfl (Nat.zero_le _) rfl
theorem E_J6_bits (K : Nat) (hK : 1000000000 ≤ K) : ∀ s : Nat, s < 256 → Par (F_J6_bitCount_0f7a4 K (Int32.ofNat s)) (fun r => r = Int32.ofNat (onN s)) := by
  intro s hs
  unfold F_J6_bitCount_0f7a4
  obtain ⟨n, rfl⟩ : ∃ n9, K = n9 + 1 := ⟨K - 1, by omega⟩
  rw [L_J6_bitCount_0f7a4_e0]
  have h : ∀ s : Fin 256, B_J6_bitCount_0f7a4_0 (n + 1) (L_J6_bitCount_0f7a4 (n + 1) n) (Int32.ofNat s.val) = some (Int32.ofNat (onN s.val)) := by
    intro s
    unfold B_J6_bitCount_0f7a4_0
    revert s
    decide +kernel
  rw [h ⟨s, hs⟩]
  exact Par.ret rfl
/-- the least of the smallest safe sets -/
def FewP (P : Nat → Prop) (n s : Nat) : Prop := s < 2 ^ n ∧ P s ∧ ∀ j : Nat, j < 2 ^ n → P j → onN s < onN j ∨ (onN s = onN j ∧ s ≤ j)
theorem FewP_u {P : Nat → Prop} {n s s2 : Nat} (h : FewP P n s) (k : FewP P n s2) : s = s2 := by
  have h1 := h.2.2 s2 k.1 k.2.1
  have h2 := k.2.2 s h.1 h.2.1
  omega
def StoP (D : List SRc) (M N : Nat → Nat) (w t : Int32) (bs : List Bool) (n : Nat) (what r : Int32) : Prop := (8 < n ∧ r = -2) ∨ (n ≤ 8 ∧ ((r = -9 ∧ ∀ s : Nat, s < 2 ^ n → ¬ SafX D M N (Int32.ofNat s) w t bs) ∨ ∃ s : Nat, FewP (fun s => SafX D M N (Int32.ofNat s) w t bs) n s ∧ ((what = 0 ∧ r.toInt = (onN s : Int)) ∨ (what = 1 ∧ r = Int32.ofNat s))))
theorem StoP_u {D : List SRc} {M N : Nat → Nat} {w t : Int32} {bs : List Bool} {n : Nat} {what r q : Int32} (h : StoP D M N w t bs n what r) (k : StoP D M N w t bs n what q) : r = q := by
  rcases h with ⟨h1, h2⟩ | ⟨h1, h⟩
  · rcases k with ⟨k1, k2⟩ | ⟨k1, _⟩
    · rw [h2, k2]
    · exact absurd h1 (by omega)
  · rcases k with ⟨k1, _⟩ | ⟨_, k⟩
    · exact absurd k1 (by omega)
    · rcases h with ⟨a1, a2⟩ | ⟨s, a1, a2⟩
      · rcases k with ⟨b1, _⟩ | ⟨s2, b1, _⟩
        · rw [a1, b1]
        · exact absurd b1.2.1 (a2 s2 b1.1)
      · rcases k with ⟨_, b2⟩ | ⟨s2, b1, b2⟩
        · exact absurd a1.2.1 (b2 s a1.1)
        · have e := FewP_u a1 b1
          subst e
          rcases a2 with ⟨x1, x2⟩ | ⟨x1, x2⟩
          · rcases b2 with ⟨y1, y2⟩ | ⟨y1, y2⟩
            · exact ofI_u x2 y2
            · exact absurd (x1.symm.trans y1) (by decide)
          · rcases b2 with ⟨y1, y2⟩ | ⟨y1, y2⟩
            · exact absurd (y1.symm.trans x1) (by decide)
            · rw [x2, y2]
/-- the best of the sets from s on -/
def BsS (P : Nat → Prop) (n s b : Nat) : Prop := s ≤ b ∧ b < 2 ^ n ∧ P b ∧ ∀ j : Nat, s ≤ j → j < 2 ^ n → P j → onN b < onN j ∨ (onN b = onN j ∧ b ≤ j)
theorem BsS.skip {P : Nat → Prop} {n s b : Nat} (h : BsS P n (s + 1) b) (hs : ¬ P s ∨ onN b < onN s) : BsS P n s b := by
  refine ⟨by have := h.1; omega, h.2.1, h.2.2.1, fun j hj hj2 hp => ?_⟩
  by_cases e : j = s
  · subst e
    rcases hs with c | c
    · exact absurd hp c
    · exact Or.inl c
  · exact h.2.2.2 j (by omega) hj2 hp
theorem BsS.new {P : Nat → Prop} {n s b : Nat} (h : BsS P n (s + 1) b) (hp : P s) (hn : s < 2 ^ n) (hs : onN s ≤ onN b) : BsS P n s s := by
  refine ⟨Nat.le_refl _, hn, hp, fun j hj hj2 hpj => ?_⟩
  by_cases e : j = s
  · subst e
    exact Or.inr ⟨rfl, Nat.le_refl _⟩
  · rcases h.2.2.2 j (by omega) hj2 hpj with c | c
    · exact Or.inl (by omega)
    · rcases Nat.lt_or_ge (onN s) (onN j) with d | d
      · exact Or.inl d
      · exact Or.inr ⟨by omega, by omega⟩
theorem BsS.first {P : Nat → Prop} {n s : Nat} (h : ∀ j : Nat, s + 1 ≤ j → j < 2 ^ n → ¬ P j) (hp : P s) (hn : s < 2 ^ n) : BsS P n s s := by
  refine ⟨Nat.le_refl _, hn, hp, fun j hj hj2 hpj => ?_⟩
  by_cases e : j = s
  · subst e
    exact Or.inr ⟨rfl, Nat.le_refl _⟩
  · exact absurd hpj (h j (by omega) hj2)
theorem of_m (s : Nat) (h : s < 100000) : Int32.ofNat (s + 1) + (-1) = Int32.ofNat s := by
  apply Int32.toInt_inj.mp
  have c1 : (-1 : Int32).toInt = -1 := by decide
  rw [Int32.toInt_add, ofn_i _ (by omega), ofn_i _ (by omega), c1, bmI (by omega) (by omega)]
  omega
set_option maxHeartbeats 4000000 in
theorem E_m_stop (K : Nat) (hK : 1000000000 ≤ K) (w tm l3 th : Int32) (imany a1 a2 ip isec heaps : Int32) (alev astm asm avls abke abko abkl acel atap atpl : Nat → Int32) (sen : Nat → Int64) (hpo hpm bgn chn : Nat → Int32) (sgt : Nat → Int64) (D : List SRc) (M N dp : Nat → Nat) (hs : imany.toInt = (D.length : Int)) (hD : D.length ≤ 30) (hF : FRw astm asm D M N) (hr9 : ∀ i : Nat, i < D.length → ∃ r : SRc, D[i]? = some r ∧ astm (8 * i) = r.1) (hN : NsT D M N dp) (hV : VlD D) (ub : List Bool) (hub : ub.length = 6) (hU : UsD D (fun c => ub[c]? = some true)) : Par (F_m_stop K w tm l3 th imany a1 a2 ip isec heaps alev astm asm avls abke abko abkl acel atap atpl sen hpo hpm bgn chn sgt) (fun r : R20 => (¬ (AsP w tm ∧ (l3 = 0 ∨ l3 = 1)) ∧ r.1 = -1) ∨ ((AsP w tm ∧ (l3 = 0 ∨ l3 = 1)) ∧ StoP D M N w tm (wiL alev w) (cn1 D) l3 r.1)) := by
  unfold F_m_stop
  obtain ⟨n, rfl⟩ : ∃ n9, K = n9 + 1 := ⟨K - 1, by omega⟩
  rw [L_m_stop_e0]; unfold B_m_stop_0
  generalize hQ : (fun r : R20 => (¬ (AsP w tm ∧ (l3 = 0 ∨ l3 = 1)) ∧ r.1 = -1) ∨ ((AsP w tm ∧ (l3 = 0 ∨ l3 = 1)) ∧ StoP D M N w tm (wiL alev w) (cn1 D) l3 r.1)) = Q
  have one : ¬ (AsP w tm ∧ (l3 = 0 ∨ l3 = 1)) → ∀ (l4 l5 l6 s0 th imany a1 a2 ip isec heaps : Int32) (avls abke abko abkl acel atap atpl : Nat → Int32) (sen : Nat → Int64) (hpo hpm bgn chn : Nat → Int32) (sgt : Nat → Int64), Par (L_m_stop (n + 1) n 1 w tm l3 l4 l5 l6 s0 th imany a1 a2 ip isec heaps alev astm asm avls abke abko abkl acel atap atpl sen hpo hpm bgn chn sgt) Q := by
    intro h
    intros
    cases n with
    | zero => exact Par.no
    | succ n => rw [L_m_stop_e1]; unfold B_m_stop_1; rw [← hQ]; exact Par.ret (Or.inl ⟨h, rfl⟩)
  refine Par.bd (E_m_isAsked _ hK w tm) (fun o1 h1 => ?_)
  rcases h1 with ⟨e1, q1⟩ | ⟨e1, q1⟩
  rotate_left
  · refine Par.yes e1 ?_
    apply one
    exact fun h => q1 h.1
  refine Par.not (by rw [e1]; decide) ?_
  refine Par.bd (E_m_in _ hK l3 0 1) (fun o3 h3 => ?_)
  have c0 : (0 : Int32).toInt = 0 := by decide
  have c1 : (1 : Int32).toInt = 1 := by decide
  have c8 : (8 : Int32).toInt = 8 := by decide
  rw [c0, c1] at h3
  rcases h3 with ⟨e3, q3⟩ | ⟨e3, q3⟩
  rotate_left
  · refine Par.yes e3 ?_
    apply one
    exact fun h => q3 ((two_i l3).mpr h.2)
  refine Par.not (by rw [e3]; decide) ?_
  have hall : AsP w tm ∧ (l3 = 0 ∨ l3 = 1) := ⟨q1, (two_i l3).mp q3⟩
  refine Par.bd (E_m_outs _ hK imany astm D hs hD hr9) (fun o4 h4 => ?_)
  refine Par.br (fun hle => ?_) (fun hgt => Par.ret ?_)
  rotate_left
  · rw [Int32.le_iff_toInt_le, h4, c8] at hgt
    rw [← hQ]
    exact Or.inr ⟨hall, Or.inl ⟨by omega, rfl⟩⟩
  rw [Int32.le_iff_toInt_le, h4, c8] at hle
  have hn8 : cn1 D ≤ 8 := by omega
  have ho4 : o4 = Int32.ofNat (cn1 D) := Int32.toInt_inj.mp (by rw [h4, ofn_i _ (by omega)])
  obtain ⟨t1, t2⟩ := sh_tab ⟨cn1 D, by omega⟩
  simp only at t1 t2
  have hp1 : 1 ≤ 2 ^ cn1 D := Nat.pow_pos (by omega)
  have fin : ∀ v : Int32, StoP D M N w tm (wiL alev w) (cn1 D) l3 v → ((¬ (AsP w tm ∧ (l3 = 0 ∨ l3 = 1)) ∧ v = -1) ∨ ((AsP w tm ∧ (l3 = 0 ∨ l3 = 1)) ∧ StoP D M N w tm (wiL alev w) (cn1 D) l3 v)) := fun v h => Or.inr ⟨hall, h⟩
  obtain ⟨hO4, _⟩ := p4_le (wiL_len alev w)
  -- sets s, s - 1 .. are still to be tried: l6 = s - 1
  have key : ∀ (q s : Nat) (l4 l5 l6 s0 th a1 a2 ip isec heaps : Int32) (avls abke abko abkl acel atap atpl : Nat → Int32) (sen : Nat → Int64) (hpo hpm bgn chn : Nat → Int32) (sgt : Nat → Int64), s ≤ 2 ^ cn1 D → l6 = Int32.ofNat s + (-1) → ((l5 = -9 ∧ ∀ j : Nat, s ≤ j → j < 2 ^ cn1 D → ¬ SafX D M N (Int32.ofNat j) w tm (wiL alev w)) ∨ ∃ b : Nat, BsS (fun j => SafX D M N (Int32.ofNat j) w tm (wiL alev w)) (cn1 D) s b ∧ l5 = Int32.ofNat b) → Par (L_m_stop (n + 1) q 2 w tm l3 l4 l5 l6 s0 th imany a1 a2 ip isec heaps alev astm asm avls abke abko abkl acel atap atpl sen hpo hpm bgn chn sgt) Q := by
    intro q
    induction q using Nat.strongRecOn with
    | _ q ih =>
    intro s l4 l5 l6 s0 th a1 a2 ip isec heaps avls abke abko abkl acel atap atpl sen hpo hpm bgn chn sgt hsn h6 hb
    have hnb : ∀ b : Nat, b < 1000 → Int32.ofNat b ≠ -9 := by
      intro b hb9 e
      have e9 := congrArg Int32.toInt e
      rw [ofn_i _ (by omega)] at e9
      simp only [Int32.reduceToInt] at e9
      omega
    cases q with
    | zero => exact Par.no
    | succ q =>
      rw [L_m_stop_e2]; unfold B_m_stop_2
      cases s with
      | zero =>
        refine Par.yes (by rw [h6]; decide) ?_
        rcases hb with ⟨h5, hno⟩ | ⟨b, hB, h5⟩
        · refine Par.yes h5 (Par.ret ?_)
          rw [← hQ]
          exact fin _ (Or.inr ⟨hn8, Or.inl ⟨rfl, fun j hj => hno j (Nat.zero_le _) hj⟩⟩)
        · have hb2 := hB.2.1
          have hfew : FewP (fun j => SafX D M N (Int32.ofNat j) w tm (wiL alev w)) (cn1 D) b := ⟨hb2, hB.2.2.1, fun j hj hp => hB.2.2.2 j (Nat.zero_le _) hj hp⟩
          refine Par.not (by rw [h5]; exact hnb b (by omega)) ?_
          refine Par.br (fun h0 => ?_) (fun h0 => Par.ret ?_)
          · rw [h5]
            refine Par.bd (E_m_ones _ hK b (by omega)) (fun v hv => Par.ret ?_)
            rw [← hQ]
            exact fin _ (Or.inr ⟨hn8, Or.inr ⟨b, hfew, Or.inl ⟨h0, hv⟩⟩⟩)
          · rw [← hQ]
            exact fin _ (Or.inr ⟨hn8, Or.inr ⟨b, hfew, Or.inr ⟨hall.2.resolve_left h0, h5⟩⟩⟩)
      | succ s =>
        rw [of_m s (by omega)] at h6
        subst h6
        have hsi : (Int32.ofNat s).toInt = (s : Int) := ofn_i s (by omega)
        refine Par.not (by rw [Int32.lt_iff_toInt_lt, hsi, c0]; omega) ?_
        have five : ∀ (q2 : Nat) (l5 s0 th a1 a2 ip isec heaps : Int32) (avls abke abko abkl acel atap atpl : Nat → Int32) (sen : Nat → Int64) (hpo hpm bgn chn : Nat → Int32) (sgt : Nat → Int64), q2 < q + 1 → ((l5 = -9 ∧ ∀ j : Nat, s ≤ j → j < 2 ^ cn1 D → ¬ SafX D M N (Int32.ofNat j) w tm (wiL alev w)) ∨ ∃ b : Nat, BsS (fun j => SafX D M N (Int32.ofNat j) w tm (wiL alev w)) (cn1 D) s b ∧ l5 = Int32.ofNat b) → Par (L_m_stop (n + 1) q2 5 w tm l3 l4 l5 (Int32.ofNat s) s0 th imany a1 a2 ip isec heaps alev astm asm avls abke abko abkl acel atap atpl sen hpo hpm bgn chn sgt) Q := by
          intro q2 l5 s0 th a1 a2 ip isec heaps avls abke abko abkl acel atap atpl sen hpo hpm bgn chn sgt hq2 hx
          cases q2 with
          | zero => exact Par.no
          | succ q2 =>
            rw [L_m_stop_e5]; unfold B_m_stop_5
            apply ih q2 (by omega) s
            · omega
            · rfl
            · exact hx
        have three : ∀ (q2 : Nat), q2 < q + 1 → (SafX D M N (Int32.ofNat s) w tm (wiL alev w) → BsS (fun j => SafX D M N (Int32.ofNat j) w tm (wiL alev w)) (cn1 D) s s) → (¬ SafX D M N (Int32.ofNat s) w tm (wiL alev w) → ((l5 = -9 ∧ ∀ j : Nat, s ≤ j → j < 2 ^ cn1 D → ¬ SafX D M N (Int32.ofNat j) w tm (wiL alev w)) ∨ ∃ b : Nat, BsS (fun j => SafX D M N (Int32.ofNat j) w tm (wiL alev w)) (cn1 D) s b ∧ l5 = Int32.ofNat b)) → ∀ s0 : Int32, Par (L_m_stop (n + 1) q2 3 w tm l3 l4 l5 (Int32.ofNat s) s0 th imany a1 a2 ip isec heaps alev astm asm avls abke abko abkl acel atap atpl sen hpo hpm bgn chn sgt) Q := by
          intro q2 hq2 hy hn s0
          cases q2 with
          | zero => exact Par.no
          | succ q2 =>
            rw [L_m_stop_e3]; unfold B_m_stop_3
            refine Par.bd (E_m_pairOf _ hK w tm imany a1 a2 (Int32.ofNat s) isec heaps alev astm asm avls abke abko abkl acel atap atpl sen hpo hpm bgn chn sgt D M N dp hs hD hF hN hV (by rw [hsi]; omega) ub hub hU) (fun r hr => ?_)
            have four : ∀ (q3 : Nat) (x th a1 a2 ip isec heaps : Int32) (avls abke abko abkl acel atap atpl : Nat → Int32) (sen : Nat → Int64) (hpo hpm bgn chn : Nat → Int32) (sgt : Nat → Int64), q3 < q2 + 1 → ((x = -9 ∧ ∀ j : Nat, s ≤ j → j < 2 ^ cn1 D → ¬ SafX D M N (Int32.ofNat j) w tm (wiL alev w)) ∨ ∃ b : Nat, BsS (fun j => SafX D M N (Int32.ofNat j) w tm (wiL alev w)) (cn1 D) s b ∧ x = Int32.ofNat b) → Par (L_m_stop (n + 1) q3 4 w tm l3 l4 l5 (Int32.ofNat s) x th imany a1 a2 ip isec heaps alev astm asm avls abke abko abkl acel atap atpl sen hpo hpm bgn chn sgt) Q := by
              intro q3 x th a1 a2 ip isec heaps avls abke abko abkl acel atap atpl sen hpo hpm bgn chn sgt hq3 hx
              cases q3 with
              | zero => exact Par.no
              | succ q3 =>
                rw [L_m_stop_e4]; unfold B_m_stop_4
                apply five q3
                · omega
                · exact hx
            rcases hr with ⟨r1, r2⟩ | ⟨o, r1, r2, _⟩
            · refine Par.yes r1 ?_
              apply four q2
              · omega
              · exact Or.inr ⟨s, hy r2, rfl⟩
            · refine Par.not ?_ ?_
              · rw [r1]
                have := r2.1
                intro e
                have e9 := congrArg Int32.toInt e
                rw [ofn_i _ (by omega)] at e9
                simp only [Int32.reduceToInt] at e9
                omega
              · apply four q2
                · omega
                · exact hn (FstO_ns r2)
        rcases hb with ⟨h5, hno⟩ | ⟨b, hB, h5⟩
        · refine Par.yes h5 ?_
          apply three q (by omega)
          · exact fun hp => BsS.first hno hp (by omega)
          · intro hnp
            refine Or.inl ⟨h5, fun j hj hj2 => ?_⟩
            by_cases e : j = s
            · rw [e]; exact hnp
            · exact hno j (by omega) hj2
        · have hb2 := hB.2.1
          refine Par.not (by rw [h5]; exact hnb b (by omega)) ?_
          refine Par.bd (E_m_ones _ hK s (by omega)) (fun v1 hv1 => ?_)
          rw [h5]
          refine Par.bd (E_m_ones _ hK b (by omega)) (fun v2 hv2 => ?_)
          rw [← h5]
          refine Par.br (fun hlt => ?_) (fun hge => ?_)
          · rw [Int32.lt_iff_toInt_lt, hv1, hv2] at hlt
            apply five q
            · omega
            · exact Or.inr ⟨b, hB.skip (Or.inr (by omega)), h5⟩
          · rw [Int32.lt_iff_toInt_lt, hv1, hv2] at hge
            apply three q (by omega)
            · exact fun hp => hB.new hp (by omega) (by omega)
            · exact fun hnp => Or.inr ⟨b, hB.skip (Or.inl hnp), h5⟩
  rw [ho4, t1]
  refine key n (2 ^ cn1 D) _ (-9) _ _ _ _ _ _ _ _ _ _ _ _ _ _ _ _ _ _ _ _ _ (Nat.le_refl _) ?_ (Or.inl ⟨rfl, fun j hj hj2 => absurd hj2 (by omega)⟩)
  apply Int32.toInt_inj.mp
  have cm : (-1 : Int32).toInt = -1 := by decide
  rw [Int32.toInt_sub, Int32.toInt_add, cm, c1]
  rfl
