/-! p3: a stream with a wrong token is refused -/
theorem sum_nw (k v : Nat → Int32) : ∀ (n : Nat) (w : Bool) (S : List Int32) (o : Int) (lv j : Nat) (out : List Int32) (j' : Nat) (e : List Int32), sumBq k v n (w, S, o, lv, j, out) = some (some (j', e)) → j ≤ j' ∧ ∀ i : Nat, j ≤ i → i < j' → k i ≠ 1 := by
  intro n
  induction n with
  | zero => intro w S o lv j out j' e h; cases h
  | succ n ih =>
    intro w S o lv j out j' e h
    have step : k j ≠ 1 → (∃ (w2 : Bool) (S2 : List Int32) (o2 : Int) (lv2 : Nat) (out2 : List Int32), sumBq k v n (w2, S2, o2, lv2, j + 1, out2) = some (some (j', e))) → j ≤ j' ∧ ∀ i : Nat, j ≤ i → i < j' → k i ≠ 1 := by
      rintro hk ⟨w2, S2, o2, lv2, out2, h2⟩
      obtain ⟨a, b⟩ := ih _ _ _ _ _ _ _ _ h2
      refine ⟨by omega, fun i h1 h3 => ?_⟩
      by_cases hi : i = j
      · rw [hi]; exact hk
      · exact b i (by omega) h3
    rw [sumBq] at h
    cases w with
    | true =>
      rw [if_pos rfl] at h
      by_cases c1 : (k j = 33 ∨ k j = 40) ∧ o < 8
      · rw [if_pos c1] at h
        exact step (by rcases c1.1 with c | c <;> rw [c] <;> decide) ⟨_, _, _, _, _, h⟩
      · rw [if_neg c1] at h
        by_cases c2 : (k j = 2 ∨ (k j = 3 ∧ v j < 4)) ∧ lv < 24
        · rw [if_pos c2] at h
          exact step (by rcases c2.1 with c | ⟨c, _⟩ <;> rw [c] <;> decide) ⟨_, _, _, _, _, h⟩
        · rw [if_neg c2] at h; cases h
    | false =>
      rw [if_neg (by decide)] at h
      by_cases c1 : 1 < clo (k j) ∨ (clo (k j) = 1 ∧ mayC S = true)
      · rw [if_pos c1] at h
        refine step (fun hk => ?_) ⟨_, _, _, _, _, h⟩
        rw [hk, clo1] at c1
        rcases c1 with c | ⟨c, _⟩ <;> omega
      · rw [if_neg c1] at h
        by_cases c2 : k j = 41 ∧ hasO S = true
        · rw [if_pos c2] at h
          exact step (by rw [c2.1]; decide) ⟨_, _, _, _, _, h⟩
        · rw [if_neg c2] at h
          by_cases c3 : hasO S = true
          · rw [if_pos c3] at h; cases h
          · rw [if_neg c3] at h
            have := Option.some.inj (Option.some.inj h)
            have hj : j = j' := congrArg Prod.fst this
            subst hj
            exact ⟨Nat.le_refl _, fun i h1 h2 => by omega⟩
theorem smT_nw {k v : Nat → Int32} {n j : Nat} {f : Nat → List Int32 → TRs} {r : TRt} (h : smT k v n j f = some (some r)) : ∃ (j1 : Nat) (e : List Int32), j ≤ j1 ∧ (∀ i : Nat, j ≤ i → i < j1 → k i ≠ 1) ∧ f j1 e = some (some r) := by
  unfold smT at h
  cases hs : sumBq k v n (true, [], 0, 0, j, []) with
  | none => rw [hs] at h; cases h
  | some x =>
    cases x with
    | none => rw [hs] at h; cases h
    | some y =>
      rw [hs] at h
      obtain ⟨j1, e⟩ := y
      obtain ⟨a, b⟩ := sum_nw k v n _ _ _ _ _ _ _ _ hs
      exact ⟨j1, e, a, b, h⟩
theorem st_nw (k v : Nat → Int32) : ∀ (n : Nat) (D : List SRc) (M N : Nat → Nat) (S : List (Nat × Bool)) (j : Nat) (D' : List SRc) (M' N' : Nat → Nat) (j' : Nat), stB k v n (D, M, N, S, j) = some (some (D', M', N', j')) → j ≤ j' ∧ k j' = 0 ∧ ∀ i : Nat, j ≤ i → i < j' → k i ≠ 1 := by
  intro n
  induction n with
  | zero => intro D M N S j D' M' N' j' h; cases h
  | succ n ih =>
    intro D M N S j D' M' N' j' h
    have step : ∀ j1 : Nat, j ≤ j1 → (∀ i : Nat, j ≤ i → i < j1 → k i ≠ 1) → (∃ (D2 : List SRc) (M2 N2 : Nat → Nat) (S2 : List (Nat × Bool)), stB k v n (D2, M2, N2, S2, j1) = some (some (D', M', N', j'))) → j ≤ j' ∧ k j' = 0 ∧ ∀ i : Nat, j ≤ i → i < j' → k i ≠ 1 := by
      rintro j1 h1 h2 ⟨D2, M2, N2, S2, h3⟩
      obtain ⟨a, b, c⟩ := ih _ _ _ _ _ _ _ _ _ h3
      refine ⟨by omega, b, fun i h4 h5 => ?_⟩
      by_cases hi : i < j1
      · exact h2 i h4 hi
      · exact c i (by omega) h5
    have two : ∀ (a b : Nat), k j ≠ 1 → k (j + 1) ≠ 1 → ∀ i : Nat, j ≤ i → i < j + 2 → k i ≠ 1 := by
      intro _ _ h1 h2 i h3 h4
      by_cases hi : i = j
      · rw [hi]; exact h1
      · have : i = j + 1 := by omega
        rw [this]; exact h2
    have three : k j ≠ 1 → k (j + 1) ≠ 1 → k (j + 2) ≠ 1 → ∀ i : Nat, j ≤ i → i < j + 3 → k i ≠ 1 := by
      intro h1 h2 h5 i h3 h4
      by_cases hi : i = j
      · rw [hi]; exact h1
      · by_cases hi2 : i = j + 1
        · rw [hi2]; exact h2
        · have : i = j + 2 := by omega
          rw [this]; exact h5
    rw [stB] at h
    by_cases hb : k j = 2 ∨ k j = 4 ∨ k j = 5 ∨ k j = 7
    · rw [if_pos hb] at h
      have hk1 : k j ≠ 1 := by rcases hb with c | c | c | c <;> rw [c] <;> decide
      by_cases hd : D.length < 30
      · rw [if_pos hd] at h
        by_cases c2 : k j = 2
        · rw [if_pos c2] at h
          by_cases c3 : k (j + 1) = 61
          · rw [if_pos c3] at h
            obtain ⟨j1, e, a, b, c⟩ := smT_nw h
            by_cases c4 : k j1 = 59
            · simp only [if_pos c4] at c
              refine step (j1 + 1) (by omega) (fun i h1 h2 => ?_) ⟨_, _, _, _, c⟩
              by_cases hi : i < j + 2
              · exact two 0 0 hk1 (by rw [c3]; decide) i h1 hi
              · by_cases hi2 : i = j1
                · rw [hi2, c4]; decide
                · exact b i (by omega) (by omega)
            · simp only [if_neg c4] at c; cases c
          · rw [if_neg c3] at h; cases h
        · rw [if_neg c2] at h
          by_cases c4 : k j = 4
          · rw [if_pos c4] at h
            by_cases c3 : k (j + 1) = 3 ∧ v (j + 1) ≤ 3
            · rw [if_pos c3] at h
              obtain ⟨j1, e, a, b, c⟩ := smT_nw h
              by_cases c5 : k j1 = 59
              · simp only [if_pos c5] at c
                refine step (j1 + 1) (by omega) (fun i h1 h2 => ?_) ⟨_, _, _, _, c⟩
                by_cases hi : i < j + 2
                · exact two 0 0 hk1 (by rw [c3.1]; decide) i h1 hi
                · by_cases hi2 : i = j1
                  · rw [hi2, c5]; decide
                  · exact b i (by omega) (by omega)
              · simp only [if_neg c5] at c; cases c
            · rw [if_neg c3] at h; cases h
          · rw [if_neg c4] at h
            by_cases c5 : k j = 5
            · rw [if_pos c5] at h
              obtain ⟨j1, e, a, b, c⟩ := smT_nw h
              by_cases c6 : k j1 = 123 ∧ S.length < 6
              · simp only [if_pos c6] at c
                refine step (j1 + 1) (by omega) (fun i h1 h2 => ?_) ⟨_, _, _, _, c⟩
                by_cases hi : i = j
                · rw [hi]; exact hk1
                · by_cases hi2 : i = j1
                  · rw [hi2, c6.1]; decide
                  · exact b i (by omega) (by omega)
              · simp only [if_neg c6] at c; cases c
            · rw [if_neg c5] at h
              by_cases c3 : k (j + 1) = 3 ∧ v (j + 1) ≤ 8
              · rw [if_pos c3] at h
                by_cases c6 : k (j + 2) = 123 ∧ S.length < 6
                · rw [if_pos c6] at h
                  exact step (j + 3) (by omega) (three hk1 (by rw [c3.1]; decide) (by rw [c6.1]; decide)) ⟨_, _, _, _, h⟩
                · rw [if_neg c6] at h; cases h
              · rw [if_neg c3] at h; cases h
      · rw [if_neg hd] at h; cases h
    · rw [if_neg hb] at h
      cases S with
      | nil =>
        simp only [stC] at h
        by_cases c0 : k j = 0
        · rw [if_pos c0] at h
          have := Option.some.inj (Option.some.inj h)
          have hj : j = j' := congrArg (fun z : TRt => z.2.2.2) this
          subst hj
          exact ⟨Nat.le_refl _, c0, fun i h1 h2 => by omega⟩
        · rw [if_neg c0] at h; cases h
      | cons x S =>
        obtain ⟨i0, b0⟩ := x
        simp only [stC] at h
        by_cases c0 : k j = 125
        · rw [if_pos c0] at h
          have hk1 : k j ≠ 1 := by rw [c0]; decide
          by_cases c1 : b0 = false ∧ kdO D i0 = some 2 ∧ k (j + 1) = 6
          · rw [if_pos c1] at h
            by_cases c2 : k (j + 2) = 123
            · rw [if_pos c2] at h
              exact step (j + 3) (by omega) (three hk1 (by rw [c1.2.2]; decide) (by rw [c2]; decide)) ⟨_, _, _, _, h⟩
            · rw [if_neg c2] at h; cases h
          · rw [if_neg c1] at h
            refine step (j + 1) (by omega) (fun i h1 h2 => ?_) ⟨_, _, _, _, h⟩
            have : i = j := by omega
            rw [this]; exact hk1
        · rw [if_neg c0] at h; cases h
theorem st_bad {E : Nat} {k v : Nat → Int32} (hS : STR2 E k v) {i : Nat} (hi : i < E) (h1 : k i = 1) (M N : Nat → Nat) (r : TRt) : ¬ Hl2 k v ([], M, N, [], 0) r := by
  rintro ⟨m, hm⟩
  obtain ⟨D', M', N', j'⟩ := r
  obtain ⟨_, a, b⟩ := st_nw k v _ _ _ _ _ _ _ _ _ _ (hm 0)
  by_cases hj : i < j'
  · exact b i (Nat.zero_le _) hj h1
  · exact hS.2.2.1 j' (by omega) a
/-! the class's token and the reference's at the same place -/
theorem WRun.uniq {P : Int32 → Prop} {L : Nat} {tx : Nat → Int32} {s q p : Nat} (h1 : WRun P L tx s q) (h2 : WRun P L tx s p) : q = p := by
  obtain ⟨a1, a2, a3, a4⟩ := h1
  obtain ⟨b1, b2, b3, b4⟩ := h2
  rcases Nat.lt_trichotomy q p with h | h | h
  · exact absurd (b3 q (by omega) h) (a4 (by omega))
  · exact h
  · exact absurd (a3 p (by omega) h) (b4 (by omega))
theorem lw_up {b : Int32} (h1 : isLw b) (h2 : isUp b) : False := by
  have := h1.1
  have := h2.2
  omega
theorem fg_lt {b : Int32} (h1 : isFg b) (h2 : isLt b) : False := by
  have := h1.2
  have := (isLt_b h2).1
  omega
theorem kR_rtq (n : Nat) (w : Int) (v val : Int32) (h1 : n = 1 → 97 ≤ w ∧ w ≤ 122) (h2 : kOf n w = 2 → val = v) : Rtq (kOf n w) v (tokR n w) val := by
  unfold kOf at h2 ⊢
  unfold tokR
  by_cases h4 : 4 < n
  · rw [if_neg (by omega), if_neg (by omega), if_pos h4]
    exact Or.inr (Or.inl ⟨rfl, rfl⟩)
  · rw [if_neg h4]
    by_cases ha : n = 1 ∧ 97 ≤ w ∧ w < 103
    · rw [if_pos ha] at h2 ⊢
      rw [if_neg (by omega), if_neg (by omega), if_neg (by omega), if_neg (by omega), if_pos ⟨ha.1, by omega⟩]
      exact Or.inr (Or.inr (Or.inl ⟨rfl, rfl, h2 rfl⟩))
    · rw [if_neg ha, if_pos (by omega)]
      have hn5 : ¬ (n = 1 ∧ w < 103) := fun h => by have := h1 h.1; omega
      by_cases c1 : w = 26982
      · rw [if_pos c1, if_neg (by omega), if_pos c1]
        exact Or.inr (Or.inr (Or.inr (Or.inr (Or.inr (Or.inl ⟨rfl, rfl⟩)))))
      · rw [if_neg c1]
        by_cases c2 : w = 7304564
        · rw [if_pos c2, if_pos c2]
          exact Or.inr (Or.inr (Or.inr (Or.inr (Or.inl ⟨rfl, rfl⟩))))
        · rw [if_neg c2, if_neg c2, if_neg c1]
          by_cases c3 : w = 1701606245
          · rw [if_pos c3, if_pos c3]
            exact Or.inr (Or.inr (Or.inr (Or.inr (Or.inr (Or.inr (Or.inl ⟨rfl, rfl⟩))))))
          · rw [if_neg c3, if_neg c3]
            by_cases c4 : w = 1819242352
            · rw [if_pos c4, if_pos c4]
              exact Or.inr (Or.inr (Or.inr (Or.inr (Or.inr (Or.inr (Or.inr (Or.inl ⟨rfl, rfl⟩)))))))
            · rw [if_neg c4, if_neg c4, if_neg hn5]
              exact Or.inr (Or.inl ⟨rfl, rfl⟩)
theorem hv_one (tx : Nat → Int32) (s : Nat) : hv tx s 1 = (tx s).toInt := by simp [hv]
/-- a lower-case word at s -/
theorem tok_lw {L : Nat} {tx : Nat → Int32} {s q : Nat} {r : R4a} {v : Int32} (hW : WRun isLw L tx s q) (hA : AdvP L tx s r) (hv2 : kOf (q - s) (hv tx s (q - s)) = 2 → v.toInt = (tx s).toInt - 97) :
    r.1.toInt = (q : Int) ∧ Rtq (kOf (q - s) (hv tx s (q - s))) v r.2.1 r.2.2.2 ∧ 0 ≤ r.2.2.1.toInt := by
  obtain ⟨hp, hA⟩ := hA
  have hls := hW.2.2.1 s (Nat.le_refl _) hW.1
  have hsq := hW.1
  have hqL := hW.2.1
  rcases hA with ⟨h1, _, _⟩ | ⟨q2, h1, h2, h3, h4⟩ | ⟨q2, h1, h2, h3, h4⟩ | ⟨h1, h2, _⟩
  · omega
  · have hq := h1.uniq hW
    subst hq
    refine ⟨h2, ?_, by omega⟩
    rw [h3]
    refine kR_rtq _ _ v _ (fun hn => ?_) (fun hk => Int32.toInt_inj.mp ?_)
    · rw [hn, hv_one]; exact hls
    · rw [h4, hv2 hk]
  · exact absurd (Or.inl hls) (fun h => fg_lt (h1.2.2.1 s (Nat.le_refl _) h1.1) h)
  · exact absurd hls h2
theorem tok_same {L : Nat} {tx : Nat → Int32} {s q : Nat} {k v : Int32} {r : R4a} (hT : TokC L tx s k v q) (hno : ∀ i : Nat, s ≤ i → i < q → ¬ isUp (tx i)) (hA : AdvP L tx s r) :
    r.1.toInt = (q : Int) ∧ Rtq k v r.2.1 r.2.2.2 ∧ 0 ≤ r.2.2.1.toInt := by
  rcases hT with ⟨h1, h2, h3⟩ | ⟨h1, h2, h3⟩ | ⟨h1, h2, h3, h4, h5, h6, h7⟩
  · have hW : WRun isLw L tx s q := by
      refine ⟨h1.1, h1.2.1, fun i a b => ?_, fun a b => h1.2.2.2 a (Or.inl b)⟩
      rcases h1.2.2.1 i a b with c | c
      · exact c
      · exact absurd c (hno i a b)
    rw [h2]
    refine tok_lw hW hA (fun hk => ?_)
    rcases h3 with ⟨_, h3, _⟩ | ⟨h3, _⟩
    · exact h3
    · rw [h2] at h3; exact absurd hk h3
  · obtain ⟨hp, hA⟩ := hA
    have hfs := h1.2.2.1 s (Nat.le_refl _) h1.1
    have hsq := h1.1
    have hqL := h1.2.1
    rcases hA with ⟨a1, _, _⟩ | ⟨q2, a1, _⟩ | ⟨q2, a1, a2, a3, a4⟩ | ⟨a1, a2, a3, _⟩
    · omega
    · exact absurd (Or.inl (a1.2.2.1 s (Nat.le_refl _) a1.1)) (fun h => fg_lt hfs h)
    · have hq := a1.uniq h1
      subst hq
      refine ⟨a2, ?_, by omega⟩
      rcases h2 with ⟨b1, b2⟩ | ⟨b1, b2⟩
      · rcases a3 with ⟨_, c2⟩ | ⟨c1, _⟩
        · rw [b2, c2]
          exact Or.inr (Or.inr (Or.inr (Or.inl ⟨rfl, rfl, Int32.toInt_inj.mp (by rw [a4, h3])⟩)))
        · exact absurd b1 c1
      · rcases a3 with ⟨c1, _⟩ | ⟨_, c2⟩
        · exact absurd c1 b1
        · rw [b2, c2]
          exact Or.inr (Or.inl ⟨rfl, rfl⟩)
    · exact absurd hfs a3
  · obtain ⟨hp, hA⟩ := hA
    rcases hA with ⟨a1, _, _⟩ | ⟨q2, a1, _⟩ | ⟨q2, a1, _⟩ | ⟨a1, a2, a3, a4, a5, a6⟩
    · omega
    · exact absurd (Or.inl (a1.2.2.1 s (Nat.le_refl _) a1.1)) h3
    · exact absurd (a1.2.2.1 s (Nat.le_refl _) a1.1) h4
    · refine ⟨by rw [h2]; exact a4, ?_, by omega⟩
      rcases h6 with ⟨b1, b2⟩ | ⟨b1, b2⟩
      · rcases a5 with ⟨_, c2⟩ | ⟨c1, _⟩
        · rw [b2, c2, a6]
          exact Or.inr (Or.inr (Or.inr (Or.inr (Or.inr (Or.inr (Or.inr (Or.inr ⟨rfl, rfl, b1⟩)))))))
        · exact absurd b1 c1
      · rcases a5 with ⟨c1, _⟩ | ⟨_, c2⟩
        · exact absurd c1 b1
        · rw [b2, c2]
          exact Or.inr (Or.inl ⟨rfl, rfl⟩)
theorem up_sg {b : Int32} (h : isUp b) : ¬ sgq b ∧ ¬ isFg b ∧ ¬ isLw b := by
  obtain ⟨h1, h2⟩ := h
  refine ⟨?_, fun h => ?_, fun h => ?_⟩
  · rintro (h | h | h | h | h | h | h | h | h | h | h | h) <;> rw [h] at h1 h2 <;> revert h1 h2 <;> decide
  · have := h.2; omega
  · have := h.1; omega
/-- the reference at an upper-case letter -/
theorem tok_up {L : Nat} {tx : Nat → Int32} {s : Nat} {r : R4a} (hu : isUp (tx s)) (hsL : s < L) (hA : AdvP L tx s r) : r.1.toInt = ((s + 1 : Nat) : Int) ∧ r.2.1 = 8 ∧ 0 ≤ r.2.2.1.toInt := by
  obtain ⟨hp, hA⟩ := hA
  obtain ⟨u1, u2, u3⟩ := up_sg hu
  rcases hA with ⟨a1, _, _⟩ | ⟨q2, a1, _⟩ | ⟨q2, a1, _⟩ | ⟨a1, a2, a3, a4, a5, a6⟩
  · omega
  · exact absurd (a1.2.2.1 s (Nat.le_refl _) a1.1) u3
  · exact absurd (a1.2.2.1 s (Nat.le_refl _) a1.1) u2
  · rcases a5 with ⟨c1, _⟩ | ⟨_, c2⟩
    · exact absurd c1 u1
    · exact ⟨a4, c2, by omega⟩
theorem kOf_no (n : Nat) (w : Int) (h0 : ¬ (n = 1 ∧ 97 ≤ w ∧ w < 103)) (h1 : w ≠ 26982) (h2 : w ≠ 7304564) (h3 : w ≠ 1701606245) (h4 : w ≠ 1819242352) : kOf n w = 1 := by
  unfold kOf
  rw [if_neg h0, if_neg h1, if_neg h2, if_neg h3, if_neg h4]
  split <;> rfl
theorem up_k1 {L : Nat} {tx : Nat → Int32} {s q i : Nat} (hW : WRun isLt L tx s q) (hi : s ≤ i) (hiq : i < q) (hu : isUp (tx i)) : kOf (q - s) (hv tx s (q - s)) = 1 := by
  have hb : ∀ d : Nat, d < q - s → 65 ≤ (tx (s + d)).toInt ∧ (tx (s + d)).toInt ≤ 122 := fun d hd => isLt_b (hW.2.2.1 (s + d) (by omega) (by omega))
  obtain ⟨d, hd⟩ : ∃ d, i = s + d := ⟨i - s, by omega⟩
  subst hd
  have hud : (tx (s + d)).toInt ≤ 90 := hu.2
  have hdq : d < q - s := by omega
  generalize q - s = n at hb hdq ⊢
  by_cases h4 : n ≤ 4
  · have hc : n = 1 ∨ n = 2 ∨ n = 3 ∨ n = 4 := by omega
    have h0 := hb 0 (by omega)
    rcases hc with rfl | rfl | rfl | rfl
    · have hd0 : d = 0 := by omega
      subst hd0
      have e : hv tx s 1 = 256 * 0 + (tx (s + 0)).toInt := rfl
      refine kOf_no _ _ ?_ ?_ ?_ ?_ ?_ <;> rw [e] <;> omega
    · have h1 := hb 1 (by omega)
      have e : hv tx s 2 = 256 * (256 * 0 + (tx (s + 0)).toInt) + (tx (s + 1)).toInt := rfl
      have hd0 : d = 0 ∨ d = 1 := by omega
      rcases hd0 with rfl | rfl <;> refine kOf_no _ _ ?_ ?_ ?_ ?_ ?_ <;> rw [e] <;> omega
    · have h1 := hb 1 (by omega)
      have h2 := hb 2 (by omega)
      have e : hv tx s 3 = 256 * (256 * (256 * 0 + (tx (s + 0)).toInt) + (tx (s + 1)).toInt) + (tx (s + 2)).toInt := rfl
      have hd0 : d = 0 ∨ d = 1 ∨ d = 2 := by omega
      rcases hd0 with rfl | rfl | rfl <;> refine kOf_no _ _ ?_ ?_ ?_ ?_ ?_ <;> rw [e] <;> omega
    · have h1 := hb 1 (by omega)
      have h2 := hb 2 (by omega)
      have h3 := hb 3 (by omega)
      have e : hv tx s 4 = 256 * (256 * (256 * (256 * 0 + (tx (s + 0)).toInt) + (tx (s + 1)).toInt) + (tx (s + 2)).toInt) + (tx (s + 3)).toInt := rfl
      have hd0 : d = 0 ∨ d = 1 ∨ d = 2 ∨ d = 3 := by omega
      rcases hd0 with rfl | rfl | rfl | rfl <;> refine kOf_no _ _ ?_ ?_ ?_ ?_ ?_ <;> rw [e] <;> omega
  · unfold kOf
    rw [if_neg (by omega), if_neg h4]
theorem run_ex {P : Int32 → Prop} (hdec : ∀ b, P b ∨ ¬ P b) {L : Nat} {tx : Nat → Int32} {s : Nat} (hs : P (tx s)) (hsL : s < L) : ∃ q : Nat, WRun P L tx s q := by
  have key : ∀ (d p : Nat), L - p = d → s < p → p ≤ L → (∀ i : Nat, s ≤ i → i < p → P (tx i)) → ∃ q : Nat, WRun P L tx s q := by
    intro d
    induction d with
    | zero => intro p h1 h2 h3 h4; exact ⟨p, h2, h3, h4, fun h => by omega⟩
    | succ d ih =>
      intro p h1 h2 h3 h4
      rcases hdec (tx p) with h | h
      · refine ih (p + 1) (by omega) (by omega) (by omega) (fun i a b => ?_)
        by_cases hi : i = p
        · rw [hi]; exact h
        · exact h4 i a (by omega)
      · exact ⟨p, h2, h3, h4, fun _ => h⟩
  refine key (L - (s + 1)) (s + 1) rfl (by omega) (by omega) (fun i a b => ?_)
  have : i = s := by omega
  rw [this]; exact hs
