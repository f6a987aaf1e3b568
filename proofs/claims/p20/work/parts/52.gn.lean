/-! p3: the class's words, numbers, and the whole cut -/
abbrev R5t : Type := Int32 × Int32 × (Nat → Int32) × (Nat → Int32) × (Nat → Int32)
/-- a token came to the rows -/
def AdP (m : Nat) (fk fv fp : Nat → Int32) (r1 : Int32) (gk gv gp : Nat → Int32) (k v : Int32) (s : Nat) : Prop :=
  r1.toInt = ((m + 1 : Nat) : Int) ∧ gk = upd fk m k ∧ gv = upd fv m v ∧ ∃ z : Int32, z.toInt = (s : Int) ∧ gp = upd fp m z
def TkP (L : Nat) (tx : Nat → Int32) (s m : Nat) (fk fv fp : Nat → Int32) (r : R5t) : Prop :=
  ∃ (q : Nat) (k v : Int32), r.1.toInt = (q : Int) ∧ AdP m fk fv fp r.2.1 r.2.2.1 r.2.2.2.1 r.2.2.2.2 k v s ∧ TokC L tx s k v q
theorem E_X7_takeNumber (K : Nat) (hK : 1000000000 ≤ K) (l2 mn len : Int32) (fk fv fp tx : Nat → Int32) (s m L : Nat) (hs : l2.toInt = (s : Int)) (hm : mn.toInt = (m : Int)) (h3 : m < 301) (hL : len.toInt = (L : Int)) (hL3 : L ≤ 300) (hsL : s < L) (hf : isFg (tx s)) :
    Par (F_X7_takeNumber K l2 mn fk fv fp len tx) (TkP L tx s m fk fv fp) := by
  unfold F_X7_takeNumber
  have h3c : ∀ (n q : Nat) (l3 s0 : Int32), l3.toInt = (q : Int) → WRun isFg L tx s q → ((q = s + 1 ∧ s0 = 3) ∨ (q ≠ s + 1 ∧ s0 = 1)) → Par (L_X7_takeNumber K n 3 l2 l3 s0 mn fk fv fp len tx) (TkP L tx s m fk fv fp) := by
    intro n q l3 s0 hq hW hk
    cases n with
    | zero => exact Par.no
    | succ n =>
      rw [L_X7_takeNumber_e3]; unfold B_X7_takeNumber_3
      refine Par.bd (E_X6_at K hK l2 len tx s L hs hL) (fun b hb => ?_)
      refine Par.bd (E_X7_add K hK s0 (b - 48) l2 mn fk fv fp m hm h3) (fun r hr => ?_)
      refine Par.ret ⟨q, s0, b - 48, hq, ⟨hr.1, hr.2.1, hr.2.2.1, l2, hs, hr.2.2.2⟩, Or.inr (Or.inl ⟨hW, hk, ?_⟩)⟩
      rcases hb with ⟨_, hb⟩ | ⟨h9, _⟩
      · rw [hb]
        obtain ⟨f1, f2⟩ := hf
        simp only [Int32.toInt_sub, Int32.reduceToInt]
        exact bmI (by omega) (by omega)
      · omega
  have h2c : ∀ (n q : Nat) (l3 : Int32), l3.toInt = (q : Int) → WRun isFg L tx s q → Par (L_X7_takeNumber K n 2 l2 l3 0 mn fk fv fp len tx) (TkP L tx s m fk fv fp) := by
    intro n q l3 hq hW
    cases n with
    | zero => exact Par.no
    | succ n =>
      rw [L_X7_takeNumber_e2]; unfold B_X7_takeNumber_2
      have hs1 : (l2 + 1).toInt = ((s + 1 : Nat) : Int) := ad1 l2 s hs (by omega)
      refine Par.br (fun h => h3c n q l3 3 hq hW (Or.inl ⟨?_, rfl⟩)) (fun h => h3c n q l3 1 hq hW (Or.inr ⟨fun h9 => h ?_, rfl⟩))
      · rw [h, hs1] at hq; omega
      · refine Int32.toInt_inj.mp ?_
        rw [hq, hs1, h9]
  have h1c : ∀ (n q : Nat) (l3 : Int32), l3.toInt = (q : Int) → s ≤ q → q ≤ L → (∀ i : Nat, s ≤ i → i < q → isFg (tx i)) → Par (L_X7_takeNumber K n 1 l2 l3 0 mn fk fv fp len tx) (TkP L tx s m fk fv fp) := by
    intro n
    induction n with
    | zero => intros; exact Par.no
    | succ n ih =>
      intro q l3 hq hsq hqL hall
      rw [L_X7_takeNumber_e1]; unfold B_X7_takeNumber_1
      refine Par.br (fun h => ?_) (fun h => ?_)
      · rw [Int32.le_iff_toInt_le, hq, hL] at h
        exact h2c n q l3 hq ⟨by omega, hqL, hall, fun h9 => by omega⟩
      · rw [Int32.le_iff_toInt_le, hq, hL] at h
        refine Par.bd (E_X6_at K hK l3 len tx q L hq hL) (fun b hb => ?_)
        rcases hb with ⟨_, hb⟩ | ⟨h9, _⟩
        case inr => omega
        refine Par.bd (E_X7_isFigure K hK b) (fun z hz => ?_)
        rw [hb] at hz
        rcases hz with ⟨z1, z2⟩ | ⟨z1, z2⟩
        · refine Par.not (by rw [z1]; decide) ?_
          refine ih (q + 1) (l3 + 1) (ad1 l3 q hq (by omega)) (by omega) (by omega) (fun i h1 h2 => ?_)
          by_cases hi : i = q
          · rw [hi]; exact z2
          · exact hall i h1 (by omega)
        · refine Par.yes z1 ?_
          refine h2c n q l3 hq ⟨?_, hqL, hall, fun _ => z2⟩
          by_cases hi : s = q
          · exfalso; rw [← hi] at z2; exact z2 hf
          · omega
  obtain ⟨n, hn⟩ : ∃ n9, K = n9 + 1 := ⟨K - 1, by omega⟩
  generalize hz : L_X7_takeNumber K K 0 l2 0 0 mn fk fv fp len tx = z
  have hz2 : z = L_X7_takeNumber K (n + 1) 0 l2 0 0 mn fk fv fp len tx := by rw [← hn, hz]
  rw [hz2, L_X7_takeNumber_e0]; unfold B_X7_takeNumber_0
  exact h1c n s l2 hs (Nat.le_refl _) (by omega) (fun i h1 h2 => by omega)
theorem isLt_b {b : Int32} (h : isLt b) : 65 ≤ b.toInt ∧ b.toInt ≤ 122 := by
  rcases h with ⟨a, c⟩ | ⟨a, c⟩ <;> omega
theorem hv_b {tx : Nat → Int32} {s : Nat} : ∀ n : Nat, n ≤ 3 → (∀ i : Nat, s ≤ i → i < s + n → isLt (tx i)) → 0 ≤ hv tx s n ∧ hv tx s n < 8388608 := by
  intro n hn hall
  have hb : ∀ i : Nat, i < n → 65 ≤ (tx (s + i)).toInt ∧ (tx (s + i)).toInt ≤ 122 := fun i hi => isLt_b (hall (s + i) (by omega) (by omega))
  match n, hn, hb with
  | 0, _, _ => simp [hv]
  | 1, _, hb => have h0 := hb 0 (by omega); simp only [hv]; omega
  | 2, _, hb => have h0 := hb 0 (by omega); have h1 := hb 1 (by omega); simp only [hv]; omega
  | 3, _, hb => have h0 := hb 0 (by omega); have h1 := hb 1 (by omega); have h2 := hb 2 (by omega); simp only [hv]; omega
theorem E_X7_takeWord (K : Nat) (hK : 1000000000 ≤ K) (l2 mn len : Int32) (fk fv fp tx : Nat → Int32) (s m L : Nat) (hs : l2.toInt = (s : Int)) (hm : mn.toInt = (m : Int)) (h3 : m < 301) (hL : len.toInt = (L : Int)) (hL3 : L ≤ 300) (hsL : s < L) (hf : isLt (tx s)) :
    Par (F_X7_takeWord K l2 mn fk fv fp len tx) (TkP L tx s m fk fv fp) := by
  unfold F_X7_takeWord
  have h5c : ∀ (n q : Nat) (l3 l4 : Int32) (r1 : Int32) (gk gv gp : Nat → Int32) (k v : Int32), l3.toInt = (q : Int) → AdP m fk fv fp r1 gk gv gp k v s → TokC L tx s k v q → Par (L_X7_takeWord K n 5 l2 l3 l4 0 r1 gk gv gp len tx) (TkP L tx s m fk fv fp) := by
    intro n q l3 l4 r1 gk gv gp k v hq hA hT
    cases n with
    | zero => exact Par.no
    | succ n =>
      rw [L_X7_takeWord_e5]; unfold B_X7_takeWord_5
      exact Par.ret ⟨q, k, v, hq, hA, hT⟩
  have h4c : ∀ (n q : Nat) (l3 l4 s0 : Int32), l3.toInt = (q : Int) → WRun isLt L tx s q → s0 = kOf (q - s) (hv tx s (q - s)) → s0 ≠ 2 → Par (L_X7_takeWord K n 4 l2 l3 l4 s0 mn fk fv fp len tx) (TkP L tx s m fk fv fp) := by
    intro n q l3 l4 s0 hq hW hk hk2
    cases n with
    | zero => exact Par.no
    | succ n =>
      rw [L_X7_takeWord_e4]; unfold B_X7_takeWord_4
      refine Par.bd (E_X7_add K hK s0 0 l2 mn fk fv fp m hm h3) (fun r hr => ?_)
      exact h5c n q l3 l4 _ _ _ _ s0 0 hq ⟨hr.1, hr.2.1, hr.2.2.1, l2, hs, hr.2.2.2⟩ (Or.inl ⟨hW, hk, Or.inr ⟨hk2, rfl⟩⟩)
  have h3c : ∀ (n q : Nat) (l3 l4 : Int32), l3.toInt = (q : Int) → WRun isLt L tx s q → (q - s ≤ 4 → l4.toInt = hv tx s (q - s)) → ¬ (q - s = 1 ∧ 97 ≤ l4.toInt ∧ l4.toInt < 103) → Par (L_X7_takeWord K n 3 l2 l3 l4 0 mn fk fv fp len tx) (TkP L tx s m fk fv fp) := by
    intro n q l3 l4 hq hW hl4 hno
    have hd : (l3 - l2).toInt = (q : Int) - (s : Int) := by
      rw [Int32.toInt_sub, hq, hs]
      exact bmI (by have := hW.1; omega) (by have := hW.2.1; omega)
    have hW1 := hW.1
    cases n with
    | zero => exact Par.no
    | succ n =>
      rw [L_X7_takeWord_e3]; unfold B_X7_takeWord_3
      refine Par.br (fun h => ?_) (fun h => ?_)
      · rw [Int32.le_iff_toInt_le, hd] at h
        simp only [Int32.reduceToInt] at h
        have h4 : q - s ≤ 4 := by omega
        refine Par.bd (E_X7_wordKind K hK l4 (q - s) h4 hno) (fun z hz => ?_)
        refine h4c n q l3 l4 z hq hW (by rw [hz, hl4 h4]) ?_
        rw [hz]
        unfold kOf
        rw [if_neg hno, if_pos h4]
        split
        · decide
        · split
          · decide
          · split
            · decide
            · split <;> decide
      · rw [Int32.le_iff_toInt_le, hd] at h
        simp only [Int32.reduceToInt] at h
        refine h4c n q l3 l4 1 hq hW ?_ (by decide)
        unfold kOf
        rw [if_neg (fun h9 => by omega), if_neg (by omega)]
  have h2c : ∀ (n q : Nat) (l3 l4 : Int32), l3.toInt = (q : Int) → WRun isLt L tx s q → (q - s ≤ 4 → l4.toInt = hv tx s (q - s)) → Par (L_X7_takeWord K n 2 l2 l3 l4 0 mn fk fv fp len tx) (TkP L tx s m fk fv fp) := by
    intro n q l3 l4 hq hW hl4
    have hs1 : (l2 + 1).toInt = ((s + 1 : Nat) : Int) := ad1 l2 s hs (by omega)
    cases n with
    | zero => exact Par.no
    | succ n =>
      rw [L_X7_takeWord_e2]; unfold B_X7_takeWord_2
      refine Par.br (fun h => ?_) (fun h => ?_)
      · have hq1 : q = s + 1 := by rw [h, hs1] at hq; omega
        have hd1 : q - s = 1 := by omega
        have hw : l4.toInt = (tx s).toInt := by
          rw [hl4 (by omega), hd1]; simp [hv]
        refine Par.br (fun h97 => ?_) (fun h97 => Par.br (fun h103 => ?_) (fun h103 => ?_))
        · rw [Int32.lt_iff_toInt_lt] at h97
          simp only [Int32.reduceToInt] at h97
          exact h3c n q l3 l4 hq hW hl4 (fun h9 => by omega)
        · rw [Int32.le_iff_toInt_le] at h103
          simp only [Int32.reduceToInt] at h103
          exact h3c n q l3 l4 hq hW hl4 (fun h9 => by omega)
        · rw [Int32.lt_iff_toInt_lt] at h97
          rw [Int32.le_iff_toInt_le] at h103
          simp only [Int32.reduceToInt] at h97 h103
          refine Par.bd (E_X7_add K hK 2 (l4 - 97) l2 mn fk fv fp m hm h3) (fun r hr => ?_)
          refine h5c n q l3 l4 _ _ _ _ 2 (l4 - 97) hq ⟨hr.1, hr.2.1, hr.2.2.1, l2, hs, hr.2.2.2⟩ (Or.inl ⟨hW, ?_, Or.inl ⟨rfl, ?_, by omega, by omega⟩⟩)
          · unfold kOf
            rw [← hl4 (by omega), if_pos ⟨hd1, by omega, by omega⟩]
          · simp only [Int32.toInt_sub, Int32.reduceToInt, hw]
            exact bmI (by omega) (by omega)
      · refine h3c n q l3 l4 hq hW hl4 (fun h9 => h ?_)
        refine Int32.toInt_inj.mp ?_
        rw [hq, hs1]
        have := hW.1
        omega
  have h1c : ∀ (n q : Nat) (l3 l4 : Int32), l3.toInt = (q : Int) → s ≤ q → q ≤ L → (∀ i : Nat, s ≤ i → i < q → isLt (tx i)) → (q - s ≤ 4 → l4.toInt = hv tx s (q - s)) → Par (L_X7_takeWord K n 1 l2 l3 l4 0 mn fk fv fp len tx) (TkP L tx s m fk fv fp) := by
    intro n
    induction n with
    | zero => intros; exact Par.no
    | succ n ih =>
      intro q l3 l4 hq hsq hqL hall hl4
      rw [L_X7_takeWord_e1]; unfold B_X7_takeWord_1
      refine Par.br (fun h => ?_) (fun h => ?_)
      · rw [Int32.le_iff_toInt_le, hq, hL] at h
        exact h2c n q l3 l4 hq ⟨by omega, hqL, hall, fun h9 => by omega⟩ hl4
      · rw [Int32.le_iff_toInt_le, hq, hL] at h
        refine Par.bd (E_X6_at K hK l3 len tx q L hq hL) (fun b hb => ?_)
        rcases hb with ⟨_, hb⟩ | ⟨h9, _⟩
        case inr => omega
        refine Par.bd (E_X7_isLetter K hK b) (fun z hz => ?_)
        rw [hb] at hz
        rcases hz with ⟨z1, z2⟩ | ⟨z1, z2⟩
        · refine Par.not (by rw [z1]; decide) ?_
          refine Par.bd (E_X6_at K hK l3 len tx q L hq hL) (fun c hc => ?_)
          rcases hc with ⟨_, hc⟩ | ⟨h9, _⟩
          case inr => omega
          refine ih (q + 1) (l3 + 1) _ (ad1 l3 q hq (by omega)) (by omega) (by omega) (fun i h1 h2 => ?_) (fun h4 => ?_)
          · by_cases hi : i = q
            · rw [hi]; exact z2
            · exact hall i h1 (by omega)
          · have hb4 := hv_b (tx := tx) (s := s) (q - s) (by omega) (fun i h1 h2 => hall i h1 (by omega))
            have hl := hl4 (by omega)
            have hcb := isLt_b z2
            have hq1 : q + 1 - s = (q - s) + 1 := by omega
            have hq2 : s + (q - s) = q := by omega
            rw [hq1, hv, hq2, ← hl, hc]
            exact wsh (by omega) (by omega) (by omega) (by omega)
        · refine Par.yes z1 ?_
          refine h2c n q l3 l4 hq ⟨?_, hqL, hall, fun _ => z2⟩ hl4
          by_cases hi : s = q
          · exfalso; rw [← hi] at z2; exact z2 hf
          · omega
  obtain ⟨n, hn⟩ : ∃ n9, K = n9 + 1 := ⟨K - 1, by omega⟩
  generalize hz : L_X7_takeWord K K 0 l2 0 0 0 mn fk fv fp len tx = z
  have hz2 : z = L_X7_takeWord K (n + 1) 0 l2 0 0 0 mn fk fv fp len tx := by rw [← hn, hz]
  rw [hz2, L_X7_takeWord_e0]; unfold B_X7_takeWord_0
  refine h1c n s l2 0 hs (Nat.le_refl _) (by omega) (fun i h1 h2 => by omega) (fun _ => ?_)
  rw [Nat.sub_self]; rfl
