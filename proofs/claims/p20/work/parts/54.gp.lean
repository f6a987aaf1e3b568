/-! p3: the reference's tokens -/
theorem lg0 (x y : Int64) : lg_cmp x y = 0 ↔ x.toInt = y.toInt := by
  unfold lg_cmp
  by_cases h1 : x > y
  · rw [if_pos h1]
    constructor
    · intro h; exact absurd h (by decide)
    · intro h
      have h2 : y < x := h1
      rw [Int64.lt_iff_toInt_lt] at h2
      omega
  · rw [if_neg h1]
    by_cases h2 : x = y
    · rw [if_pos h2]; subst h2; simp
    · rw [if_neg h2]
      constructor
      · intro h; exact absurd h (by decide)
      · intro h; exact absurd (Int64.toInt_inj.mp h) h2
theorem E_m_add (K : Nat) (hK : 1000000000 ≤ K) (j : Int64) (b : Int32) (h0 : 0 ≤ j.toInt) (h1 : j.toInt < 4294967296) (hb0 : 0 ≤ b.toInt) : Par (F_m_add K j b) (fun r => (b.toInt = 0 ∧ r.toInt = j.toInt) ∨ (b.toInt ≠ 0 ∧ r.toInt = 256 * j.toInt + b.toInt)) := by
  unfold F_m_add
  obtain ⟨n, rfl⟩ : ∃ n9, K = n9 + 1 := ⟨K - 1, by omega⟩
  rw [L_m_add_e0]; unfold B_m_add_0
  have hbr := i32r b
  refine Par.br (fun h => Par.ret (Or.inl ⟨by rw [h]; decide, rfl⟩)) (fun h => Par.ret (Or.inr ⟨fun h9 => h (Int32.toInt_inj.mp (by rw [h9]; decide)), ?_⟩))
  have e256 : (256 : Int64).toInt = 256 := by decide
  have hm : (256 * j).toInt = 256 * j.toInt := by
    rw [Int64.toInt_mul, e256]
    simp only [Int.bmod]; omega
  rw [Int64.toInt_add, hm, Int32.toInt_toInt64]
  simp only [Int.bmod]; omega
theorem E_m_word (K : Nat) (hK : 1000000000 ≤ K) (a b c d : Int32) (w : Int) (ha : 0 < a.toInt ∧ a.toInt < 256) (hb : 0 < b.toInt ∧ b.toInt < 256) (hc : 0 ≤ c.toInt ∧ c.toInt < 256) (hd : 0 ≤ d.toInt ∧ d.toInt < 256)
    (hw : w = (if d.toInt = 0 then (if c.toInt = 0 then 256 * a.toInt + b.toInt else 256 * (256 * a.toInt + b.toInt) + c.toInt) else 256 * (if c.toInt = 0 then 256 * a.toInt + b.toInt else 256 * (256 * a.toInt + b.toInt) + c.toInt) + d.toInt)) : Par (F_m_word K a b c d) (fun r => r.toInt = w) := by
  unfold F_m_word
  obtain ⟨n, hn⟩ : ∃ n9, K = n9 + 1 := ⟨K - 1, by omega⟩
  generalize hz : L_m_word K K 0 a b c d = z
  have hz2 : z = L_m_word K (n + 1) 0 a b c d := by rw [← hn, hz]
  rw [hz2, L_m_word_e0]; unfold B_m_word_0
  have e0 : (0 : Int64).toInt = 0 := by decide
  refine Par.bd (E_m_add K hK 0 a (by rw [e0]; omega) (by rw [e0]; omega) (by omega)) (fun x hx => ?_)
  rw [e0] at hx
  have hx2 : x.toInt = a.toInt := by rcases hx with ⟨h, _⟩ | ⟨_, h⟩ <;> omega
  refine Par.bd (E_m_add K hK x b (by omega) (by omega) (by omega)) (fun y hy => ?_)
  have hy2 : y.toInt = 256 * a.toInt + b.toInt := by rcases hy with ⟨h, _⟩ | ⟨_, h⟩ <;> omega
  refine Par.bd (E_m_add K hK y c (by omega) (by omega) (by omega)) (fun u hu => ?_)
  have hu2 : u.toInt = (if c.toInt = 0 then 256 * a.toInt + b.toInt else 256 * (256 * a.toInt + b.toInt) + c.toInt) := by
    rcases hu with ⟨h1, h2⟩ | ⟨h1, h2⟩
    · rw [if_pos h1]; omega
    · rw [if_neg h1]; omega
  have hu3 : 0 ≤ u.toInt ∧ u.toInt < 16777216 := by rw [hu2]; split <;> omega
  refine Par.bd (E_m_add K hK u d (by omega) (by omega) (by omega)) (fun t ht => Par.ret ?_)
  rw [hw, ← hu2]
  rcases ht with ⟨h1, h2⟩ | ⟨h1, h2⟩
  · rw [if_pos h1]; exact h2
  · rw [if_neg h1]; exact h2
def tokR (n : Nat) (w : Int) : Int32 :=
  if 4 < n then 8 else if w = 7304564 then 1 else if w = 26982 then 2 else if w = 1701606245 then 3 else if w = 1819242352 then 4 else if n = 1 ∧ w < 103 then 5 else 8
abbrev R4a : Type := Int32 × Int32 × Int32 × Int32
/-- the token at s, as the reference has it at hand behind it -/
def AdvP (L : Nat) (tx : Nat → Int32) (s : Nat) (r : R4a) : Prop :=
  r.2.2.1.toInt = (s : Int) ∧
  ((s = L ∧ r.1.toInt = (L : Int) ∧ r.2.1 = 0) ∨
   (∃ q : Nat, WRun isLw L tx s q ∧ r.1.toInt = (q : Int) ∧ r.2.1 = tokR (q - s) (hv tx s (q - s)) ∧ r.2.2.2.toInt = (tx s).toInt - 97) ∨
   (∃ q : Nat, WRun isFg L tx s q ∧ r.1.toInt = (q : Int) ∧ ((q = s + 1 ∧ r.2.1 = 6) ∨ (q ≠ s + 1 ∧ r.2.1 = 8)) ∧ r.2.2.2.toInt = (tx s).toInt - 48) ∨
   (s < L ∧ ¬ isLw (tx s) ∧ ¬ isFg (tx s) ∧ r.1.toInt = ((s + 1 : Nat) : Int) ∧ ((sgq (tx s) ∧ r.2.1 = 7) ∨ (¬ sgq (tx s) ∧ r.2.1 = 8)) ∧ r.2.2.2 = tx s))
theorem in_lw (K : Nat) (hK : 1000000000 ≤ K) (b : Int32) : Par (F_m_in K b 97 122) (fun r => (r = 1 ∧ isLw b) ∨ (r = 0 ∧ ¬ isLw b)) := by
  refine (T_m_in K hK b 97 122 True.intro).pr.mono (fun r hr => ?_)
  simp only [Int32.reduceToInt] at hr
  rcases hr with ⟨h1, h2⟩ | ⟨h1, h2⟩
  · exact Or.inl ⟨h1, h2⟩
  · exact Or.inr ⟨h1, fun h => by have := h.1; have := h.2; omega⟩
theorem in_fg (K : Nat) (hK : 1000000000 ≤ K) (b : Int32) : Par (F_m_in K b 48 57) (fun r => (r = 1 ∧ isFg b) ∨ (r = 0 ∧ ¬ isFg b)) := by
  refine (T_m_in K hK b 48 57 True.intro).pr.mono (fun r hr => ?_)
  simp only [Int32.reduceToInt] at hr
  rcases hr with ⟨h1, h2⟩ | ⟨h1, h2⟩
  · exact Or.inl ⟨h1, h2⟩
  · exact Or.inr ⟨h1, fun h => by have := h.1; have := h.2; omega⟩
theorem nlw1 : ¬ isLw (-1) := by rintro ⟨a, _⟩; revert a; decide
theorem nfg1 : ¬ isFg (-1) := by rintro ⟨a, _⟩; revert a; decide
set_option maxHeartbeats 4000000 in
theorem E_m_advances (K : Nat) (hK : 1000000000 ≤ K) (ityped inext itoken iplace ivalue : Int32) (tx : Nat → Int32) (L e s : Nat) (hL : ityped.toInt = (L : Int)) (hL3 : L ≤ 300) (he : inext.toInt = (e : Int)) (hB : BLn tx e s) (hsL : s ≤ L) (hs32 : s < L → tx s ≠ 32) (hby : ∀ i : Nat, i < L → 0 ≤ (tx i).toInt ∧ (tx i).toInt ≤ 255) :
    Par (F_m_advances K ityped inext itoken iplace ivalue tx) (AdvP L tx s) := by
  have hbyte : ∀ (x : Int32) (p : Nat), x.toInt = (p : Int) → Par (F_m_byteAt K x ityped tx) (fun r => (p < L ∧ r = tx p) ∨ (L ≤ p ∧ r = -1)) := by
    intro x p hx
    refine (T_m_byteAt K hK x ityped tx ⟨by omega, by omega⟩).pr.mono (fun r hr => ?_)
    rw [cl1 x p hx, hx, hL] at hr
    rcases hr with ⟨h1, h2⟩ | ⟨h1, h2⟩
    · exact Or.inl ⟨by omega, h2⟩
    · exact Or.inr ⟨by omega, h2⟩
  -- words
  have h4c : ∀ (n q : Nat) (l1 l4 nx pl vl : Int32) (j2 : Int64) (s0 : Int32), nx.toInt = (q : Int) → pl.toInt = (s : Int) → vl.toInt = (tx s).toInt - 97 → WRun isLw L tx s q → s0 = tokR (q - s) (hv tx s (q - s)) → Par (L_m_advances K n 4 l1 0 j2 l4 s0 0 ityped nx itoken pl vl tx) (AdvP L tx s) := by
    intro n q l1 l4 nx pl vl j2 s0 hq hp hv1 hW hs0
    cases n with
    | zero => exact Par.no
    | succ n =>
      rw [L_m_advances_e4]; unfold B_m_advances_4
      exact Par.ret ⟨hp, Or.inr (Or.inl ⟨q, hW, hq, hs0, hv1⟩)⟩
  have h1c : ∀ (n q : Nat) (l4 nx pl vl : Int32) (j2 : Int64), nx.toInt = (q : Int) → pl.toInt = (s : Int) → s ≤ q → q ≤ L → isLw (tx s) → s < L → (∀ i : Nat, s ≤ i → i < q → isLw (tx i)) → l4.toInt = (q : Int) - (s : Int) → (q - s ≤ 4 → j2.toInt = hv tx s (q - s)) → Par (L_m_advances K n 1 (tx s) 0 j2 l4 0 0 ityped nx itoken pl vl tx) (AdvP L tx s) := by
    intro n
    induction n using Nat.strongRecOn with
    | _ n ih =>
    intro q l4 nx pl vl j2 hq hp hsq hqL hls hsl hall hl4 hj2
    cases n with
    | zero => exact Par.no
    | succ n =>
      rw [L_m_advances_e1]; unfold B_m_advances_1
      refine Par.bd (hbyte nx q hq) (fun b hb => ?_)
      refine Par.bd (in_lw K hK b) (fun z hz => ?_)
      rcases hz with ⟨z1, z2⟩ | ⟨z1, z2⟩
      · refine Par.not (by rw [z1]; decide) ?_
        rcases hb with ⟨hqL2, hb⟩ | ⟨_, hb⟩
        case inr => rw [hb] at z2; exact absurd z2 nlw1
        rw [hb] at z2
        have hall2 : ∀ i : Nat, s ≤ i → i < q + 1 → isLw (tx i) := by
          intro i h1 h2
          by_cases hi : i = q
          · rw [hi]; exact z2
          · exact hall i h1 (by omega)
        have hl42 : (l4 + 1).toInt = ((q + 1 : Nat) : Int) - (s : Int) := by
          rw [adC l4 1 _ 1 hl4 (by decide) (by omega) (by omega)]; omega
        have h2c : ∀ (m : Nat) (u0 : Int64), m < n + 1 → (q + 1 - s ≤ 4 → u0.toInt = hv tx s (q + 1 - s)) → Par (L_m_advances K m 2 (tx s) 0 j2 l4 0 u0 ityped nx itoken pl vl tx) (AdvP L tx s) := by
          intro m u0 hm hu
          cases m with
          | zero => exact Par.no
          | succ m =>
            rw [L_m_advances_e2]; unfold B_m_advances_2
            exact ih m (by omega) (q + 1) (l4 + 1) (nx + 1) pl vl u0 (ad1 nx q hq (by omega)) hp (by omega) (by omega) hls hsl hall2 hl42 hu
        refine Par.br (fun h4 => ?_) (fun h4 => ?_)
        · rw [Int32.le_iff_toInt_le, hl4] at h4
          simp only [Int32.reduceToInt] at h4
          exact h2c n j2 (by omega) (fun h9 => by omega)
        · rw [Int32.le_iff_toInt_le, hl4] at h4
          simp only [Int32.reduceToInt] at h4
          refine Par.bd (hbyte nx q hq) (fun c hc => ?_)
          rcases hc with ⟨_, hc⟩ | ⟨h9, _⟩
          case inr => omega
          have hb4 := hv_b (tx := tx) (s := s) (q - s) (by omega) (fun i h1 h2 => Or.inl (hall i h1 (by omega)))
          have hj := hj2 (by omega)
          have hcb := isLt_b (Or.inl z2)
          refine Par.bd (E_m_add K hK j2 c (by omega) (by omega) (by rw [hc]; omega)) (fun u hu => ?_)
          refine h2c n u (by omega) (fun _ => ?_)
          have hq1 : q + 1 - s = (q - s) + 1 := by omega
          have hq2 : s + (q - s) = q := by omega
          rw [hq1, hv, hq2, ← hj]
          rw [hc] at hu
          rcases hu with ⟨h9, _⟩ | ⟨_, h9⟩
          · omega
          · exact h9
      · refine Par.yes z1 ?_
        have hsq2 : s < q := by
          by_cases hi : s = q
          · exfalso
            rcases hb with ⟨_, hb⟩ | ⟨h9, hb⟩
            · rw [hb, ← hi] at z2; exact z2 hls
            · omega
          · omega
        have hW : WRun isLw L tx s q := by
          refine ⟨hsq2, hqL, hall, fun h9 => ?_⟩
          rcases hb with ⟨_, hb⟩ | ⟨h8, _⟩
          · rw [hb] at z2; exact z2
          · omega
        have hvl : (tx s - 97).toInt = (tx s).toInt - 97 := by
          have := hls.1
          have := hls.2
          simp only [Int32.toInt_sub, Int32.reduceToInt]
          exact bmI (by omega) (by omega)
        refine Par.br (fun h4 => ?_) (fun h4 => ?_)
        · rw [Int32.le_iff_toInt_le, hl4] at h4
          simp only [Int32.reduceToInt] at h4
          have hj := hj2 (by omega)
          have hn4 : ¬ 4 < q - s := by omega
          refine Par.bd (E_m_word K hK 111 117 116 0 7304564 (by decide) (by decide) (by decide) (by decide) (by decide)) (fun w1 hw1 => ?_)
          refine Par.br (fun h => h4c n q _ l4 nx pl _ j2 1 hq hp hvl hW ?_) (fun n1 => ?_)
          · rw [lg0, hw1, hj] at h
            unfold tokR; rw [if_neg hn4, if_pos h]
          rw [lg0, hw1, hj] at n1
          refine Par.bd (E_m_word K hK 105 102 0 0 26982 (by decide) (by decide) (by decide) (by decide) (by decide)) (fun w2 hw2 => ?_)
          refine Par.br (fun h => h4c n q _ l4 nx pl _ j2 2 hq hp hvl hW ?_) (fun n2 => ?_)
          · rw [lg0, hw2, hj] at h
            unfold tokR; rw [if_neg hn4, if_neg n1, if_pos h]
          rw [lg0, hw2, hj] at n2
          refine Par.bd (E_m_word K hK 101 108 115 101 1701606245 (by decide) (by decide) (by decide) (by decide) (by decide)) (fun w3 hw3 => ?_)
          refine Par.br (fun h => h4c n q _ l4 nx pl _ j2 3 hq hp hvl hW ?_) (fun n3 => ?_)
          · rw [lg0, hw3, hj] at h
            unfold tokR; rw [if_neg hn4, if_neg n1, if_neg n2, if_pos h]
          rw [lg0, hw3, hj] at n3
          refine Par.bd (E_m_word K hK 108 111 111 112 1819242352 (by decide) (by decide) (by decide) (by decide) (by decide)) (fun w5 hw5 => ?_)
          refine Par.br (fun h => h4c n q _ l4 nx pl _ j2 4 hq hp hvl hW ?_) (fun n4 => ?_)
          · rw [lg0, hw5, hj] at h
            unfold tokR; rw [if_neg hn4, if_neg n1, if_neg n2, if_neg n3, if_pos h]
          rw [lg0, hw5, hj] at n4
          have h3c : ¬ (q - s = 1 ∧ hv tx s (q - s) < 103) → Par (L_m_advances K n 3 (tx s) 0 j2 l4 0 0 ityped nx itoken pl (tx s - 97) tx) (AdvP L tx s) := by
            intro hno
            cases n with
            | zero => exact Par.no
            | succ n =>
              rw [L_m_advances_e3]; unfold B_m_advances_3
              refine h4c n q _ l4 nx pl _ j2 8 hq hp hvl hW ?_
              unfold tokR; rw [if_neg hn4, if_neg n1, if_neg n2, if_neg n3, if_neg n4, if_neg hno]
          refine Par.br (fun hone => ?_) (fun hone => ?_)
          · have h1 : q - s = 1 := by
              rw [hone] at hl4
              simp only [Int32.reduceToInt] at hl4
              omega
            have hw : hv tx s (q - s) = (tx s).toInt := by rw [h1]; simp [hv]
            refine Par.br (fun h => h3c (fun h9 => ?_)) (fun h => h4c n q _ l4 nx pl _ j2 5 hq hp hvl hW ?_)
            · rw [Int32.le_iff_toInt_le] at h
              simp only [Int32.reduceToInt] at h
              rw [hw] at h9
              omega
            · rw [Int32.le_iff_toInt_le] at h
              simp only [Int32.reduceToInt] at h
              unfold tokR; rw [if_neg hn4, if_neg n1, if_neg n2, if_neg n3, if_neg n4, if_pos ⟨h1, by rw [hw]; omega⟩]
          · refine h3c (fun h9 => hone (Int32.toInt_inj.mp ?_))
            simp only [Int32.reduceToInt]
            omega
        · rw [Int32.le_iff_toInt_le, hl4] at h4
          simp only [Int32.reduceToInt] at h4
          refine h4c n q _ l4 nx pl _ j2 8 hq hp hvl hW ?_
          unfold tokR; rw [if_pos (by omega)]
  -- numbers
  have h6c : ∀ (n q : Nat) (l1 l2 nx pl vl s0 : Int32), nx.toInt = (q : Int) → pl.toInt = (s : Int) → vl.toInt = (tx s).toInt - 48 → WRun isFg L tx s q → ((q = s + 1 ∧ s0 = 6) ∨ (q ≠ s + 1 ∧ s0 = 8)) → Par (L_m_advances K n 6 l1 l2 0 0 s0 0 ityped nx itoken pl vl tx) (AdvP L tx s) := by
    intro n q l1 l2 nx pl vl s0 hq hp hv1 hW hs0
    cases n with
    | zero => exact Par.no
    | succ n =>
      rw [L_m_advances_e6]; unfold B_m_advances_6
      exact Par.ret ⟨hp, Or.inr (Or.inr (Or.inl ⟨q, hW, hq, hs0, hv1⟩))⟩
  have h5c : ∀ (n q : Nat) (l2 nx pl vl : Int32), nx.toInt = (q : Int) → pl.toInt = (s : Int) → s ≤ q → q ≤ L → isFg (tx s) → s < L → (∀ i : Nat, s ≤ i → i < q → isFg (tx i)) → l2.toInt = (q : Int) - (s : Int) → Par (L_m_advances K n 5 (tx s) l2 0 0 0 0 ityped nx itoken pl vl tx) (AdvP L tx s) := by
    intro n
    induction n with
    | zero => intros; exact Par.no
    | succ n ih =>
      intro q l2 nx pl vl hq hp hsq hqL hls hsl hall hl2
      rw [L_m_advances_e5]; unfold B_m_advances_5
      refine Par.bd (hbyte nx q hq) (fun b hb => ?_)
      refine Par.bd (in_fg K hK b) (fun z hz => ?_)
      rcases hz with ⟨z1, z2⟩ | ⟨z1, z2⟩
      · refine Par.not (by rw [z1]; decide) ?_
        rcases hb with ⟨hqL2, hb⟩ | ⟨_, hb⟩
        case inr => rw [hb] at z2; exact absurd z2 nfg1
        rw [hb] at z2
        refine ih (q + 1) (l2 + 1) (nx + 1) pl vl (ad1 nx q hq (by omega)) hp (by omega) (by omega) hls hsl (fun i h1 h2 => ?_) ?_
        · by_cases hi : i = q
          · rw [hi]; exact z2
          · exact hall i h1 (by omega)
        · rw [adC l2 1 _ 1 hl2 (by decide) (by omega) (by omega)]; omega
      · refine Par.yes z1 ?_
        have hsq2 : s < q := by
          by_cases hi : s = q
          · exfalso
            rcases hb with ⟨_, hb⟩ | ⟨h9, hb⟩
            · rw [hb, ← hi] at z2; exact z2 hls
            · omega
          · omega
        have hW : WRun isFg L tx s q := by
          refine ⟨hsq2, hqL, hall, fun h9 => ?_⟩
          rcases hb with ⟨_, hb⟩ | ⟨h8, _⟩
          · rw [hb] at z2; exact z2
          · omega
        have hvl : (tx s - 48).toInt = (tx s).toInt - 48 := by
          have := hls.1
          have := hls.2
          simp only [Int32.toInt_sub, Int32.reduceToInt]
          exact bmI (by omega) (by omega)
        refine Par.br (fun h => h6c n q _ l2 nx pl _ 6 hq hp hvl hW (Or.inl ⟨?_, rfl⟩)) (fun h => h6c n q _ l2 nx pl _ 8 hq hp hvl hW (Or.inr ⟨?_, rfl⟩))
        · rw [Int32.le_iff_toInt_le, hl2] at h
          simp only [Int32.reduceToInt] at h
          omega
        · rw [Int32.le_iff_toInt_le, hl2] at h
          simp only [Int32.reduceToInt] at h
          omega
  -- signs
  have h8c : ∀ (n : Nat) (s0 nx pl : Int32), nx.toInt = ((s + 1 : Nat) : Int) → pl.toInt = (s : Int) → s < L → ¬ isLw (tx s) → ¬ isFg (tx s) → ((sgq (tx s) ∧ s0 = 1) ∨ (¬ sgq (tx s) ∧ s0 = 0)) → Par (L_m_advances K n 8 (tx s) 0 0 0 s0 0 ityped nx itoken pl (tx s) tx) (AdvP L tx s) := by
    intro n s0 nx pl hq hp hsl hlw hfg hs0
    cases n with
    | zero => exact Par.no
    | succ n =>
      rw [L_m_advances_e8]; unfold B_m_advances_8
      have h9c : ∀ (m : Nat) (t0 l2 : Int32), ((sgq (tx s) ∧ t0 = 7) ∨ (¬ sgq (tx s) ∧ t0 = 8)) → Par (L_m_advances K m 9 (tx s) l2 0 0 t0 0 ityped nx itoken pl (tx s) tx) (AdvP L tx s) := by
        intro m t0 l2 ht
        cases m with
        | zero => exact Par.no
        | succ m =>
          rw [L_m_advances_e9]; unfold B_m_advances_9
          exact Par.ret ⟨hp, Or.inr (Or.inr (Or.inr ⟨hsl, hlw, hfg, hq, ht, rfl⟩))⟩
      rcases hs0 with ⟨h1, h2⟩ | ⟨h1, h2⟩
      · exact Par.not (by rw [h2]; decide) (h9c n 7 s0 (Or.inl ⟨h1, rfl⟩))
      · exact Par.yes h2 (h9c n 8 s0 (Or.inr ⟨h1, rfl⟩))
  have h7c : ∀ (n : Nat) (nx pl : Int32), nx.toInt = ((s + 1 : Nat) : Int) → pl.toInt = (s : Int) → s < L → ¬ isLw (tx s) → ¬ isFg (tx s) → sgq (tx s) → Par (L_m_advances K n 7 (tx s) 0 0 0 0 0 ityped nx itoken pl (tx s) tx) (AdvP L tx s) := by
    intro n nx pl hq hp hsl hlw hfg hs
    cases n with
    | zero => exact Par.no
    | succ n =>
      rw [L_m_advances_e7]; unfold B_m_advances_7
      exact h8c n 1 nx pl hq hp hsl hlw hfg (Or.inl ⟨hs, rfl⟩)
  have h0c : ∀ (n e : Nat) (nx itk ipl ivl : Int32), itk = itoken → nx.toInt = (e : Int) → BLn tx e s → Par (L_m_advances K n 0 0 0 0 0 0 0 ityped nx itk ipl ivl tx) (AdvP L tx s) := by
    intro n
    induction n with
    | zero => intros; exact Par.no
    | succ n ih =>
      intro e nx itk ipl ivl hitk he hB
      subst hitk
      rw [L_m_advances_e0]; unfold B_m_advances_0
      refine Par.bd (hbyte nx e he) (fun b hb => ?_)
      refine Par.br (fun h => ?_) (fun h => ?_)
      · have hes : e < s := by
          by_cases h9 : e = s
          · exfalso
            rcases hb with ⟨b1, b2⟩ | ⟨_, b2⟩
            · rw [b2, h9] at h; exact hs32 (by omega) h
            · rw [b2] at h; exact absurd h (by decide)
          · have := hB.1; omega
        exact ih (e + 1) (nx + 1) _ _ _ rfl (ad1 nx e he (by omega)) ⟨by omega, fun i h1 h2 => hB.2 i (by omega) h2⟩
      · have hes : e = s := by
          by_cases h9 : e = s
          · exact h9
          · exfalso
            have h8 := hB.1
            have h7 := hB.2 e (Nat.le_refl _) (by omega)
            rcases hb with ⟨_, b2⟩ | ⟨b1, _⟩
            · rw [b2] at h; exact h h7
            · omega
        subst hes
        refine Par.bd (hbyte nx e he) (fun c hc => ?_)
        refine Par.br (fun h0 => ?_) (fun h0 => ?_)
        · have hcL : e < L ∧ c = tx e := by
            rcases hc with hc | ⟨_, hc⟩
            · exact hc
            · rw [hc] at h0; exact absurd h0 (by decide)
          obtain ⟨hel, hc⟩ := hcL
          subst hc
          refine Par.bd (in_lw K hK (tx e)) (fun z hz => ?_)
          rcases hz with ⟨z1, z2⟩ | ⟨z1, z2⟩
          · refine Par.not (by rw [z1]; decide) ?_
            exact h1c n e 0 nx nx ivl 0 he he (Nat.le_refl _) (by omega) z2 hel (fun i h1 h2 => by omega) (by simp) (fun _ => by rw [Nat.sub_self]; rfl)
          · refine Par.yes z1 ?_
            refine Par.bd (in_fg K hK (tx e)) (fun y hy => ?_)
            rcases hy with ⟨y1, y2⟩ | ⟨y1, y2⟩
            · refine Par.not (by rw [y1]; decide) ?_
              exact h5c n e 0 nx nx ivl he he (Nat.le_refl _) (by omega) y2 hel (fun i h1 h2 => by omega) (by simp)
            · refine Par.yes y1 ?_
              have hn1 : (nx + 1).toInt = ((e + 1 : Nat) : Int) := ad1 nx e he (by omega)
              have hy7 : sgq (tx e) → Par (L_m_advances K n 7 (tx e) 0 0 0 0 0 ityped (nx + 1) itk nx (tx e) tx) (AdvP L tx e) := fun hs => h7c n (nx + 1) nx hn1 he hel z2 y2 hs
              refine Par.br (fun a => hy7 (Or.inl a)) (fun a1 => Par.br (fun a => hy7 (Or.inr (Or.inl a))) (fun a2 => Par.br (fun a => hy7 (Or.inr (Or.inr (Or.inl a)))) (fun a3 => Par.br (fun a => hy7 (Or.inr (Or.inr (Or.inr (Or.inl a))))) (fun a4 => Par.br (fun a => hy7 (Or.inr (Or.inr (Or.inr (Or.inr (Or.inl a)))))) (fun a5 => Par.br (fun a => hy7 (Or.inr (Or.inr (Or.inr (Or.inr (Or.inr (Or.inl a))))))) (fun a6 => ?_))))))
              refine Par.br (fun a => hy7 (by unfold sgq; simp [a])) (fun a7 => Par.br (fun a => hy7 (by unfold sgq; simp [a])) (fun a8 => Par.br (fun a => hy7 (by unfold sgq; simp [a])) (fun a9 => Par.br (fun a => hy7 (by unfold sgq; simp [a])) (fun a10 => Par.br (fun a => hy7 (by unfold sgq; simp [a])) (fun a11 => Par.br (fun a => hy7 (by unfold sgq; simp [a])) (fun a12 => ?_))))))
              refine h8c n 0 (nx + 1) nx hn1 he hel z2 y2 (Or.inr ⟨?_, rfl⟩)
              rintro (h | h | h | h | h | h | h | h | h | h | h | h) <;> contradiction
        · refine Par.ret ⟨he, Or.inl ?_⟩
          rcases hc with ⟨c1, c2⟩ | ⟨c1, _⟩
          · exfalso
            have := (hby e c1).1
            rw [c2, Int32.le_iff_toInt_le] at h0
            exact h0 this
          · have : e = L := by omega
            exact ⟨this, by rw [← this]; exact he, rfl⟩
  unfold F_m_advances
  exact h0c K e inext itoken iplace ivalue rfl he hB
