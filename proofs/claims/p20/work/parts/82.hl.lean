/-! the class's table of heaps: begin, put (linear probing: a free slot is always there) -/
theorem lgq (x y : Int64) : lg_cmp x y = 0 ↔ x = y := by rw [lg0, Int64.toInt_inj]
def hshE (j1 j3 : Int64) : Int64 := ((j1 ^^^ ((j1).toUInt64 >>> ((32 : Int32).toInt64.toUInt64 &&& Int64.toUInt64 63)).toInt64) * (-7046029254386353131)) + ((j3 ^^^ ((j3).toUInt64 >>> ((32 : Int32).toInt64.toUInt64 &&& Int64.toUInt64 63)).toInt64) * (-4417276706812531889))
def hshI (sm : Int32) (j1 j3 : Int64) : Int32 := ((hshE j1 j3).toUInt64 >>> ((40 : Int32).toInt64.toUInt64 &&& Int64.toUInt64 63)).toInt64.toInt32 &&& sm
def h0F (sm : Int32) (p : Int64 × Int64) : Nat := (hshI sm p.1 p.2).toInt.toNat
theorem i32_n {x : Int32} {n : Nat} (h : x.toInt = (n : Int)) : x.toBitVec.toNat = n := by
  have e : x.toInt = x.toBitVec.toInt := rfl
  have h9 := x.toBitVec.isLt
  rw [e, BitVec.toInt_eq_toNat_cond] at h
  split at h <;> omega
theorem i32_of {x : Int32} {n : Nat} (h : x.toBitVec.toNat = n) (hn : n < 2147483648) : x.toInt = (n : Int) := by
  have e : x.toInt = x.toBitVec.toInt := rfl
  rw [e, BitVec.toInt_eq_toNat_of_lt (by omega), h]
theorem an_lt (x sm : Int32) {Z : Nat} (hs : sm.toInt = (Z : Int) - 1) (h1 : 1 ≤ Z) (h2 : Z ≤ 8192) : 0 ≤ (x &&& sm).toInt ∧ (x &&& sm).toInt < (Z : Int) := by
  have e1 : sm.toBitVec.toNat = Z - 1 := i32_n (by omega)
  have e : (x &&& sm).toBitVec = x.toBitVec &&& sm.toBitVec := rfl
  have e2 : (x &&& sm).toBitVec.toNat ≤ Z - 1 := by rw [e, BitVec.toNat_and, e1]; exact Nat.and_le_right
  have e3 := i32_of (x := x &&& sm) rfl (by omega)
  omega
theorem h0F_lt {sm : Int32} {Z : Nat} (hs : sm.toInt = (Z : Int) - 1) (h1 : 1 ≤ Z) (h2 : Z ≤ 8192) (p : Int64 × Int64) : (hshI sm p.1 p.2).toInt = (h0F sm p : Int) ∧ h0F sm p < Z := by
  have h := an_lt (((hshE p.1 p.2).toUInt64 >>> ((40 : Int32).toInt64.toUInt64 &&& Int64.toUInt64 63)).toInt64.toInt32) sm hs h1 h2
  have e : hshI sm p.1 p.2 = (((hshE p.1 p.2).toUInt64 >>> ((40 : Int32).toInt64.toUInt64 &&& Int64.toUInt64 63)).toInt64.toInt32) &&& sm := rfl
  rw [← e] at h
  unfold h0F
  omega
theorem nx_sl {l sm : Int32} {x a : Nat} (hl : l.toInt = (x : Int)) (hs : sm.toInt = ((2 ^ a : Nat) : Int) - 1) (ha : a ≤ 13) (hx : x < 2 ^ a) : ((l + 1) &&& sm).toInt = (((x + 1) % 2 ^ a : Nat) : Int) := by
  have h13 : 2 ^ a ≤ 2 ^ 13 := Nat.pow_le_pow_right (by omega) ha
  have h13' : (2 : Nat) ^ 13 = 8192 := by decide
  have hp : 1 ≤ 2 ^ a := Nat.pow_pos (by omega)
  have e1 : sm.toBitVec.toNat = 2 ^ a - 1 := i32_n (by omega)
  have e2 : (l + 1).toBitVec.toNat = x + 1 := i32_n (ad1 l x hl (by omega))
  have e : ((l + 1) &&& sm).toBitVec = (l + 1).toBitVec &&& sm.toBitVec := rfl
  have e3 : ((l + 1) &&& sm).toBitVec.toNat = (x + 1) % 2 ^ a := by rw [e, BitVec.toNat_and, e1, e2, Nat.and_two_pow_sub_one_eq_mod]
  have := Nat.mod_lt (x + 1) (show 0 < 2 ^ a by omega)
  exact i32_of e3 (by omega)
theorem cntQ_all {P : Nat → Prop} : ∀ n : Nat, (∀ k : Nat, k < n → P k) → cntQ P n = n := by
  intro n
  induction n with
  | zero => intro _; rfl
  | succ n ih => intro h; rw [cntQ_y (h n (by omega)), ih (fun k hk => h k (by omega))]
theorem cntQ_one {P Q : Nat → Prop} {x : Nat} (h : ∀ k : Nat, k ≠ x → P k → Q k) : ∀ n : Nat, cntQ P n ≤ cntQ Q n + (if x < n then 1 else 0) := by
  intro n
  induction n with
  | zero => exact Nat.zero_le _
  | succ n ih =>
    by_cases e : n = x
    · subst e
      rw [if_neg (by omega)] at ih
      rw [if_pos (by omega)]
      have h1 : cntQ P (n + 1) ≤ cntQ P n + 1 := by
        rcases Classical.em (P n) with h2 | h2
        · rw [cntQ_y h2]; omega
        · rw [cntQ_n h2]; omega
      have h3 : cntQ Q n ≤ cntQ Q (n + 1) := by
        rcases Classical.em (Q n) with h2 | h2
        · rw [cntQ_y h2]; omega
        · rw [cntQ_n h2]; omega
      omega
    · have e2 : (if x < n + 1 then 1 else 0) = (if x < n then 1 else 0) := by
        by_cases h9 : x < n
        · rw [if_pos h9, if_pos (by omega)]
        · rw [if_neg h9, if_neg (by omega)]
      rw [e2]
      rcases Classical.em (P n) with h2 | h2
      · rw [cntQ_y h2, cntQ_y (h n e h2)]; omega
      · rw [cntQ_n h2]
        have h3 : cntQ Q n ≤ cntQ Q (n + 1) := by
          rcases Classical.em (Q n) with h2 | h2
          · rw [cntQ_y h2]; omega
          · rw [cntQ_n h2]; omega
        omega
/-- n pairs are put -/
def TbI (sm : Int32) (Z n : Nat) (p : Nat → Int64 × Int64) (many greatest : Int32) (gf gs : Nat → Int64) (gz go : Nat → Int32) : Prop :=
  many.toInt = (ndQ (fun i j => p i = p j) n : Int) ∧
  (∀ j : Nat, j < n → ∃ h : Nat, (h : Int) < many.toInt ∧ (gf h, gs h) = p j) ∧
  (∀ h : Nat, (h : Int) < many.toInt → (∃ j : Nat, j < n ∧ (gf h, gs h) = p j) ∧ (gz h).toInt = (cntQ (fun j => (gf h, gs h) = p j) n : Int) ∧ (gz h).toInt ≤ greatest.toInt ∧ ∃ d : Nat, d < Z ∧ (go ((h0F sm (gf h, gs h) + d) % Z)).toInt = (h : Int) + 1 ∧ ∀ e : Nat, e < d → go ((h0F sm (gf h, gs h) + e) % Z) ≠ 0) ∧
  (greatest.toInt = 0 ∨ ∃ h : Nat, (h : Int) < many.toInt ∧ greatest.toInt = (gz h).toInt) ∧
  (∀ s : Nat, s < Z → 0 ≤ (go s).toInt ∧ (go s).toInt ≤ many.toInt) ∧
  (cntQ (fun s => go s ≠ 0) Z : Int) ≤ many.toInt ∧
  (∀ h h2 : Nat, (h : Int) < many.toInt → (h2 : Int) < many.toInt → (gf h, gs h) = (gf h2, gs h2) → h = h2)
theorem TbI0 {sm : Int32} {Z : Nat} {p : Nat → Int64 × Int64} {gf gs : Nat → Int64} {gz go : Nat → Int32} (h : ∀ s : Nat, s < Z → go s = 0) : TbI sm Z 0 p 0 0 gf gs gz go := by
  have c0 : (0 : Int32).toInt = 0 := by decide
  refine ⟨rfl, fun j hj => absurd hj (Nat.not_lt_zero _), fun h1 hh => ?_, Or.inl rfl, fun s hs => ?_, ?_, fun h1 h2 hh => ?_⟩
  · rw [c0] at hh; omega
  · rw [h s hs, c0]; omega
  · have : cntQ (fun s => go s ≠ 0) Z = 0 := by
      have h9 : ∀ n : Nat, n ≤ Z → cntQ (fun s => go s ≠ 0) n = 0 := by
        intro n
        induction n with
        | zero => intro _; rfl
        | succ n ih =>
          intro hn
          rw [cntQ_n (fun hne => hne (h n (by omega))), ih (by omega)]
      exact h9 Z (Nat.le_refl _)
    rw [this, c0]
    omega
  · rw [c0] at hh; omega
theorem E_X1_begin (K : Nat) (hK : 1000000000 ≤ K) (l1 a1 a2 a3 : Int32) (T : Nat) (h1 : l1.toInt = (T : Int)) (hT : T ≤ 4096) (hT1 : 1 ≤ T) (go : Nat → Int32) : Par (F_X1_begin K l1 a1 a2 a3 go) (fun r => r.1.toInt = ((2 * T : Nat) : Int) - 1 ∧ r.2.1 = 0 ∧ r.2.2.1 = 0 ∧ ∀ s : Nat, s < 2 * T → r.2.2.2 s = 0) := by
  unfold F_X1_begin
  obtain ⟨n, rfl⟩ : ∃ n9, K = n9 + 1 := ⟨K - 1, by omega⟩
  rw [L_X1_begin_e0]; unfold B_X1_begin_0
  have h2 : (2 * l1 : Int32).toInt = ((2 * T : Nat) : Int) := by
    rw [Int32.toInt_mul, h1]
    simp only [Int32.reduceToInt]
    rw [bmI (by omega) (by omega)]
    omega
  have e : (if 8192 < (2 * l1) then 8192 else (2 * l1) : Int32) = 2 * l1 := by
    rw [if_neg]
    rw [Int32.lt_iff_toInt_lt, h2]
    simp only [Int32.reduceToInt]
    omega
  rw [e]
  have key : ∀ (q j : Nat) (l3 : Int32) (g : Nat → Int32), l3.toInt = (j : Int) → j ≤ 2 * T → (∀ s : Nat, s < j → g s = 0) → Par (L_X1_begin (n + 1) q 1 l1 (2 * l1) l3 a1 a2 a3 g) (fun r => r.1.toInt = ((2 * T : Nat) : Int) - 1 ∧ r.2.1 = 0 ∧ r.2.2.1 = 0 ∧ ∀ s : Nat, s < 2 * T → r.2.2.2 s = 0) := by
    intro q
    induction q using Nat.strongRecOn with
    | _ q ih =>
    intro j l3 g h3 hj hg
    cases q with
    | zero => exact Par.no
    | succ q =>
      rw [L_X1_begin_e1]; unfold B_X1_begin_1
      refine Par.br (fun h => Par.ret ⟨?_, rfl, rfl, fun s hs => hg s ?_⟩) (fun h => Par.br (fun _ => ?_) (fun _ => Par.no))
      · show (2 * l1 - 1 : Int32).toInt = _
        rw [Int32.toInt_sub, h2]
        simp only [Int32.reduceToInt]
        rw [bmI (by omega) (by omega)]
      · rw [Int32.le_iff_toInt_le, h2, h3] at h
        omega
      · rw [Int32.le_iff_toInt_le, h2, h3] at h
        rw [cl1 l3 j h3]
        refine ih q (by omega) (j + 1) _ _ (ad1 l3 j h3 (by omega)) (by omega) (fun s hs => ?_)
        by_cases e9 : s = j
        · rw [e9, upd_eq]
        · rw [upd_ne _ _ e9]; exact hg s (by omega)
  exact key n 0 0 go rfl (Nat.zero_le _) (fun s hs => absurd hs (Nat.not_lt_zero _))
abbrev R6p : Type := Int32 × Int32 × (Nat → Int64) × (Nat → Int64) × (Nat → Int32) × (Nat → Int32)
theorem ndQ_y {R : Nat → Nat → Prop} {n : Nat} (h : ∀ j : Nat, j < n → ¬ R j n) : ndQ R (n + 1) = ndQ R n + 1 := by unfold ndQ; exact cntQ_y h
theorem ndQ_n {R : Nat → Nat → Prop} {n : Nat} (h : ¬ ∀ j : Nat, j < n → ¬ R j n) : ndQ R (n + 1) = ndQ R n := by unfold ndQ; exact cntQ_n h
/-- the pair has a heap already -/
theorem TbI.grow {sm : Int32} {Z n : Nat} {p : Nat → Int64 × Int64} {many greatest : Int32} {gf gs : Nat → Int64} {gz go : Nat → Int32} (hI : TbI sm Z n p many greatest gf gs gz go) (hn : n < 4096) {h : Nat} (hh : (h : Int) < many.toInt) (hp : (gf h, gs h) = p n) {g2 : Int32} {z2 : Nat → Int32} (hz2 : z2 = upd gz h (gz h + 1)) (hg2 : g2 = if greatest < z2 h then z2 h else greatest) : TbI sm Z (n + 1) p many g2 gf gs z2 go := by
  obtain ⟨i1, i2, i3, i4, i5, i6, i7⟩ := hI
  obtain ⟨⟨j0, k1, k2⟩, k3, k4, k5⟩ := i3 h hh
  have hle := cntQ_le (fun j => (gf h, gs h) = p j) n
  have hz : (z2 h).toInt = (gz h).toInt + 1 := by
    rw [hz2, upd_eq]
    exact adI _ _ rfl (by omega) (by omega)
  have hg : g2.toInt = if greatest.toInt < (gz h).toInt + 1 then (gz h).toInt + 1 else greatest.toInt := by
    rw [hg2]
    by_cases c : greatest < z2 h
    · rw [if_pos c]
      rw [Int32.lt_iff_toInt_lt, hz] at c
      rw [if_pos c, hz]
    · rw [if_neg c]
      rw [Int32.lt_iff_toInt_lt, hz] at c
      rw [if_neg c]
  refine ⟨?_, fun j hj => ?_, fun h9 hh9 => ?_, ?_, i5, i6, i7⟩
  · rw [ndQ_n (fun h9 => h9 j0 k1 (by rw [← k2, hp])), i1]
  · rcases Nat.lt_succ_iff_lt_or_eq.mp hj with e | e
    · exact i2 j e
    · exact ⟨h, hh, by rw [hp, e]⟩
  · obtain ⟨⟨j1, q1, q2⟩, q3, q4, q5⟩ := i3 h9 hh9
    refine ⟨⟨j1, by omega, q2⟩, ?_, ?_, q5⟩
    · by_cases e : h9 = h
      · subst e
        rw [hz, cntQ_y hp, q3]
        omega
      · rw [hz2, upd_ne _ _ e, cntQ_n (fun hq => e (i7 h9 h hh9 hh (by rw [hq, hp]))), q3]
    · rw [hg]
      by_cases e : h9 = h
      · subst e
        rw [hz]
        split <;> omega
      · rw [hz2, upd_ne _ _ e]
        split <;> omega
  · rw [hg]
    by_cases c : greatest.toInt < (gz h).toInt + 1
    · rw [if_pos c]
      exact Or.inr ⟨h, hh, hz.symm⟩
    · rw [if_neg c]
      rcases i4 with i4 | ⟨h9, q1, q2⟩
      · exact Or.inl i4
      · refine Or.inr ⟨h9, q1, ?_⟩
        by_cases e : h9 = h
        · subst e; omega
        · rw [hz2, upd_ne _ _ e]; exact q2
/-- a heap of its own, at a free slot of its path -/
theorem TbI.opn {sm : Int32} {Z n : Nat} {p : Nat → Int64 × Int64} {many greatest : Int32} {gf gs : Nat → Int64} {gz go : Nat → Int32} (hI : TbI sm Z n p many greatest gf gs gz go) (hn : n < 4096) {k m : Nat} (hk : k < Z) (hm : many.toInt = (m : Int)) (hf : go ((h0F sm (p n) + k) % Z) = 0) (hb : ∀ e : Nat, e < k → ∃ h : Nat, (go ((h0F sm (p n) + e) % Z)).toInt = (h : Int) + 1 ∧ (h : Int) < many.toInt ∧ (gf h, gs h) ≠ p n) {m2 g2 : Int32} {f2 s2 : Nat → Int64} {z2 o2 : Nat → Int32} (hf2 : f2 = vp_updL gf m (p n).1) (hs2 : s2 = vp_updL gs m (p n).2) (ho2 : o2 = upd go ((h0F sm (p n) + k) % Z) m2) (hm2 : m2 = many + 1) (hz2 : z2 = upd (upd gz m 0) m ((upd gz m 0) m + 1)) (hg2 : g2 = if greatest < z2 m then z2 m else greatest) : TbI sm Z (n + 1) p m2 g2 f2 s2 z2 o2 := by
  obtain ⟨i1, i2, i3, i4, i5, i6, i7⟩ := hI
  have hZ : 0 < Z := by omega
  have hsl := Nat.mod_lt (h0F sm (p n) + k) hZ
  have hnn : ndQ (fun i j => p i = p j) n ≤ n := cntQ_le _ _
  have hm2i : m2.toInt = (m : Int) + 1 := by rw [hm2, adI many _ hm (by omega) (by omega)]
  have hm2z : m2 ≠ 0 := by
    intro e
    rw [e] at hm2i
    have : (0 : Int32).toInt = 0 := by decide
    omega
  -- no heap has this pair
  have hnew : ∀ h : Nat, (h : Int) < many.toInt → (gf h, gs h) ≠ p n := by
    intro h hh e
    obtain ⟨_, _, _, d, d1, d2, d3⟩ := i3 h hh
    rw [e] at d2 d3
    rcases Nat.lt_trichotomy d k with c | c | c
    · obtain ⟨h9, q1, q2, q3⟩ := hb d c
      rw [d2] at q1
      have : h9 = h := by omega
      rw [this] at q3
      exact q3 e
    · rw [c, hf] at d2
      have : (0 : Int32).toInt = 0 := by decide
      omega
    · exact d3 k c hf
  have hpj : ∀ j : Nat, j < n → p j ≠ p n := by
    intro j hj e
    obtain ⟨h, hh, q⟩ := i2 j hj
    exact hnew h hh (q.trans e)
  have hfm : (f2 m, s2 m) = p n := by rw [hf2, hs2, updL_eq, updL_eq]
  have hfo : ∀ h : Nat, h ≠ m → (f2 h, s2 h) = (gf h, gs h) := fun h hne => by rw [hf2, hs2, updL_ne _ _ hne, updL_ne _ _ hne]
  have hzm : (z2 m).toInt = 1 := by
    rw [hz2, upd_eq, upd_eq]
    decide
  have hzo : ∀ h : Nat, h ≠ m → z2 h = gz h := fun h hne => by rw [hz2, upd_ne _ _ hne, upd_ne _ _ hne]
  have hg : g2.toInt = if greatest.toInt < 1 then 1 else greatest.toInt := by
    rw [hg2]
    by_cases c : greatest < z2 m
    · rw [if_pos c]
      rw [Int32.lt_iff_toInt_lt, hzm] at c
      rw [if_pos c, hzm]
    · rw [if_neg c]
      rw [Int32.lt_iff_toInt_lt, hzm] at c
      rw [if_neg c]
  have hkeep : ∀ s : Nat, go s ≠ 0 → o2 s ≠ 0 := by
    intro s hs
    rw [ho2]
    by_cases e : s = (h0F sm (p n) + k) % Z
    · rw [e, upd_eq]; exact hm2z
    · rw [upd_ne _ _ e]; exact hs
  refine ⟨?_, fun j hj => ?_, fun h hh => ?_, ?_, fun s hs => ?_, ?_, fun h h2 hh hh2 he => ?_⟩
  · rw [ndQ_y (fun j hj => hpj j hj), hm2i]
    omega
  · rcases Nat.lt_succ_iff_lt_or_eq.mp hj with e | e
    · obtain ⟨h, hh, q⟩ := i2 j e
      exact ⟨h, by omega, by rw [hfo h (by omega)]; exact q⟩
    · exact ⟨m, by omega, by rw [hfm, e]⟩
  · by_cases e : h = m
    · subst e
      rw [hfm]
      refine ⟨⟨n, by omega, rfl⟩, ?_, ?_, k, hk, ?_, fun e9 he9 => ?_⟩
      · have h0 : cntQ (fun j => p n = p j) n = 0 := by
          have h9 : ∀ q : Nat, q ≤ n → cntQ (fun j => p n = p j) q = 0 := by
            intro q
            induction q with
            | zero => intro _; rfl
            | succ q ih => intro hq; rw [cntQ_n (fun he => hpj q (by omega) he.symm), ih (by omega)]
          exact h9 n (Nat.le_refl _)
        rw [hzm, cntQ_y (P := fun j => p n = p j) (k := n) rfl, h0]
        rfl
      · rw [hzm, hg]
        split <;> omega
      · rw [ho2, upd_eq, hm2i]
      · obtain ⟨h9, q1, _, _⟩ := hb e9 he9
        refine hkeep _ (fun h0 => ?_)
        rw [h0] at q1
        have : (0 : Int32).toInt = 0 := by decide
        omega
    · have hh' : (h : Int) < many.toInt := by omega
      rw [hfo h e, hzo h e]
      obtain ⟨⟨j1, q1, q2⟩, q3, q4, d, d1, d2, d3⟩ := i3 h hh'
      refine ⟨⟨j1, by omega, q2⟩, ?_, ?_, d, d1, ?_, fun e9 he9 => hkeep _ (d3 e9 he9)⟩
      · rw [cntQ_n (hnew h hh'), q3]
      · rw [hg]
        split <;> omega
      · rw [ho2]
        by_cases e9 : (h0F sm (gf h, gs h) + d) % Z = (h0F sm (p n) + k) % Z
        · rw [e9, hf] at d2
          have : (0 : Int32).toInt = 0 := by decide
          omega
        · rw [upd_ne _ _ e9]; exact d2
  · rw [hg]
    by_cases c : greatest.toInt < 1
    · rw [if_pos c]
      exact Or.inr ⟨m, by omega, hzm.symm⟩
    · rw [if_neg c]
      rcases i4 with i4 | ⟨h9, q1, q2⟩
      · exact Or.inl i4
      · exact Or.inr ⟨h9, by omega, by rw [hzo h9 (by omega)]; exact q2⟩
  · rw [ho2]
    by_cases e : s = (h0F sm (p n) + k) % Z
    · rw [e, upd_eq]; omega
    · rw [upd_ne _ _ e]
      have := i5 s hs
      omega
  · have h9 := cntQ_one (P := fun s => o2 s ≠ 0) (Q := fun s => go s ≠ 0) (x := (h0F sm (p n) + k) % Z) (fun s hs hP => by
      rw [ho2, upd_ne _ _ hs] at hP; exact hP) Z
    rw [if_pos hsl] at h9
    omega
  · by_cases e : h = m
    · by_cases e2 : h2 = m
      · rw [e, e2]
      · subst e
        rw [hfm, hfo h2 e2] at he
        exact absurd he.symm (hnew h2 (by omega))
    · by_cases e2 : h2 = m
      · subst e2
        rw [hfm, hfo h e] at he
        exact absurd he (hnew h (by omega))
      · rw [hfo h e, hfo h2 e2] at he
        exact i7 h h2 (by omega) (by omega) he
set_option maxHeartbeats 2000000 in
theorem E_X1_put (K : Nat) (hK : 1000000000 ≤ K) (j1 j3 : Int64) (sm many greatest : Int32) (gf gs : Nat → Int64) (gz go : Nat → Int32) (a n : Nat) (p : Nat → Int64 × Int64) (ha : a ≤ 13) (hs : sm.toInt = ((2 ^ a : Nat) : Int) - 1) (hnZ : n < 2 ^ a) (hn : n < 4096) (hp : p n = (j1, j3)) (hI : TbI sm (2 ^ a) n p many greatest gf gs gz go) : Par (F_X1_put K j1 j3 sm many greatest gf gs gz go) (fun r => TbI sm (2 ^ a) (n + 1) p r.1 r.2.1 r.2.2.1 r.2.2.2.1 r.2.2.2.2.1 r.2.2.2.2.2) := by
  have h13 : 2 ^ a ≤ 2 ^ 13 := Nat.pow_le_pow_right (by omega) ha
  have h13' : (2 : Nat) ^ 13 = 8192 := by decide
  have hZ1 : 1 ≤ 2 ^ a := Nat.pow_pos (by omega)
  obtain ⟨i1, i2, i3, i4, i5, i6, i7⟩ := id hI
  have hnn : ndQ (fun i j => p i = p j) n ≤ n := cntQ_le _ _
  obtain ⟨m, hm⟩ : ∃ m : Nat, many.toInt = (m : Int) := ⟨_, i1⟩
  have hmn : m ≤ n := by omega
  obtain ⟨g0, g1⟩ := h0F_lt hs hZ1 (by omega) (j1, j3)
  unfold F_X1_put
  obtain ⟨q0, rfl⟩ : ∃ n9, K = n9 + 1 := ⟨K - 1, by omega⟩
  rw [L_X1_put_e0]; unfold B_X1_put_0
  generalize hQ : (fun r : R6p => TbI sm (2 ^ a) (n + 1) p r.1 r.2.1 r.2.2.1 r.2.2.2.1 r.2.2.2.2.1 r.2.2.2.2.2) = Q
  have key : ∀ (q k : Nat) (l7 l8 : Int32) (l9 : Int32), l7.toInt = (((h0F sm (j1, j3) + k) % 2 ^ a : Nat) : Int) → l8.toInt = (k : Int) → k ≤ 2 ^ a → (∀ e : Nat, e < k → ∃ h : Nat, (go ((h0F sm (j1, j3) + e) % 2 ^ a)).toInt = (h : Int) + 1 ∧ (h : Int) < many.toInt ∧ (gf h, gs h) ≠ (j1, j3)) → Par (L_X1_put (q0 + 1) q 1 j1 j3 (hshE j1 j3) l7 l8 l9 sm many greatest gf gs gz go) Q := by
    intro q
    induction q using Nat.strongRecOn with
    | _ q ih =>
    intro k l7 l8 l9 h7 h8 hkZ hb
    cases q with
    | zero => exact Par.no
    | succ q =>
      rw [L_X1_put_e1]; unfold B_X1_put_1
      refine Par.br (fun h => ?_) (fun h => ?_)
      · -- no free slot: there are too few heaps
        exfalso
        rw [Int32.lt_iff_toInt_lt, hs, h8] at h
        have hk : k = 2 ^ a := by omega
        have hfull : ∀ s : Nat, s < 2 ^ a → go s ≠ 0 := by
          intro s hs9
          have hex : ∃ e : Nat, e < k ∧ (h0F sm (j1, j3) + e) % 2 ^ a = s := by
            rcases Nat.lt_or_ge s (h0F sm (j1, j3)) with c | c
            · refine ⟨s + 2 ^ a - h0F sm (j1, j3), by omega, ?_⟩
              have e9 : h0F sm (j1, j3) + (s + 2 ^ a - h0F sm (j1, j3)) = s + 2 ^ a := by omega
              rw [e9, Nat.add_mod_right, Nat.mod_eq_of_lt hs9]
            · refine ⟨s - h0F sm (j1, j3), by omega, ?_⟩
              have e9 : h0F sm (j1, j3) + (s - h0F sm (j1, j3)) = s := by omega
              rw [e9, Nat.mod_eq_of_lt hs9]
          obtain ⟨e, e1, e2⟩ := hex
          obtain ⟨h9, q1, _, _⟩ := hb e e1
          rw [e2] at q1
          intro h0
          rw [h0] at q1
          have : (0 : Int32).toInt = 0 := by decide
          omega
        have := cntQ_all (2 ^ a) hfull
        rw [this] at i6
        omega
      · rw [Int32.lt_iff_toInt_lt, hs, h8] at h
        have hk : k < 2 ^ a := by omega
        have hsl := Nat.mod_lt (h0F sm (j1, j3) + k) (show 0 < 2 ^ a by omega)
        refine Par.br (fun _ => ?_) (fun _ => Par.no)
        rw [cl1 l7 _ h7]
        obtain ⟨v1, v2⟩ := i5 _ hsl
        have hvm : (go ((h0F sm (j1, j3) + k) % 2 ^ a) - 1).toInt = (go ((h0F sm (j1, j3) + k) % 2 ^ a)).toInt - 1 := by
          rw [Int32.toInt_sub]
          simp only [Int32.reduceToInt]
          exact bmI (by omega) (by omega)
        refine Par.br (fun hpos => ?_) (fun hneg => ?_)
        · rw [Int32.le_iff_toInt_le, hvm] at hpos
          simp only [Int32.reduceToInt] at hpos
          obtain ⟨h, hh⟩ : ∃ h : Nat, (go ((h0F sm (j1, j3) + k) % 2 ^ a)).toInt = (h : Int) + 1 := ⟨((go ((h0F sm (j1, j3) + k) % 2 ^ a)).toInt - 1).toNat, by omega⟩
          have hhm : (h : Int) < many.toInt := by omega
          have hl9 : (go ((h0F sm (j1, j3) + k) % 2 ^ a) - 1).toInt = (h : Int) := by omega
          generalize go ((h0F sm (j1, j3) + k) % 2 ^ a) - 1 = y9 at hl9
          have three : ∀ q2 : Nat, q2 < q + 1 → (gf h, gs h) ≠ (j1, j3) → Par (L_X1_put (q0 + 1) q2 3 j1 j3 (hshE j1 j3) l7 l8 y9 sm many greatest gf gs gz go) Q := by
            intro q2 hq2 hne
            cases q2 with
            | zero => exact Par.no
            | succ q2 =>
              rw [L_X1_put_e3]; unfold B_X1_put_3
              refine ih q2 (by omega) (k + 1) _ _ _ ?_ (ad1 l8 k h8 (by omega)) (by omega) (fun e he => ?_)
              · rw [nx_sl h7 hs ha hsl]
                have e9 : ((h0F sm (j1, j3) + k) % 2 ^ a + 1) % 2 ^ a = (h0F sm (j1, j3) + (k + 1)) % 2 ^ a := by rw [Nat.mod_add_mod]; rfl
                rw [e9]
              · by_cases e9 : e = k
                · rw [e9]; exact ⟨h, hh, hhm, hne⟩
                · exact hb e (by omega)
          cases q with
          | zero => exact Par.no
          | succ q =>
            rw [L_X1_put_e2]; unfold B_X1_put_2
            rw [cl1 y9 h hl9]
            refine Par.br (fun _ => ?_) (fun _ => Par.no)
            refine Par.br (fun hc1 => ?_) (fun hc1 => three q (by omega) (fun e => hc1 ((lgq _ _).mpr (congrArg Prod.fst e))))
            refine Par.br (fun _ => ?_) (fun _ => Par.no)
            refine Par.br (fun hc2 => ?_) (fun hc2 => three q (by omega) (fun e => hc2 ((lgq _ _).mpr (congrArg Prod.snd e))))
            unfold F_X1_grow
            rw [L_X1_grow_e0]; unfold B_X1_grow_0
            rw [cl1 y9 h hl9]
            refine Par.bd (P := fun r => r.2 = upd gz h (gz h + 1) ∧ r.1 = if greatest < r.2 h then r.2 h else greatest) (Par.br (fun _ => Par.br (fun _ => Par.br (fun _ => Par.ret ⟨rfl, rfl⟩) (fun _ => Par.no)) (fun _ => Par.no)) (fun _ => Par.no)) (fun r hr => Par.ret ?_)
            rw [← hQ]
            exact TbI.grow hI hn hhm (by rw [hp, (lgq _ _).mp hc1, (lgq _ _).mp hc2]) hr.1 hr.2
        · rw [Int32.le_iff_toInt_le, hvm] at hneg
          simp only [Int32.reduceToInt] at hneg
          have hz : go ((h0F sm (j1, j3) + k) % 2 ^ a) = 0 := Int32.toInt_inj.mp (by simp only [Int32.reduceToInt]; omega)
          have hmin : (if 4095 < many then 4095 else many : Int32) = many := by
            rw [if_neg]
            rw [Int32.lt_iff_toInt_lt, hm]
            simp only [Int32.reduceToInt]
            omega
          refine Par.bd (P := fun r : Int32 × Int32 × (Nat → Int64) × (Nat → Int64) × (Nat → Int32) × (Nat → Int32) => r.1 = many ∧ r.2.1 = many + 1 ∧ r.2.2.1 = vp_updL gf m j1 ∧ r.2.2.2.1 = vp_updL gs m j3 ∧ r.2.2.2.2.1 = upd gz m 0 ∧ r.2.2.2.2.2 = upd go ((h0F sm (j1, j3) + k) % 2 ^ a) (many + 1)) ?_ (fun r hr => ?_)
          · unfold F_X1_open
            rw [L_X1_open_e0]; unfold B_X1_open_0
            rw [hmin, cl1 many m hm, cl1 l7 _ h7]
            exact Par.br (fun _ => Par.br (fun _ => Par.br (fun _ => Par.br (fun _ => Par.ret ⟨rfl, rfl, rfl, rfl, rfl, rfl⟩) (fun _ => Par.no)) (fun _ => Par.no)) (fun _ => Par.no)) (fun _ => Par.no)
          · obtain ⟨r1, r2, r3, r4, r5, r6⟩ := hr
            cases q with
            | zero => exact Par.no
            | succ q =>
              rw [L_X1_put_e2]; unfold B_X1_put_2
              rw [r1, cl1 many m hm]
              have y1 : r.2.2.1 m = j1 := by rw [r3, updL_eq]
              have y2 : r.2.2.2.1 m = j3 := by rw [r4, updL_eq]
              refine Par.br (fun _ => ?_) (fun _ => Par.no)
              refine Par.yes (by rw [y1, lgq]) ?_
              refine Par.br (fun _ => ?_) (fun _ => Par.no)
              refine Par.yes (by rw [y2, lgq]) ?_
              unfold F_X1_grow
              rw [L_X1_grow_e0]; unfold B_X1_grow_0
              rw [cl1 many m hm]
              refine Par.bd (P := fun t => t.2 = upd r.2.2.2.2.1 m (r.2.2.2.2.1 m + 1) ∧ t.1 = if greatest < t.2 m then t.2 m else greatest) (Par.br (fun _ => Par.br (fun _ => Par.br (fun _ => Par.ret ⟨rfl, rfl⟩) (fun _ => Par.no)) (fun _ => Par.no)) (fun _ => Par.no)) (fun t ht => Par.ret ?_)
              rw [← hQ]
              refine TbI.opn hI hn (k := k) (m := m) hk hm (by rw [hp]; exact hz) (by rw [hp]; exact hb) (by rw [hp]; exact r3) (by rw [hp]; exact r4) (by rw [hp, r2]; exact r6) r2 ?_ ht.2
              rw [ht.1, r5]
  refine key q0 0 _ _ _ ?_ rfl (Nat.zero_le _) (fun e he => absurd he (Nat.not_lt_zero _))
  rw [Nat.add_zero, Nat.mod_eq_of_lt g1]
  exact g0
