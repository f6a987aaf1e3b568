/-! levels of sums, and what statements are held to: the reference's side, and the mask -/
def sl1 (g : Nat → Int32) (x : Int32) : Int32 := if 10 ≤ x.toInt ∧ x.toInt ≤ 15 then g (x - 10).toNatClampNeg else 0
def slv (g : Nat → Int32) (e : List Int32) : Int32 := e.foldl (fun a x => a ||| sl1 g x) 0
def cod (D : List SRc) (i : Nat) : List Int32 := ((D[i]?).map (fun r => r.2.2.1)).getD []
def nf (D : List SRc) (i : Nat) : Int32 := ((D[i]?).map (fun r => r.2.1)).getD 0
def hld (g : Nat → Int32) (D : List SRc) (N : Nat → Nat) (i : Nat) : Nat → Int32
  | 0 => 0
  | k + 1 => hld g D N i k ||| (if kf D k = 2 ∧ i < N k then slv g (cod D k) else 0)
theorem hld_s (g : Nat → Int32) (D : List SRc) (N : Nat → Nat) (i k : Nat) : hld g D N i (k + 1) = hld g D N i k ||| (if kf D k = 2 ∧ i < N k then slv g (cod D k) else 0) := rfl
theorem cod_at {D : List SRc} {i : Nat} {r : SRc} (h : D[i]? = some r) : cod D i = r.2.2.1 := by unfold cod; rw [h]; rfl
theorem kf_at {D : List SRc} {i : Nat} {r : SRc} (h : D[i]? = some r) : kf D i = r.1 := by unfold kf; rw [h]; rfl
theorem nf_at {D : List SRc} {i : Nat} {r : SRc} (h : D[i]? = some r) : nf D i = r.2.1 := by unfold nf; rw [h]; rfl
theorem pf_at {D : List SRc} {i : Nat} {r : SRc} (h : D[i]? = some r) : pf D i = r.2.2.2 := by unfold pf; rw [h]; rfl
theorem slv_take (g : Nat → Int32) (e : List Int32) (t : Nat) (x : Int32) (h : e[t]? = some x) : slv g (e.take (t + 1)) = slv g (e.take t) ||| sl1 g x := by
  unfold slv
  rw [List.take_succ, h, List.foldl_append]
  rfl
abbrev bzP (m l3 : Int32) : Prop := ((m.toUInt32 >>> ((2 * l3).toUInt32 &&& Int32.toUInt32 31)).toInt32 &&& 1) = 0
theorem m1b : ∀ i : Fin 32, (1#32).getLsbD i.val = decide (i.val = 0) := by decide +kernel
theorem bv_one (v : BitVec 32) (s : Nat) : ((v >>> s) &&& 1#32) = 0#32 ↔ v.getLsbD s = false := by
  constructor
  · intro h
    have h2 := congrArg (fun z : BitVec 32 => z.getLsbD 0) h
    try simp only at h2
    rw [BitVec.getLsbD_and, BitVec.getLsbD_ushiftRight] at h2
    simpa using h2
  · intro h
    apply BitVec.eq_of_getLsbD_eq
    intro i hi
    have e := m1b ⟨i, hi⟩
    simp only at e
    rw [BitVec.getLsbD_and, BitVec.getLsbD_ushiftRight, e]
    by_cases h0 : i = 0
    · subst h0
      rw [Nat.add_zero, h]
      simp
    · simp [h0]
theorem bz_bit (m : Int32) (k : Nat) (hk : k < 6) : bzP m (Int32.ofNat k) ↔ m.toBitVec.getLsbD (2 * k) = false := by
  unfold bzP
  rw [← Int32.toBitVec_inj]
  rcases (show k = 0 ∨ k = 1 ∨ k = 2 ∨ k = 3 ∨ k = 4 ∨ k = 5 by omega) with rfl | rfl | rfl | rfl | rfl | rfl
  · exact bv_one m.toBitVec 0
  · exact bv_one m.toBitVec 2
  · exact bv_one m.toBitVec 4
  · exact bv_one m.toBitVec 6
  · exact bv_one m.toBitVec 8
  · exact bv_one m.toBitVec 10
def lvM (m : Int32) (g : Nat → Int32) : Nat → Int32
  | 0 => 0
  | c + 1 => if bzP m (Int32.ofNat c) then lvM m g c else lvM m g c ||| g c
theorem lvM_or (m C : Int32) (g : Nat → Int32) (d : Nat) (hC : ∀ k : Nat, k < 6 → C.toBitVec.getLsbD (2 * k) = decide (k = d)) : ∀ n : Nat, n ≤ 6 → lvM (m ||| C) g n = if d < n then lvM m g n ||| g d else lvM m g n := by
  intro n
  induction n with
  | zero => intro _; rw [if_neg (Nat.not_lt_zero _)]; rfl
  | succ n ih =>
    intro hn
    have ih := ih (by omega)
    have hb : bzP (m ||| C) (Int32.ofNat n) ↔ (bzP m (Int32.ofNat n) ∧ n ≠ d) := by
      rw [bz_bit _ n (by omega), bz_bit _ n (by omega)]
      have e : (m ||| C).toBitVec = m.toBitVec ||| C.toBitVec := rfl
      rw [e, BitVec.getLsbD_or, hC n (by omega)]
      simp
    unfold lvM
    by_cases hd : n = d
    · subst hd
      rw [if_neg (fun h => (hb.mp h).2 rfl), ih, if_neg (Nat.lt_irrefl _), if_pos (Nat.lt_succ_self _)]
      split
      · rfl
      · rw [Int32.or_assoc, Int32.or_self]
    · have h2 : (d < n + 1) = (d < n) := propext ⟨fun h => by omega, fun h => by omega⟩
      simp only [h2]
      by_cases hz : bzP m (Int32.ofNat n)
      · rw [if_pos (hb.mpr ⟨hz, hd⟩), if_pos hz, ih]
      · rw [if_neg (fun h => hz (hb.mp h).1), if_neg hz, ih]
        split
        · rw [Int32.or_assoc, Int32.or_comm (g d), ← Int32.or_assoc]
        · rfl
theorem six_x (x : Int32) (h : 10 ≤ x.toInt ∧ x.toInt ≤ 15) : x = 10 ∨ x = 11 ∨ x = 12 ∨ x = 13 ∨ x = 14 ∨ x = 15 := by
  have h2 : x.toInt = (10 : Int32).toInt ∨ x.toInt = (11 : Int32).toInt ∨ x.toInt = (12 : Int32).toInt ∨ x.toInt = (13 : Int32).toInt ∨ x.toInt = (14 : Int32).toInt ∨ x.toInt = (15 : Int32).toInt := by
    simp only [Int32.reduceToInt]; omega
  simpa only [Int32.toInt_inj] using h2
theorem six_k (P : Nat → Prop) (h0 : P 0) (h1 : P 1) (h2 : P 2) (h3 : P 3) (h4 : P 4) (h5 : P 5) : ∀ k : Nat, k < 6 → P k := by
  intro k hk
  rcases (show k = 0 ∨ k = 1 ∨ k = 2 ∨ k = 3 ∨ k = 4 ∨ k = 5 by omega) with rfl | rfl | rfl | rfl | rfl | rfl <;> assumption
theorem mask_x (x : Int32) (h : 10 ≤ x.toInt ∧ x.toInt ≤ 15) : (x - 10).toNatClampNeg < 6 ∧ ∀ k : Nat, k < 6 → ((3 : Int32) <<< ((2 * (x - 10)) &&& 31)).toBitVec.getLsbD (2 * k) = decide (k = (x - 10).toNatClampNeg) := by
  rcases six_x x h with rfl | rfl | rfl | rfl | rfl | rfl
  · exact ⟨by decide, six_k _ (by decide +kernel) (by decide +kernel) (by decide +kernel) (by decide +kernel) (by decide +kernel) (by decide +kernel)⟩
  · exact ⟨by decide, six_k _ (by decide +kernel) (by decide +kernel) (by decide +kernel) (by decide +kernel) (by decide +kernel) (by decide +kernel)⟩
  · exact ⟨by decide, six_k _ (by decide +kernel) (by decide +kernel) (by decide +kernel) (by decide +kernel) (by decide +kernel) (by decide +kernel)⟩
  · exact ⟨by decide, six_k _ (by decide +kernel) (by decide +kernel) (by decide +kernel) (by decide +kernel) (by decide +kernel) (by decide +kernel)⟩
  · exact ⟨by decide, six_k _ (by decide +kernel) (by decide +kernel) (by decide +kernel) (by decide +kernel) (by decide +kernel) (by decide +kernel)⟩
  · exact ⟨by decide, six_k _ (by decide +kernel) (by decide +kernel) (by decide +kernel) (by decide +kernel) (by decide +kernel) (by decide +kernel)⟩
theorem lvM_CMk (g : Nat → Int32) : ∀ (e : List Int32) (c : Int32), lvM (CMk e c) g 6 = e.foldl (fun a x => a ||| sl1 g x) (lvM c g 6) := by
  intro e
  induction e with
  | nil => intro c; rfl
  | cons x e ih =>
    intro c
    have e1 : CMk (x :: e) c = CMk e (if 10 ≤ x ∧ x ≤ 15 then c ||| ((3 : Int32) <<< ((2 * (x - 10)) &&& 31)) else c) := rfl
    rw [e1, ih, List.foldl_cons]
    congr 1
    unfold sl1
    have hx : (10 ≤ x ∧ x ≤ 15) ↔ (10 ≤ x.toInt ∧ x.toInt ≤ 15) := by
      rw [Int32.le_iff_toInt_le, Int32.le_iff_toInt_le]
      simp only [Int32.reduceToInt]
    by_cases h : 10 ≤ x.toInt ∧ x.toInt ≤ 15
    · obtain ⟨a, b⟩ := mask_x x h
      rw [if_pos (hx.mpr h), if_pos h, lvM_or _ _ _ _ b 6 (Nat.le_refl _), if_pos a]
    · rw [if_neg (fun h9 => h (hx.mp h9)), if_neg h, Int32.or_zero]
theorem lvM_0 (g : Nat → Int32) : lvM 0 g 6 = 0 := by
  have hb : ∀ k : Nat, k < 6 → bzP 0 (Int32.ofNat k) := six_k _ (by decide) (by decide) (by decide) (by decide) (by decide) (by decide)
  simp only [lvM]
  rw [if_pos (hb 5 (by decide)), if_pos (hb 4 (by decide)), if_pos (hb 3 (by decide)), if_pos (hb 2 (by decide)), if_pos (hb 1 (by decide)), if_pos (hb 0 (by decide))]
theorem E_X0_levelOf (K : Nat) (hK : 1000000000 ≤ K) (e : List Int32) (lvf : Nat → Int32) : Par (F_X0_levelOf K (CMk e 0) lvf) (fun r => r = slv lvf e) := by
  have key : ∀ (n c : Nat) (m l2 l3 : Int32), l3.toInt = (c : Int) → c ≤ 6 → l2 = lvM m lvf c → Par (L_X0_levelOf K n 1 m l2 l3 lvf) (fun r => r = lvM m lvf 6) := by
    intro n
    induction n using Nat.strongRecOn with
    | _ n ih =>
    intro c m l2 l3 h3 hc h2
    cases n with
    | zero => exact Par.no
    | succ n =>
      rw [L_X0_levelOf_e1]; unfold B_X0_levelOf_1
      refine Par.br (fun h => ?_) (fun h => ?_)
      · rw [Int32.le_iff_toInt_le, h3] at h
        simp only [Int32.reduceToInt] at h
        have : c = 6 := by omega
        rw [this] at h2
        exact Par.ret h2
      · rw [Int32.le_iff_toInt_le, h3] at h
        simp only [Int32.reduceToInt] at h
        have e3 : l3 = Int32.ofNat c := ofn_of l3 c (by omega) h3
        have go : ∀ (q : Nat) (x : Int32), q < n + 1 → x = lvM m lvf (c + 1) → Par (L_X0_levelOf K q 2 m x l3 lvf) (fun r => r = lvM m lvf 6) := by
          intro q x hq hx
          cases q with
          | zero => exact Par.no
          | succ q =>
            rw [L_X0_levelOf_e2]; unfold B_X0_levelOf_2
            exact ih q (by omega) (c + 1) m x (l3 + 1) (ad1 l3 c h3 (by omega)) (by omega) hx
        refine Par.br (fun hz => go n _ (by omega) ?_) (fun hz => Par.br (fun _ => go n _ (by omega) ?_) (fun _ => Par.no))
        · unfold lvM
          rw [e3] at hz
          rw [if_pos hz]; exact h2
        · unfold lvM
          rw [e3] at hz
          rw [if_neg hz, cl1 l3 c h3, h2]
  have hs : lvM (CMk e 0) lvf 6 = slv lvf e := by rw [lvM_CMk, lvM_0]; rfl
  rw [← hs]
  unfold F_X0_levelOf
  obtain ⟨n, rfl⟩ : ∃ n9, K = n9 + 1 := ⟨K - 1, by omega⟩
  rw [L_X0_levelOf_e0]; unfold B_X0_levelOf_0
  exact key n 0 _ 0 0 rfl (Nat.zero_le _) rfl
theorem E_m_sumLevel (K : Nat) (hK : 1000000000 ≤ K) (l1 l2 : Int32) (alev astm asm arsd g : Nat → Int32) (D : List SRc) (M N : Nat → Nat) (i : Nat) (h1 : l1.toInt = (i : Int)) (hi : i < 30) (hr : FRow astm asm D M N i) (h3 : kf D i ≠ 3) (hg : g = if l2 = 0 then alev else arsd) : Par (F_m_sumLevel K l1 l2 alev astm asm arsd) (fun r => r = slv g (cod D i)) := by
  obtain ⟨r, cf, a1, a2, a3, a4, a5, a6, a7, a8, a9⟩ := hr
  have hcf := a4 (by rw [← kf_at a1]; exact h3)
  rw [cod_at a1]
  have h8 : (8 * l1).toInt = ((8 * i : Nat) : Int) := by
    rw [Int32.toInt_mul, h1]
    simp only [Int32.reduceToInt]
    rw [bmI (by omega) (by omega)]; omega
  have e2 : (8 * l1 + 2).toNatClampNeg = 8 * i + 2 := adN _ 2 _ 2 h8 (by decide) (by omega)
  have e3 : (8 * l1 + 3).toNatClampNeg = 8 * i + 3 := adN _ 3 _ 3 h8 (by decide) (by omega)
  have key : ∀ (n t : Nat) (l3 l4 l5 l6 s0 s1 : Int32), l4.toInt = (cf : Int) → l5.toInt = ((cf + t : Nat) : Int) → t ≤ r.2.2.1.length → l3 = slv g (r.2.2.1.take t) → Par (L_m_sumLevel K n 1 l1 l2 l3 l4 l5 l6 s0 s1 alev astm asm arsd) (fun q => q = slv g r.2.2.1) := by
    intro n
    induction n using Nat.strongRecOn with
    | _ n ih =>
    intro t l3 l4 l5 l6 s0 s1 h4 h5 ht hl
    cases n with
    | zero => exact Par.no
    | succ n =>
      rw [L_m_sumLevel_e1]; unfold B_m_sumLevel_1
      refine Par.br (fun _ => ?_) (fun _ => Par.no)
      rw [e3]
      have hsum : (l4 + astm (8 * i + 3)).toInt = ((cf + r.2.2.1.length : Nat) : Int) := by
        rw [adC l4 _ (cf : Int) (r.2.2.1.length : Int) h4 a5 (by omega) (by omega)]; omega
      refine Par.br (fun h => ?_) (fun h => ?_)
      · rw [Int32.le_iff_toInt_le, hsum, h5] at h
        have : t = r.2.2.1.length := by omega
        rw [this, List.take_length] at hl
        exact Par.ret hl
      · rw [Int32.le_iff_toInt_le, hsum, h5] at h
        have htl : t < r.2.2.1.length := by omega
        have hx := List.getElem?_eq_getElem htl
        generalize r.2.2.1[t] = x at hx
        have hax : asm l5.toNatClampNeg = x := by rw [cl1 l5 _ h5]; exact a7 t x hx
        refine Par.br (fun _ => ?_) (fun _ => Par.no)
        rw [hax]
        have fin : ∀ (q : Nat) (b1 b2 b3 : Int32), q < n + 1 → b3 ||| b2 = slv g (r.2.2.1.take (t + 1)) → Par (L_m_sumLevel K q 3 l1 l2 l3 l4 l5 b1 b2 b3 alev astm asm arsd) (fun q => q = slv g r.2.2.1) := by
          intro q b1 b2 b3 hq hb
          cases q with
          | zero => exact Par.no
          | succ q =>
            rw [L_m_sumLevel_e3]; unfold B_m_sumLevel_3
            exact ih q (by omega) (t + 1) _ l4 (l5 + 1) 0 0 0 h4 (ad1 l5 (cf + t) h5 (by omega)) (by omega) hb
        have hin : Par (F_m_in K x 10 15) (fun q => (q = 1 ∧ 10 ≤ x.toInt ∧ x.toInt ≤ 15) ∨ (q = 0 ∧ ¬ (10 ≤ x.toInt ∧ x.toInt ≤ 15))) := by
          refine (T_m_in K hK x 10 15 True.intro).pr.mono (fun q hq => ?_)
          simp only [Int32.reduceToInt] at hq
          rcases hq with ⟨p, q1, q2⟩ | ⟨p, q1⟩
          · exact Or.inl ⟨p, q1, q2⟩
          · exact Or.inr ⟨p, by omega⟩
        refine Par.bd hin (fun o ho => ?_)
        rcases ho with ⟨p, hx1⟩ | ⟨p, hx1⟩
        · refine Par.not (by rw [p]; decide) ?_
          refine Par.br (fun _ => ?_) (fun _ => Par.no)
          cases n with
          | zero => exact Par.no
          | succ n =>
            rw [L_m_sumLevel_e2]; unfold B_m_sumLevel_2
            have hne : ¬ (x - 10 = -9) := by
              rcases six_x x hx1 with rfl | rfl | rfl | rfl | rfl | rfl <;> decide
            have hs : l3 ||| g (x - 10).toNatClampNeg = slv g (r.2.2.1.take (t + 1)) := by
              rw [slv_take g _ t x hx, ← hl]
              unfold sl1; rw [if_pos hx1]
            refine Par.not hne (Par.br (fun hz => ?_) (fun hz => ?_))
            · refine Par.br (fun _ => fin n _ _ _ (by omega) ?_) (fun _ => Par.no)
              rw [← hs, hg, if_pos hz]
            · refine Par.br (fun _ => fin n _ _ _ (by omega) ?_) (fun _ => Par.no)
              rw [← hs, hg, if_neg hz]
        · refine Par.yes p ?_
          cases n with
          | zero => exact Par.no
          | succ n =>
            rw [L_m_sumLevel_e2]; unfold B_m_sumLevel_2
            refine Par.yes rfl (fin n _ _ _ (by omega) ?_)
            rw [slv_take g _ t x hx, ← hl]
            unfold sl1; rw [if_neg hx1]
  unfold F_m_sumLevel
  obtain ⟨n, rfl⟩ : ∃ n9, K = n9 + 1 := ⟨K - 1, by omega⟩
  rw [L_m_sumLevel_e0]; unfold B_m_sumLevel_0
  refine Par.br (fun _ => ?_) (fun _ => Par.no)
  rw [e2]
  exact key n 0 0 _ _ 0 0 0 hcf (by rw [hcf]; rfl) (Nat.zero_le _) rfl
theorem E_m_heldTo (K : Nat) (hK : 1000000000 ≤ K) (l1 l2 : Int32) (alev astm asm arsd g : Nat → Int32) (D : List SRc) (M N : Nat → Nat) (i : Nat) (h1 : l1.toInt = (i : Int)) (hi : i < 30) (hr : ∀ k : Nat, k < i → FRow astm asm D M N k) (hg : g = if l2 = 0 then alev else arsd) : Par (F_m_heldTo K l1 l2 alev astm asm arsd) (fun r => r = hld g D N i i) := by
  have key : ∀ (n k : Nat) (l3 l4 s0 s1 : Int32), l4.toInt = (k : Int) → k ≤ i → l3 = hld g D N i k → Par (L_m_heldTo K n 1 l1 l2 l3 l4 s0 s1 alev astm asm arsd) (fun r => r = hld g D N i i) := by
    intro n
    induction n using Nat.strongRecOn with
    | _ n ih =>
    intro k l3 l4 s0 s1 h4 hk hl
    cases n with
    | zero => exact Par.no
    | succ n =>
      rw [L_m_heldTo_e1]; unfold B_m_heldTo_1
      refine Par.br (fun h => ?_) (fun h => ?_)
      · rw [Int32.le_iff_toInt_le, h1, h4] at h
        have : k = i := by omega
        rw [this] at hl
        exact Par.ret hl
      · rw [Int32.le_iff_toInt_le, h1, h4] at h
        have hki : k < i := by omega
        have hrow := hr k hki
        have hrow2 := hrow
        obtain ⟨r, cf, a1, a2, a3, a4, a5, a6, a7, a8, a9⟩ := hrow
        have h8 : (8 * l4).toInt = ((8 * k : Nat) : Int) := by
          rw [Int32.toInt_mul, h4]
          simp only [Int32.reduceToInt]
          rw [bmI (by omega) (by omega)]; omega
        have e5 : (8 * l4 + 5).toNatClampNeg = 8 * k + 5 := adN _ 5 _ 5 h8 (by decide) (by omega)
        have hkk := kf_at a1
        refine Par.br (fun _ => ?_) (fun _ => Par.no)
        rw [cl1 _ _ h8, a2, e5]
        have fin : ∀ (q : Nat) (b2 b3 : Int32), q < n + 1 → b3 ||| b2 = hld g D N i (k + 1) → Par (L_m_heldTo K q 3 l1 l2 l3 l4 b2 b3 alev astm asm arsd) (fun r => r = hld g D N i i) := by
          intro q b2 b3 hq hb
          cases q with
          | zero => exact Par.no
          | succ q =>
            rw [L_m_heldTo_e3]; unfold B_m_heldTo_3
            exact ih q (by omega) (k + 1) _ (l4 + 1) 0 0 (ad1 l4 _ h4 (by omega)) (by omega) hb
        have skip : ∀ (q : Nat), q < n + 1 → ¬ (kf D k = 2 ∧ i < N k) → Par (L_m_heldTo K q 2 l1 l2 l3 l4 l3 0 alev astm asm arsd) (fun r => r = hld g D N i i) := by
          intro q hq hn
          cases q with
          | zero => exact Par.no
          | succ q =>
            rw [L_m_heldTo_e2]; unfold B_m_heldTo_2
            refine fin q _ _ (by omega) ?_
            rw [hld_s, if_neg hn, hl]
        refine Par.br (fun h2 => ?_) (fun h2 => skip n (by omega) (fun h9 => h2 (by rw [← hkk]; exact h9.1)))
        refine Par.br (fun _ => ?_) (fun _ => Par.no)
        refine Par.br (fun h5 => skip n (by omega) (fun h9 => ?_)) (fun h5 => ?_)
        · rw [Int32.le_iff_toInt_le, a9, h1] at h5
          have := h9.2
          omega
        · rw [Int32.le_iff_toInt_le, a9, h1] at h5
          refine Par.bd (E_m_sumLevel K hK l4 l2 alev astm asm arsd g D M N k h4 (by omega) hrow2 (by rw [hkk, h2]; decide) hg) (fun o ho => fin n _ _ (by omega) ?_)
          rw [hld_s, if_pos ⟨by rw [hkk]; exact h2, by omega⟩, hl, ho]
  unfold F_m_heldTo
  obtain ⟨n, rfl⟩ : ∃ n9, K = n9 + 1 := ⟨K - 1, by omega⟩
  rw [L_m_heldTo_e0]; unfold B_m_heldTo_0
  exact key n 0 0 0 0 0 rfl (Nat.zero_le _) rfl
/-! what a statement is held to, by the one above it -/
theorem hld_no {g : Nat → Int32} {D : List SRc} {N : Nat → Nat} {i : Nat} (h : ∀ k : Nat, k < i → bkP D k → N k ≤ i) : ∀ n : Nat, n ≤ i → hld g D N i n = 0 := by
  intro n
  induction n with
  | zero => intro _; rfl
  | succ n ih =>
    intro hn
    rw [hld_s]
    rw [ih (by omega), if_neg (fun h9 => by have := h n (by omega) (Or.inl h9.1); have := h9.2; omega)]
    rfl
theorem hld_par {g : Nat → Int32} {D : List SRc} {N : Nat → Nat} {i p : Nat} (hp : p < i) (hb : bkP D p) (hpN : i < N p) (hl : kf D p = 3 → cod D p = []) (h : ∀ k : Nat, k < i → bkP D k → (i < N k ↔ k = p ∨ (k < p ∧ p < N k))) : hld g D N i i = hld g D N p p ||| slv g (cod D p) := by
  have low : ∀ n : Nat, n ≤ p → hld g D N i n = hld g D N p n := by
    intro n
    induction n with
    | zero => intro _; rfl
    | succ n ih =>
      intro hn
      rw [hld_s, hld_s]
      rw [ih (by omega)]
      have : (kf D n = 2 ∧ i < N n) ↔ (kf D n = 2 ∧ p < N n) := by
        constructor
        · rintro ⟨a, b⟩
          rcases (h n (by omega) (Or.inl a)).mp b with e | e
          · omega
          · exact ⟨a, e.2⟩
        · rintro ⟨a, b⟩
          exact ⟨a, (h n (by omega) (Or.inl a)).mpr (Or.inr ⟨by omega, b⟩)⟩
      simp only [this]
  have hi : ∀ n : Nat, p < n → n ≤ i → hld g D N i n = hld g D N p p ||| slv g (cod D p) := by
    intro n
    induction n with
    | zero => intro h0; omega
    | succ n ih =>
      intro h0 h9
      rw [hld_s]
      by_cases hnp : n = p
      · subst hnp
        rw [low n (Nat.le_refl _)]
        rcases hb with hb | hb
        · rw [if_pos ⟨hb, hpN⟩]
        · rw [if_neg (fun h8 => by rw [hb] at h8; exact absurd h8.1 (by decide)), hl hb]
          rfl
      · rw [ih (by omega) (by omega), if_neg (fun h8 => by
          rcases (h n (by omega) (Or.inl h8.1)).mp h8.2 with e | e
          · exact hnp e
          · omega), Int32.or_zero]
  exact hi i hp (Nat.le_refl _)
