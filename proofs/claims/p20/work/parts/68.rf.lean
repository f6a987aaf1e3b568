/-! run, ran, tape: both answer alike -/
theorem cv_same (w : Int32) (hw : 0 ≤ w.toInt) (c : Nat) (hc : c < 6) : ((w >>> ((2 * Int32.ofNat c) &&& 31)) &&& 3) = cvW w (Int32.ofNat (2 * c)) := by
  have hm : w.toBitVec.msb = false := by
    rw [BitVec.msb_eq_toInt]
    exact decide_eq_false (by show ¬ w.toInt < 0; omega)
  have key : ∀ s : Nat, (w.toBitVec.sshiftRight s &&& 3#32) = ((w.toBitVec >>> s) &&& 3#32) := by
    intro s
    rw [BitVec.sshiftRight_eq_of_msb_false hm]
  rw [← Int32.toBitVec_inj, cvW_bv w c hc]
  rcases (show c = 0 ∨ c = 1 ∨ c = 2 ∨ c = 3 ∨ c = 4 ∨ c = 5 by omega) with rfl | rfl | rfl | rfl | rfl | rfl
  · exact key 0
  · exact key 2
  · exact key 4
  · exact key 6
  · exact key 8
  · exact key 10
theorem hi_bits (w : Int32) (h0 : 0 ≤ w.toInt) (h1 : w.toInt ≤ 4095) : ∀ j : Nat, 12 ≤ j → w.toBitVec.getLsbD j = false := by
  intro j hj
  have h : w.toBitVec.toNat < 2 ^ 12 := by
    have e : w.toInt = w.toBitVec.toInt := rfl
    rw [e, BitVec.toInt_eq_toNat_cond] at h0 h1
    split at h0
    · rename_i h9
      rw [if_pos h9] at h1
      omega
    · have := w.toBitVec.isLt
      omega
  unfold BitVec.getLsbD
  exact Nat.testBit_lt_two_pow (Nat.lt_of_lt_of_le h (Nat.pow_le_pow_right (by decide) hj))
def orV (g : Nat → Int32) : Nat → Int32
  | 0 => 0
  | c + 1 => orV g c ||| (g c <<< ((2 * Int32.ofNat c) &&& 31))
theorem orV_bit {w : Int32} {g : Nat → Int32} (h : PkW w g) (hg : vl3 g) : ∀ n : Nat, n ≤ 6 → ∀ j : Nat, j < 32 → (orV g n).toBitVec.getLsbD j = (decide (j < 2 * n) && w.toBitVec.getLsbD j) := by
  intro n
  induction n with
  | zero =>
    intro _ j _
    show (0#32).getLsbD j = _
    simp
  | succ n ih =>
    intro hn j hj
    have e : (orV g (n + 1)).toBitVec = (orV g n).toBitVec ||| (g n <<< ((2 * Int32.ofNat n) &&& 31)).toBitVec := rfl
    obtain ⟨y, hy⟩ := v3_fin (g n) (hg n (by omega))
    have e2 := (asW_tab ⟨n, by omega⟩ y ⟨j, hj⟩).2
    simp only at e2
    have hb : ∀ i : Nat, (Int32.ofNat y.val).toBitVec.getLsbD i = (decide (i < 2) && w.toBitVec.getLsbD (2 * n + i)) := by
      intro i
      rw [← hy, ← h.2 n (by omega), cvW_bv w n (by omega), bv3]
    rw [e, BitVec.getLsbD_or, ih (by omega) j hj, hy, e2, hb]
    by_cases h1 : j < 2 * n
    · have h2 : ¬ 2 * n ≤ j := by omega
      have h3 : j < 2 * (n + 1) := by omega
      simp [h1, h2, h3]
    · have h2 : 2 * n ≤ j := by omega
      have h4 : 2 * n + (j - 2 * n) = j := by omega
      by_cases h3 : j < 2 * (n + 1)
      · have h5 : j - 2 * n < 2 := by omega
        simp [h1, h2, h3, h4, h5]
      · have h5 : ¬ j - 2 * n < 2 := by omega
        simp [h1, h3, h5]
theorem orV_w {w : Int32} {g : Nat → Int32} (h : PkW w g) (hg : vl3 g) : orV g 6 = w := by
  rw [← Int32.toBitVec_inj]
  apply BitVec.eq_of_getLsbD_eq
  intro j hj
  rw [orV_bit h hg 6 (Nat.le_refl _) j hj]
  by_cases h1 : j < 2 * 6
  · simp [h1]
  · rw [h.1 j (by omega)]; simp
/-- the two programs, as far as runs want them -/
theorem SameP.cr {pg : Nat → Option Nat} {sv : Nat → Nat → Int32} {pk : Nat → Int32} {sz cs ou us many : Int32} {astm asm : Nat → Int32} (h : SameP pg sv pk sz cs ou us many astm asm) (hcs : CSz cs) (hT : okT many astm asm) : ∃ (D : List SRc) (M N dp : Nat → Nat), sz.toInt = (D.length : Int) ∧ many.toInt = (D.length : Int) ∧ D.length ≤ 30 ∧ NsT D M N dp ∧ CRw pg sv pk D M N ∧ FRw astm asm D M N ∧ VlD D ∧ ou.toInt = (cn1 D : Int) ∧ us = usX D := by
  obtain ⟨D, M, N, ⟨k, v, j, hH, hgd⟩, hD, h1, h2, h3, h4, hRC, hRF⟩ := h
  obtain ⟨dp, hN⟩ := hH.ns
  obtain ⟨_, _, dp2, hp⟩ := hT
  have hW : ∀ i : Nat, i < D.length → kf D i ≠ 3 → WfC (cod D i) := by
    intro i hi hk
    obtain ⟨r, cf, a1, a2, a3, a4, a5, a6, a7, a8, a9⟩ := hRF i hi
    have hkr := kf_at a1
    rw [cod_at a1]
    have hk3 : r.1 ≠ 3 := by rw [← hkr]; exact hk
    have hcf := a4 hk3
    obtain ⟨⟨_, _, _, p4⟩, _⟩ := hp i (by omega)
    have ht : tkd astm i ≠ 3 := by
      unfold tkd
      rw [a2]
      intro h9
      exact hk3 (Int32.toInt_inj.mp (by rw [h9]; decide))
    obtain ⟨_, _, _, q4⟩ := p4 ht
    unfold tfr tlh at q4
    rw [hcf, a5] at q4
    exact WfC.of (astm := astm) (M := M) (N := N) (D := D) (i := i) (hgd r (List.mem_of_getElem? a1)) a7 q4
  refine ⟨D, M, N, dp, h1, h2, hD, hN, fun i hi => ?_, fun i hi => ⟨hRF i hi, hW i hi, fun hk => ?_⟩, VlD.of hW hN.2.2.2.2.2, h3, h4⟩
  · obtain ⟨r, a, cf, b1, b2, b3, b4, b5, b6, b7, b8, b9, b10, b11, b12, b13⟩ := hRC i hi
    obtain ⟨r2, cf2, a1, a2, a3, _⟩ := hRF i hi
    have er : r2 = r := by rw [b1] at a1; exact (Option.some.inj a1).symm
    subst er
    have hkr := kf_at b1
    have hnr := nf_at b1
    have hcr := cod_at b1
    obtain ⟨⟨_, p2, _, _⟩, _⟩ := hp i (by omega)
    refine ⟨a, b2, by rw [hkr]; exact b3, by rw [hnr]; exact b4, ⟨cf, b6, by rw [hcr]; exact b7, ?_, by rw [hcr]; exact b9⟩, fun hk => b11 (by rw [← hkr]; exact hk), ?_, fun hk => ?_, fun hk => ?_, hW i hi⟩
    · rw [hcr]
      have := hcs.2
      omega
    · rw [b12]
      unfold EnD
      rw [hkr]
    · have := b13 (by rw [← hkr]; exact hk)
      have hcl := cn1_le (D.take i)
      rw [List.length_take] at hcl
      exact ofn_of _ _ (by omega) this
    · unfold tkd tnm at p2
      rw [a2, a3] at p2
      have hq := p2 (by rw [← hkr, hk]; decide)
      unfold tcC
      rw [hnr]
      have hcl := clampI hq.1
      exact ⟨by omega, ofn_of _ _ (by omega) (by omega)⟩
  · obtain ⟨r2, cf2, a1, a2, a3, _⟩ := hRF i hi
    obtain ⟨⟨_, _, p3, _⟩, _⟩ := hp i (by omega)
    unfold tkd tnm at p3
    rw [a2, a3] at p3
    rw [nf_at a1]
    exact (p3 (by rw [← kf_at a1, hk]; decide)).2
def TpE (cm : Int32) (fn fl fn2 fl2 : Nat → Int32) : Prop := ∀ k : Nat, k < 20 → (k : Int) < cm.toInt → fn k = fn2 k ∧ fl k = fl2 k
theorem TpE0 {f g : Nat → Int32} : TpE 0 f g f g := fun _ _ _ => ⟨rfl, rfl⟩
theorem TpR.e {fn fl fn2 fl2 : Nat → Int32} {out : List (Int32 × Int32)} {cm : Int32} (h1 : TpR fn fl out) (h2 : TpR fn2 fl2 out) (hc : cm.toInt = (out.length : Int)) : TpE cm fn fl fn2 fl2 := by
  intro k hk hl
  have hx := List.getElem?_eq_getElem (show k < out.length by omega)
  obtain ⟨a, b⟩ := h1 k _ hk hx
  obtain ⟨c, d⟩ := h2 k _ hk hx
  exact ⟨by rw [a, c], by rw [b, d]⟩
abbrev R6c : Type := Int32 × Int32 × Int32 × Int32 × (Nat → Int32) × (Nat → Int32)
abbrev R16r : Type := Int32 × Int32 × Int32 × Int32 × Int32 × Int32 × Int32 × (Nat → Int32) × (Nat → Int32) × (Nat → Int32) × (Nat → Int32) × (Nat → Int32) × (Nat → Int32) × (Nat → Int32) × (Nat → Int32) × (Nat → Int32)
theorem E_X9_run (K : Nat) (hK : 1000000000 ≤ K) (l1 : Int32) (LL : List Nat) (sv : Nat → Nat → Int32) (a0 a1 a2 : Int32) (fn fl : Nat → Int32) (sz : Int32) (pg : Nat → Option Nat) (pk : Nat → Int32) (D : List SRc) (M N dp : Nat → Nat) (hs : sz.toInt = (D.length : Int)) (hD : D.length ≤ 30) (hC : CRw pg sv pk D M N) (hN : NsT D M N dp) (hV : VlD D) : Par (F_X9_run K l1 LL sv a0 a1 a2 fn fl sz pg pk) (fun r => (¬ (0 ≤ l1.toInt ∧ l1.toInt ≤ 4095) ∧ r = (-1, a0, a1, a2, fn, fl)) ∨ (0 ≤ l1.toInt ∧ l1.toInt ≤ 4095 ∧ ∀ g : Nat → Int32, vl3 g → PkW l1 g → RlC (exC D M N 0 0 D.length (g, 0, [])) r.1 r.2.2.1 r.2.2.2.1 r.2.2.2.2.1 r.2.2.2.2.2)) := by
  have one : ∀ n : Nat, ¬ (0 ≤ l1.toInt ∧ l1.toInt ≤ 4095) → Par (L_X9_run K n 1 l1 LL sv a0 a1 a2 fn fl sz pg pk) (fun r => (¬ (0 ≤ l1.toInt ∧ l1.toInt ≤ 4095) ∧ r = (-1, a0, a1, a2, fn, fl)) ∨ (0 ≤ l1.toInt ∧ l1.toInt ≤ 4095 ∧ ∀ g : Nat → Int32, vl3 g → PkW l1 g → RlC (exC D M N 0 0 D.length (g, 0, [])) r.1 r.2.2.1 r.2.2.2.1 r.2.2.2.2.1 r.2.2.2.2.2)) := by
    intro n h
    cases n with
    | zero => exact Par.no
    | succ n => rw [L_X9_run_e1]; unfold B_X9_run_1; exact Par.ret (Or.inl ⟨h, rfl⟩)
  unfold F_X9_run
  obtain ⟨n, rfl⟩ : ∃ n9, K = n9 + 1 := ⟨K - 1, by omega⟩
  rw [L_X9_run_e0]; unfold B_X9_run_0
  refine Par.br (fun h => one n (fun h9 => ?_)) (fun ha => Par.br (fun hb => ?_) (fun h => one n (fun h9 => ?_)))
  · rw [Int32.lt_iff_toInt_lt] at h
    simp only [Int32.reduceToInt] at h
    omega
  · rw [Int32.lt_iff_toInt_lt] at ha
    rw [Int32.le_iff_toInt_le] at hb
    simp only [Int32.reduceToInt] at ha hb
    refine Par.bd (P := fun r => ∀ g : Nat → Int32, vl3 g → PkW l1 g → RlT (exC D M N 0 0 D.length (g, 0, [])) r) (fun r hr g hg hp => E_X2_execute _ hK l1 0 LL sv a0 a1 a2 fn fl sz pg pk D M N dp hs hD hC hN hV g hg hp r hr) (fun r hr => Par.ret (Or.inr ⟨by omega, hb, fun g hg hp => hr g hg hp⟩))
  · rw [Int32.le_iff_toInt_le] at h
    simp only [Int32.reduceToInt] at h
    omega
def RmQ (D : List SRc) (M N : Nat → Nat) (l1 i4 i5 : Int32) (rtp rlv : Nat → Int32) (r : R16r) : Prop :=
  (¬ (0 ≤ l1.toInt ∧ l1.toInt ≤ 4095) ∧ r.1 = -1 ∧ r.2.2.2.2.1 = i4 ∧ r.2.2.2.2.2.1 = i5 ∧ r.2.2.2.2.2.2.2.2.2.2.2.2.2.2.1 = rtp ∧ r.2.2.2.2.2.2.2.2.2.2.2.2.2.2.2 = rlv) ∨ (0 ≤ l1.toInt ∧ l1.toInt ≤ 4095 ∧ ∃ g : Nat → Int32, vl3 g ∧ PkW l1 g ∧ r.1 = orV (exC D M N 0 0 D.length (g, 0, [])).1 6 ∧ r.2.2.2.2.1.toInt = ((exC D M N 0 0 D.length (g, 0, [])).2.1 : Int) ∧ r.2.2.2.2.2.1.toInt = ((exC D M N 0 0 D.length (g, 0, [])).2.2.length : Int) ∧ TpR r.2.2.2.2.2.2.2.2.2.2.2.2.2.2.1 r.2.2.2.2.2.2.2.2.2.2.2.2.2.2.2 (exC D M N 0 0 D.length (g, 0, [])).2.2)
theorem E_m_run (K : Nat) (hK : 1000000000 ≤ K) (l1 th imany i2 i3 i4 i5 ipassed : Int32) (astm asm avls abke abko abkl acel atap atpl artp arlv : Nat → Int32) (D : List SRc) (M N dp : Nat → Nat) (hs : imany.toInt = (D.length : Int)) (hD : D.length ≤ 30) (hF : FRw astm asm D M N) (hN : NsT D M N dp) (hV : VlD D) : Par (F_m_run K l1 th imany i2 i3 i4 i5 ipassed astm asm avls abke abko abkl acel atap atpl artp arlv) (RmQ D M N l1 i4 i5 artp arlv) := by
  -- the numbers behind it, as one
  have three : ∀ (F : RSt) (rtp rlv : Nat → Int32) (Q : R16r → Prop) (n c : Nat) (l2 l3 t9 b2 b3 b4 b5 b6 : Int32) (av ke ko kl ac tp tl : Nat → Int32), ac = F.1 → (∀ r : R16r, r.1 = orV F.1 6 → r.2.2.2.2.1 = b4 → r.2.2.2.2.2.1 = b5 → r.2.2.2.2.2.2.2.2.2.2.2.2.2.2.1 = rtp → r.2.2.2.2.2.2.2.2.2.2.2.2.2.2.2 = rlv → Q r) → l3.toInt = (c : Int) → c ≤ 6 → l2 = orV F.1 c → Par (L_m_run K n 3 l1 l2 l3 t9 imany b2 b3 b4 b5 b6 astm asm av ke ko kl ac tp tl rtp rlv) Q := by
    intro F rtp rlv Q n
    induction n using Nat.strongRecOn with
    | _ n ih =>
    intro c l2 l3 t9 b2 b3 b4 b5 b6 av ke ko kl ac tp tl hac hQ h3 hc h2
    cases n with
    | zero => exact Par.no
    | succ n =>
      rw [L_m_run_e3]; unfold B_m_run_3
      refine Par.br (fun h => ?_) (fun h => ?_)
      · rw [Int32.le_iff_toInt_le, h3] at h
        simp only [Int32.reduceToInt] at h
        have : c = 6 := by omega
        rw [this] at h2
        exact Par.ret (hQ _ h2 rfl rfl rfl rfl)
      · rw [Int32.le_iff_toInt_le, h3] at h
        simp only [Int32.reduceToInt] at h
        refine Par.br (fun _ => ?_) (fun _ => Par.no)
        refine ih n (by omega) (c + 1) _ _ _ _ _ _ _ _ _ _ _ _ _ _ _ hac hQ (ad1 l3 c h3 (by omega)) (by omega) ?_
        have e3 : l3 = Int32.ofNat c := ofn_of l3 c (by omega) h3
        rw [h2, cl1 l3 c h3, hac, e3]
        rfl
  -- the tape, kept
  have two : ∀ (F : RSt) (Q : R16r → Prop) (n c : Nat) (l2 l3 t9 b2 b3 b4 b5 b6 : Int32) (av ke ko kl ac tp tl rtp rlv : Nat → Int32), ac = F.1 → TpR tp tl F.2.2 → (∀ r : R16r, r.1 = orV F.1 6 → r.2.2.2.2.1 = b4 → r.2.2.2.2.2.1 = b5 → TpR r.2.2.2.2.2.2.2.2.2.2.2.2.2.2.1 r.2.2.2.2.2.2.2.2.2.2.2.2.2.2.2 F.2.2 → Q r) → l2.toInt = (c : Int) → c ≤ 20 → (∀ k : Nat, k < c → rtp k = tp k ∧ rlv k = tl k) → Par (L_m_run K n 2 l1 l2 l3 t9 imany b2 b3 b4 b5 b6 astm asm av ke ko kl ac tp tl rtp rlv) Q := by
    intro F Q n
    induction n using Nat.strongRecOn with
    | _ n ih =>
    intro c l2 l3 t9 b2 b3 b4 b5 b6 av ke ko kl ac tp tl rtp rlv hac ht hQ h2 hc hk
    cases n with
    | zero => exact Par.no
    | succ n =>
      rw [L_m_run_e2]; unfold B_m_run_2
      refine Par.br (fun h => ?_) (fun h => ?_)
      · rw [Int32.le_iff_toInt_le, h2] at h
        simp only [Int32.reduceToInt] at h
        have hc20 : c = 20 := by omega
        subst hc20
        refine three F rtp rlv Q n 0 _ _ _ _ _ _ _ _ _ _ _ _ _ _ _ hac (fun r q1 q2 q3 q4 q5 => hQ r q1 q2 q3 (fun k x hk9 hx => ?_)) rfl (by omega) rfl
        obtain ⟨e1, e2⟩ := ht k x hk9 hx
        obtain ⟨e3, e4⟩ := hk k hk9
        rw [q4, q5]
        exact ⟨by rw [e3, e1], by rw [e4, e2]⟩
      · rw [Int32.le_iff_toInt_le, h2] at h
        simp only [Int32.reduceToInt] at h
        refine Par.br (fun _ => ?_) (fun _ => Par.no)
        refine Par.br (fun _ => ?_) (fun _ => Par.no)
        refine Par.br (fun _ => ?_) (fun _ => Par.no)
        refine Par.br (fun _ => ?_) (fun _ => Par.no)
        refine ih n (by omega) (c + 1) _ _ _ _ _ _ _ _ _ _ _ _ _ _ _ _ _ hac ht hQ (ad1 l2 c h2 (by omega)) (by omega) (fun k hk9 => ?_)
        rw [cl1 l2 c h2]
        by_cases hkc : k = c
        · rw [hkc, upd_eq, upd_eq]; exact ⟨rfl, rfl⟩
        · rw [upd_ne _ _ hkc, upd_ne _ _ hkc]; exact hk k (by omega)
  -- the cells, told
  have one : ∀ (n c : Nat) (l2 l3 t9 b2 b3 b6 : Int32) (ac : Nat → Int32), 0 ≤ l1.toInt → l1.toInt ≤ 4095 → l2.toInt = (c : Int) → c ≤ 6 → (∀ k : Nat, k < c → ac k = cvW l1 (Int32.ofNat (2 * k))) → Par (L_m_run K n 1 l1 l2 l3 t9 imany b2 b3 i4 i5 b6 astm asm avls abke abko abkl ac atap atpl artp arlv) (RmQ D M N l1 i4 i5 artp arlv) := by
    intro n
    induction n using Nat.strongRecOn with
    | _ n ih =>
    intro c l2 l3 t9 b2 b3 b6 ac h0 h9 h2 hc hk
    cases n with
    | zero => exact Par.no
    | succ n =>
      rw [L_m_run_e1]; unfold B_m_run_1
      refine Par.br (fun h => ?_) (fun h => ?_)
      · rw [Int32.le_iff_toInt_le, h2] at h
        simp only [Int32.reduceToInt] at h
        have hg : vl3 ac := fun k hk9 => by rw [hk k (by omega)]; exact v3_and3 _
        have hp : PkW l1 ac := ⟨hi_bits l1 h0 h9, fun k hk9 => (hk k (by omega)).symm⟩
        refine Par.bd (E_m_runs K hK imany b2 b3 0 astm asm avls abke abko abkl ac atap atpl D M N dp hs hD hF hN hV (by decide) hg) (fun o ho => ?_)
        obtain ⟨o1, o2, o3, o4⟩ := ho
        exact two (exC D M N 0 0 D.length (ac, 0, [])) _ n 0 _ _ _ _ _ _ _ _ _ _ _ _ _ _ _ _ _ o1 o4 (fun r q1 q2 q3 q4 => Or.inr ⟨h0, h9, ac, hg, hp, q1, by rw [q2]; exact o2, by rw [q3]; exact o3, q4⟩) rfl (by omega) (fun k hk9 => absurd hk9 (Nat.not_lt_zero _))
      · rw [Int32.le_iff_toInt_le, h2] at h
        simp only [Int32.reduceToInt] at h
        refine Par.br (fun _ => ?_) (fun _ => Par.no)
        refine ih n (by omega) (c + 1) _ _ _ _ _ _ _ h0 h9 (ad1 l2 c h2 (by omega)) (by omega) (fun k hk9 => ?_)
        rw [cl1 l2 c h2]
        by_cases hkc : k = c
        · rw [hkc, upd_eq, ← cv_same l1 h0 c (by omega), ofn_of l2 c (by omega) h2]
        · rw [upd_ne _ _ hkc]; exact hk k (by omega)
  unfold F_m_run
  obtain ⟨n, hn⟩ : ∃ n9, K = n9 + 1 := ⟨K - 1, by omega⟩
  generalize hz : L_m_run K K 0 l1 0 0 th imany i2 i3 i4 i5 ipassed astm asm avls abke abko abkl acel atap atpl artp arlv = z
  have hz2 : z = L_m_run K (n + 1) 0 l1 0 0 th imany i2 i3 i4 i5 ipassed astm asm avls abke abko abkl acel atap atpl artp arlv := by rw [← hn, hz]
  rw [hz2, L_m_run_e0]; unfold B_m_run_0
  refine Par.bd (E_m_in K hK l1 0 4095) (fun o ho => ?_)
  simp only [Int32.reduceToInt] at ho
  rcases ho with ⟨o1, o2, o3⟩ | ⟨o1, o2⟩
  · exact Par.not (by rw [o1]; decide) (one n 0 _ _ _ _ _ _ _ o2 o3 rfl (by omega) (fun k hk9 => absurd hk9 (Nat.not_lt_zero _)))
  · exact Par.yes o1 (Par.ret (Or.inl ⟨o2, rfl, rfl, rfl, rfl, rfl⟩))
theorem ru_ans {K : Nat} (hK : 1000000000 ≤ K) {l1 th sz cs ou us imany i2 i3 i4 i5 ip a0 a1 a2 : Int32} {LL : List Nat} {astm asm avls abke abko abkl acel atap atpl artp arlv pk fn fl : Nat → Int32} {pg : Nat → Option Nat} {sv : Nat → Nat → Int32} {rc : R6c} {rm : R16r} (hP : SameP pg sv pk sz cs ou us imany astm asm) (hcs : CSz cs) (hT : okT imany astm asm) (e1 : a1 = i4) (e2 : a2 = i5) (e3 : TpE a2 fn fl artp arlv) (hc : F_X9_run K l1 LL sv a0 a1 a2 fn fl sz pg pk = some rc) (hm : F_m_run K l1 th imany i2 i3 i4 i5 ip astm asm avls abke abko abkl acel atap atpl artp arlv = some rm) :
    rc.1 = rm.1 ∧ rc.2.2.1 = rm.2.2.2.2.1 ∧ rc.2.2.2.1 = rm.2.2.2.2.2.1 ∧ TpE rc.2.2.2.1 rc.2.2.2.2.1 rc.2.2.2.2.2 rm.2.2.2.2.2.2.2.2.2.2.2.2.2.2.1 rm.2.2.2.2.2.2.2.2.2.2.2.2.2.2.2 := by
  obtain ⟨D, M, N, dp, h1, h2, hD, hN, hC, hF, hV, _⟩ := hP.cr hcs hT
  rcases E_X9_run K hK l1 LL sv a0 a1 a2 fn fl sz pg pk D M N dp h1 hD hC hN hV rc hc with ⟨q1, q2⟩ | ⟨q1, q2, q3⟩
  · rcases E_m_run K hK l1 th imany i2 i3 i4 i5 ip astm asm avls abke abko abkl acel atap atpl artp arlv D M N dp h2 hD hF hN hV rm hm with ⟨_, p1, p2, p3, p4, p5⟩ | ⟨p1, p2, _⟩
    · rw [q2, p1, p2, p3, p4, p5]
      exact ⟨rfl, e1, e2, e3⟩
    · exact absurd ⟨p1, p2⟩ q1
  · rcases E_m_run K hK l1 th imany i2 i3 i4 i5 ip astm asm avls abke abko abkl acel atap atpl artp arlv D M N dp h2 hD hF hN hV rm hm with ⟨p1, _⟩ | ⟨_, _, g, p1, p2, p3, p4, p5, p6⟩
    · exact absurd ⟨q1, q2⟩ p1
    · obtain ⟨r1, r2, r3, r4⟩ := q3 g p1 p2
      have hok := exC_ok (wo := 0) (M := M) (N := N) hV 0 D.length (g, 0, []) ⟨p1, Nat.zero_le _, Nat.le_refl _⟩
      refine ⟨?_, Int32.toInt_inj.mp (by rw [r2, p4]), Int32.toInt_inj.mp (by rw [r3, p5]), r4.e p6 r3⟩
      rw [p3, orV_w r1 hok.1]
theorem E_X2_kept (K : Nat) (hK : 1000000000 ≤ K) (a : Int32) : Par (F_X2_kept K a) (fun r => r.toInt = if 20 ≤ a.toInt then 20 else a.toInt) := by
  unfold F_X2_kept
  obtain ⟨n, rfl⟩ : ∃ n9, K = n9 + 1 := ⟨K - 1, by omega⟩
  rw [L_X2_kept_e0]; unfold B_X2_kept_0
  refine Par.ret ?_
  split
  · rename_i h
    rw [Int32.lt_iff_toInt_lt] at h
    simp only [Int32.reduceToInt] at h
    rw [if_pos (by omega)]; rfl
  · rename_i h
    rw [Int32.lt_iff_toInt_lt] at h
    simp only [Int32.reduceToInt] at h
    split <;> omega
theorem E_m_least (K : Nat) (hK : 1000000000 ≤ K) (a : Int32) : Par (F_m_least K a 20) (fun r => r.toInt = if 20 ≤ a.toInt then 20 else a.toInt) := by
  unfold F_m_least
  obtain ⟨n, rfl⟩ : ∃ n9, K = n9 + 1 := ⟨K - 1, by omega⟩
  rw [L_m_least_e0]; unfold B_m_least_0
  refine Par.br (fun h => Par.ret ?_) (fun h => Par.ret ?_)
  · rw [Int32.le_iff_toInt_le] at h
    simp only [Int32.reduceToInt] at h
    rw [if_pos h]; rfl
  · rw [Int32.le_iff_toInt_le] at h
    simp only [Int32.reduceToInt] at h
    rw [if_neg h]
theorem rn_ans {K : Nat} (hK : 1000000000 ≤ K) {l1 th a1 a2 i4 i5 : Int32} {rc : Int32} {rm : Int32 × Int32} (e1 : a1 = i4) (e2 : a2 = i5) (hc : F_X9_ran K l1 a1 a2 = some rc) (hm : F_m_ran K l1 th i4 i5 = some rm) : rc = rm.1 := by
  subst e1
  subst e2
  have key : Par (F_X9_ran K l1 a1 a2) (fun rc => Par (F_m_ran K l1 th a1 a2) (fun rm => rc = rm.1)) := by
    unfold F_X9_ran F_m_ran
    obtain ⟨n, rfl⟩ : ∃ n9, K = n9 + 1 := ⟨K - 1, by omega⟩
    rw [L_X9_ran_e0, L_m_ran_e0]; unfold B_X9_ran_0 B_m_ran_0
    refine Par.br (fun h => Par.ret (Par.yes h (Par.ret rfl))) (fun h => Par.br (fun h2 => Par.ret (Par.not h (Par.yes h2 (Par.ret rfl)))) (fun h2 => Par.br (fun h3 => ?_) (fun h3 => Par.ret (Par.not h (Par.not h2 (Par.not h3 (Par.ret rfl)))))))
    refine Par.bd (E_X2_kept _ hK a2) (fun o ho => Par.ret (Par.not h (Par.not h2 (Par.yes h3 ?_))))
    refine Par.bd (E_m_least _ hK a2) (fun q hq => Par.ret ?_)
    exact Int32.toInt_inj.mp (by rw [ho, hq])
  exact key rc hc rm hm
theorem tp_ans {K : Nat} (hK : 1000000000 ≤ K) {l1 l2 th a2 i5 : Int32} {fn fl rtp rlv : Nat → Int32} {rc : Int32} {rm : Int32 × Int32} (h0 : 0 ≤ i5.toInt) (e2 : a2 = i5) (e3 : TpE a2 fn fl rtp rlv) (hc : F_X9_tape K l1 l2 a2 fn fl = some rc) (hm : F_m_tape K l1 l2 th i5 rtp rlv = some rm) : rc = rm.1 := by
  subst e2
  have hA : Par (F_X9_tape K l1 l2 a2 fn fl) (fun r => (¬ (0 ≤ l1.toInt ∧ l1.toInt < (if 20 ≤ a2.toInt then 20 else a2.toInt) ∧ (l2 = 0 ∨ l2 = 1)) ∧ r = -1) ∨ ((0 ≤ l1.toInt ∧ l1.toInt < (if 20 ≤ a2.toInt then 20 else a2.toInt) ∧ (l2 = 0 ∨ l2 = 1)) ∧ r = if l2 = 0 then fn l1.toNatClampNeg else fl l1.toNatClampNeg)) := by
    have one : ∀ n : Nat, ¬ (0 ≤ l1.toInt ∧ l1.toInt < (if 20 ≤ a2.toInt then 20 else a2.toInt) ∧ (l2 = 0 ∨ l2 = 1)) → Par (L_X9_tape K n 1 l1 l2 a2 fn fl) (fun r => (¬ (0 ≤ l1.toInt ∧ l1.toInt < (if 20 ≤ a2.toInt then 20 else a2.toInt) ∧ (l2 = 0 ∨ l2 = 1)) ∧ r = -1) ∨ ((0 ≤ l1.toInt ∧ l1.toInt < (if 20 ≤ a2.toInt then 20 else a2.toInt) ∧ (l2 = 0 ∨ l2 = 1)) ∧ r = if l2 = 0 then fn l1.toNatClampNeg else fl l1.toNatClampNeg)) := by
      intro n h
      cases n with
      | zero => exact Par.no
      | succ n => rw [L_X9_tape_e1]; unfold B_X9_tape_1; exact Par.ret (Or.inl ⟨h, rfl⟩)
    unfold F_X9_tape
    obtain ⟨n, rfl⟩ : ∃ n9, K = n9 + 1 := ⟨K - 1, by omega⟩
    rw [L_X9_tape_e0]; unfold B_X9_tape_0
    refine Par.br (fun h => one n (fun h9 => ?_)) (fun ha => ?_)
    · rw [Int32.lt_iff_toInt_lt] at h
      simp only [Int32.reduceToInt] at h
      omega
    · rw [Int32.lt_iff_toInt_lt] at ha
      simp only [Int32.reduceToInt] at ha
      refine Par.bd (E_X2_kept _ hK a2) (fun o ho => ?_)
      refine Par.br (fun h => one n (fun h9 => ?_)) (fun hb => ?_)
      · rw [Int32.le_iff_toInt_le, ho] at h
        have := h9.2.1
        omega
      · rw [Int32.le_iff_toInt_le, ho] at hb
        refine Par.bd (E_X9_isFlag _ hK l2) (fun p hp => ?_)
        rcases hp with ⟨p1, p2⟩ | ⟨p1, p2, p3⟩
        · have hall : (0 ≤ l1.toInt ∧ l1.toInt < (if 20 ≤ a2.toInt then 20 else a2.toInt) ∧ (l2 = 0 ∨ l2 = 1)) := ⟨by omega, by omega, p2⟩
          refine Par.not (by rw [p1]; decide) ?_
          refine Par.br (fun e => ?_) (fun e => ?_)
          · exact Par.br (fun _ => Par.ret (Or.inr ⟨hall, by rw [if_pos e]⟩)) (fun _ => Par.no)
          · exact Par.br (fun _ => Par.ret (Or.inr ⟨hall, by rw [if_neg e]⟩)) (fun _ => Par.no)
        · exact Par.yes p1 (one n (fun h9 => h9.2.2.elim p2 p3))
  have hB : Par (F_m_tape K l1 l2 th a2 rtp rlv) (fun r => (¬ (0 ≤ l1.toInt ∧ l1.toInt < (if 20 ≤ a2.toInt then 20 else a2.toInt) ∧ (l2 = 0 ∨ l2 = 1)) ∧ r.1 = -1) ∨ ((0 ≤ l1.toInt ∧ l1.toInt < (if 20 ≤ a2.toInt then 20 else a2.toInt) ∧ (l2 = 0 ∨ l2 = 1)) ∧ r.1 = if l2 = 0 then rtp l1.toNatClampNeg else rlv l1.toNatClampNeg)) := by
    have one : ∀ (n : Nat) (t9 : Int32), ¬ (0 ≤ l1.toInt ∧ l1.toInt < (if 20 ≤ a2.toInt then 20 else a2.toInt) ∧ (l2 = 0 ∨ l2 = 1)) → Par (L_m_tape K n 1 l1 l2 t9 a2 rtp rlv) (fun r => (¬ (0 ≤ l1.toInt ∧ l1.toInt < (if 20 ≤ a2.toInt then 20 else a2.toInt) ∧ (l2 = 0 ∨ l2 = 1)) ∧ r.1 = -1) ∨ ((0 ≤ l1.toInt ∧ l1.toInt < (if 20 ≤ a2.toInt then 20 else a2.toInt) ∧ (l2 = 0 ∨ l2 = 1)) ∧ r.1 = if l2 = 0 then rtp l1.toNatClampNeg else rlv l1.toNatClampNeg)) := by
      intro n t9 h
      cases n with
      | zero => exact Par.no
      | succ n => rw [L_m_tape_e1]; unfold B_m_tape_1; exact Par.ret (Or.inl ⟨h, rfl⟩)
    unfold F_m_tape
    obtain ⟨n, rfl⟩ : ∃ n9, K = n9 + 1 := ⟨K - 1, by omega⟩
    rw [L_m_tape_e0]; unfold B_m_tape_0
    refine Par.bd (E_m_least _ hK a2) (fun o ho => ?_)
    have hm1 : (o - 1).toInt = (if 20 ≤ a2.toInt then 20 else a2.toInt) - 1 := by
      rw [Int32.toInt_sub, ho]
      simp only [Int32.reduceToInt]
      split
      · exact bmI (by omega) (by omega)
      · exact bmI (by omega) (by omega)
    refine Par.bd (E_m_in _ hK l1 0 (o - 1)) (fun p hp => ?_)
    rw [hm1] at hp
    simp only [Int32.reduceToInt] at hp
    rcases hp with ⟨p1, p2, p3⟩ | ⟨p1, p2⟩
    · refine Par.not (by rw [p1]; decide) ?_
      refine Par.bd (E_m_in _ hK l2 0 1) (fun q hq => ?_)
      simp only [Int32.reduceToInt] at hq
      rcases hq with ⟨q1, q2⟩ | ⟨q1, q2⟩
      · have hall : (0 ≤ l1.toInt ∧ l1.toInt < (if 20 ≤ a2.toInt then 20 else a2.toInt) ∧ (l2 = 0 ∨ l2 = 1)) := ⟨p2, by omega, (flag_i l2).mpr q2⟩
        refine Par.not (by rw [q1]; decide) ?_
        refine Par.br (fun e => ?_) (fun e => ?_)
        · exact Par.br (fun _ => Par.ret (Or.inr ⟨hall, by rw [if_pos e]⟩)) (fun _ => Par.no)
        · exact Par.br (fun _ => Par.ret (Or.inr ⟨hall, by rw [if_neg e]⟩)) (fun _ => Par.no)
      · exact Par.yes q1 (one n _ (fun h9 => q2 ((flag_i l2).mp h9.2.2)))
    · exact Par.yes p1 (one n _ (fun h9 => p2 ⟨h9.1, by have := h9.2.1; omega⟩))
  rcases hA rc hc with ⟨a, b⟩ | ⟨a, b⟩
  · rcases hB rm hm with ⟨_, d⟩ | ⟨c, _⟩
    · rw [b, d]
    · exact absurd c a
  · rcases hB rm hm with ⟨c, _⟩ | ⟨_, d⟩
    · exact absurd a c
    · have h20 : l1.toNatClampNeg < 20 ∧ (l1.toNatClampNeg : Int) < a2.toInt := by
        have := clampI a.1
        have h9 := a.2.1
        split at h9 <;> omega
      obtain ⟨x, y⟩ := e3 _ h20.1 h20.2
      rw [b, d, x, y]
