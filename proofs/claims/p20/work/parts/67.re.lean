/-! the reference's run: blocks on a stack, one place -/
/-- the reference's program, as far as a run wants it -/
def FRw (astm asm : Nat → Int32) (D : List SRc) (M N : Nat → Nat) : Prop := ∀ i : Nat, i < D.length → FRow astm asm D M N i ∧ (kf D i ≠ 3 → WfC (cod D i)) ∧ (kf D i = 3 → (nf D i).toInt ≤ 8)
theorem cn1_tk (D : List SRc) (i : Nat) (r : SRc) (h : D[i]? = some r) : D.take (i + 1) = D.take i ++ [r] := by
  rw [List.take_succ, h]; rfl
theorem E_m_outsAhead (K : Nat) (hK : 1000000000 ≤ K) (l1 wo : Int32) (astm : Nat → Int32) (D : List SRc) (i : Nat) (h1 : l1.toInt = (i : Int)) (hi : i ≤ D.length) (hD : D.length ≤ 30) (hr : ∀ k : Nat, k < D.length → ∃ r : SRc, D[k]? = some r ∧ astm (8 * k) = r.1) : Par (F_m_outsAhead K l1 wo astm) (fun r => (wo = 0 ∧ r = 31) ∨ (wo ≠ 0 ∧ r = Int32.ofNat (cn1 (D.take i)))) := by
  have key : ∀ (n k : Nat) (l2 l3 s0 s1 : Int32), wo ≠ 0 → l3.toInt = (k : Int) → k ≤ i → l2.toInt = (cn1 (D.take k) : Int) → Par (L_m_outsAhead K n 1 l1 l2 l3 s0 s1 wo astm) (fun r => (wo = 0 ∧ r = 31) ∨ (wo ≠ 0 ∧ r = Int32.ofNat (cn1 (D.take i)))) := by
    intro n
    induction n using Nat.strongRecOn with
    | _ n ih =>
    intro k l2 l3 s0 s1 hw h3 hk h2
    cases n with
    | zero => exact Par.no
    | succ n =>
      rw [L_m_outsAhead_e1]; unfold B_m_outsAhead_1
      refine Par.br (fun h => ?_) (fun h => ?_)
      · rw [Int32.le_iff_toInt_le, h1, h3] at h
        have : k = i := by omega
        rw [this] at h2
        have hc := cn1_le (D.take i)
        rw [List.length_take] at hc
        exact Par.ret (Or.inr ⟨hw, ofn_of _ _ (by omega) h2⟩)
      · rw [Int32.le_iff_toInt_le, h1, h3] at h
        obtain ⟨r, hr1, hr2⟩ := hr k (by omega)
        have h8 : (8 * l3).toInt = ((8 * k : Nat) : Int) := by
          rw [Int32.toInt_mul, h3]
          simp only [Int32.reduceToInt]
          rw [bmI (by omega) (by omega)]; omega
        have hcl := cn1_le (D.take k)
        rw [List.length_take] at hcl
        refine Par.br (fun _ => ?_) (fun _ => Par.no)
        rw [cl1 _ _ h8, hr2]
        have go : ∀ (m : Nat) (s0 : Int32), m < n + 1 → ((s0 = 1 ∧ r.1 = 1) ∨ (s0 = 0 ∧ r.1 ≠ 1)) → Par (L_m_outsAhead K m 2 l1 l2 l3 s0 l2 wo astm) (fun r => (wo = 0 ∧ r = 31) ∨ (wo ≠ 0 ∧ r = Int32.ofNat (cn1 (D.take i)))) := by
          intro m s0 hm hs
          cases m with
          | zero => exact Par.no
          | succ m =>
            rw [L_m_outsAhead_e2]; unfold B_m_outsAhead_2
            refine ih m (by omega) (k + 1) _ (l3 + 1) 0 0 hw (ad1 l3 k h3 (by omega)) (by omega) ?_
            rw [cn1_tk D k r hr1]
            rcases hs with ⟨a, b⟩ | ⟨a, b⟩
            · rw [a, cn1_1 _ _ b, adC l2 1 _ 1 h2 (by decide) (by omega) (by omega)]; omega
            · rw [a, cn1_0 _ _ b, adC l2 0 _ 0 h2 (by decide) (by omega) (by omega)]; omega
        exact Par.br (fun c => go n 1 (by omega) (Or.inl ⟨rfl, c⟩)) (fun c => go n 0 (by omega) (Or.inr ⟨rfl, c⟩))
  unfold F_m_outsAhead
  obtain ⟨n, rfl⟩ : ∃ n9, K = n9 + 1 := ⟨K - 1, by omega⟩
  rw [L_m_outsAhead_e0]; unfold B_m_outsAhead_0
  exact Par.br (fun h => Par.ret (Or.inl ⟨h, rfl⟩)) (fun h => key n 0 0 0 0 0 h rfl (Nat.zero_le _) rfl)
/-- the two ways to ask whether an out is passed by -/
theorem ps_same (wo : Int32) (k : Nat) (hk : k < 31) (hw : 0 ≤ wo.toInt) : ((wo >>> ((Int32.ofNat k) &&& 31)) &&& 1) = ((wo.toUInt32 >>> ((Int32.ofNat k).toUInt32 &&& Int32.toUInt32 31)).toInt32 &&& 1) := by
  have hm : wo.toBitVec.msb = false := by
    rw [BitVec.msb_eq_toInt]
    exact decide_eq_false (by show ¬ wo.toInt < 0; omega)
  have key : ∀ s : Nat, s < 31 → (wo.toBitVec.sshiftRight s &&& 1#32) = ((wo.toBitVec >>> s) &&& 1#32) := by
    intro s _
    rw [BitVec.sshiftRight_eq_of_msb_false hm]
  have hsh : ∀ s : Fin 31, ((Int32.ofNat s.val) &&& 31).toBitVec = BitVec.ofNat 32 s.val ∧ ((Int32.ofNat s.val).toUInt32 &&& Int32.toUInt32 31).toBitVec = BitVec.ofNat 32 s.val := by decide +kernel
  obtain ⟨e1, e2⟩ := hsh ⟨k, hk⟩
  simp only at e1 e2
  rw [← Int32.toBitVec_inj]
  have f1 : ((wo >>> ((Int32.ofNat k) &&& 31)) &&& 1).toBitVec = (wo.toBitVec.sshiftRight' (((Int32.ofNat k) &&& 31).toBitVec.smod 32) &&& 1#32) := rfl
  have f2 : ((wo.toUInt32 >>> ((Int32.ofNat k).toUInt32 &&& Int32.toUInt32 31)).toInt32 &&& 1).toBitVec = ((wo.toBitVec >>> (((Int32.ofNat k).toUInt32 &&& Int32.toUInt32 31).toBitVec % 32)) &&& 1#32) := rfl
  rw [f1, f2, e1, e2]
  have g1 : ∀ s : Fin 31, ((BitVec.ofNat 32 s.val).smod 32).toNat = s.val ∧ ((BitVec.ofNat 32 s.val) % 32#32).toNat = s.val := by decide +kernel
  obtain ⟨h1, h2⟩ := g1 ⟨k, hk⟩
  simp only at h1 h2
  show (wo.toBitVec.sshiftRight ((BitVec.ofNat 32 k).smod 32).toNat &&& 1#32) = ((wo.toBitVec >>> ((BitVec.ofNat 32 k) % 32#32).toNat) &&& 1#32)
  rw [h1, h2]
  exact key k hk
theorem and1_01 (x : Int32) : (x &&& 1) = 0 ∨ (x &&& 1) = 1 := by
  have h := and32 x 1 (by decide)
  have e : (1 : Int32).toInt = 1 := by decide
  have h2 : (x &&& 1).toInt = (0 : Int32).toInt ∨ (x &&& 1).toInt = (1 : Int32).toInt := by simp only [Int32.reduceToInt]; omega
  simpa only [Int32.toInt_inj] using h2
/-- the rest of a run: blocks open (of which statement, how often still), the place, the state -/
def rsF (D : List SRc) (M N : Nat → Nat) (wo : Int32) : List (Nat × Nat) → Nat → RSt → RSt
  | [], i, s => exC D M N wo i D.length s
  | x :: S, i, s => rsF D M N wo S (N x.1) (if kf D x.1 = 3 then itR (exC D M N wo (x.1 + 1) (M x.1)) (x.2 - 1) (exC D M N wo i (M x.1) s) else exC D M N wo i (M x.1) s)
theorem rsF_c (D : List SRc) (M N : Nat → Nat) (wo : Int32) (x : Nat × Nat) (S : List (Nat × Nat)) (i : Nat) (s : RSt) : rsF D M N wo (x :: S) i s = rsF D M N wo S (N x.1) (if kf D x.1 = 3 then itR (exC D M N wo (x.1 + 1) (M x.1)) (x.2 - 1) (exC D M N wo i (M x.1) s) else exC D M N wo i (M x.1) s) := rfl
def toB (D : List SRc) (M : Nat → Nat) : List (Nat × Nat) → Nat
  | [] => D.length
  | x :: _ => M x.1
def StB (D : List SRc) (M N : Nat → Nat) : List (Nat × Nat) → Nat → Prop
  | [], i => i ≤ D.length ∧ RgP D N i D.length
  | x :: S, i => bkP D x.1 ∧ x.1 < D.length ∧ i ≤ M x.1 ∧ RgP D N i (M x.1) ∧ 1 ≤ x.2 ∧ x.2 ≤ 8 ∧ (kf D x.1 = 2 → x.2 = 1) ∧ StB D M N S (N x.1)
def BkR (M : Nat → Nat) (bke bko bkl : Nat → Int32) : List (Nat × Nat) → Prop
  | [] => True
  | x :: S => (bko S.length).toInt = (x.1 : Int) ∧ (bke S.length).toInt = (M x.1 : Int) ∧ (bkl S.length).toInt = (x.2 : Int) ∧ BkR M bke bko bkl S
section RS
variable {D : List SRc} {M N dp : Nat → Nat} {wo : Int32} {i : Nat} {S : List (Nat × Nat)} {s : RSt}
theorem NsT.mb (hN : NsT D M N dp) {o : Nat} (ho : o < D.length) (hb : bkP D o) : o + 1 ≤ M o ∧ M o ≤ N o ∧ N o ≤ D.length ∧ RgP D N (o + 1) (M o) := by
  rcases hb with hb | hb
  · obtain ⟨a, b, c, d, e⟩ := hN.g2 ho hb
    exact ⟨c, d, e, a⟩
  · obtain ⟨a, b, _⟩ := hN.1 o ho
    rw [En_bk (Or.inr hb)] at a b
    have e := hN.2.2.1 o ho hb
    exact ⟨by omega, by omega, b, by rw [e]; exact hN.g1 ho (Or.inr hb)⟩
theorem rsF_st (hs : ¬ s.2.1 < 400) : ∀ (S : List (Nat × Nat)) (i : Nat), rsF D M N wo S i s = s := by
  intro S
  induction S with
  | nil => intro i; exact exC_no (fun h => hs h.2)
  | cons x S ih =>
    intro i
    unfold rsF
    have e1 : ∀ a b : Nat, exC D M N wo a b s = s := fun a b => exC_no (fun h => hs h.2)
    rw [e1, itR_st (e1 _ _)]
    split <;> exact ih _
theorem StB.rg (h : StB D M N S i) : i ≤ toB D M S ∧ RgP D N i (toB D M S) := by
  cases S with
  | nil => exact h
  | cons x S => exact ⟨h.2.2.1, h.2.2.2.1⟩
theorem StB.mv {j : Nat} (h : StB D M N S i) (h1 : i ≤ j) (h2 : j ≤ toB D M S) : StB D M N S j := by
  cases S with
  | nil => exact ⟨h2, h.2.sub h1⟩
  | cons x S => exact ⟨h.1, h.2.1, h2, h.2.2.2.1.sub h1, h.2.2.2.2⟩
/-- what changes the state ahead of a place that is reached in any case -/
theorem rsF_mv {j : Nat} {s2 : RSt} (he : exC D M N wo i (toB D M S) s = exC D M N wo j (toB D M S) s2) : rsF D M N wo S i s = rsF D M N wo S j s2 := by
  cases S with
  | nil => exact he
  | cons x S => unfold rsF; rw [show exC D M N wo i (M x.1) s = exC D M N wo j (M x.1) s2 from he]
theorem BkR.mono {bke bko bkl bke2 bko2 bkl2 : Nat → Int32} : ∀ {S : List (Nat × Nat)}, BkR M bke bko bkl S → (∀ k : Nat, k < S.length → bke2 k = bke k ∧ bko2 k = bko k ∧ bkl2 k = bkl k) → BkR M bke2 bko2 bkl2 S := by
  intro S
  induction S with
  | nil => intro _ _; exact True.intro
  | cons x S ih =>
    intro h hk
    obtain ⟨a, b, c⟩ := hk S.length (by rw [List.length_cons]; omega)
    exact ⟨by rw [b]; exact h.1, by rw [a]; exact h.2.1, by rw [c]; exact h.2.2.1, ih h.2.2.2 (fun k h9 => hk k (by rw [List.length_cons]; omega))⟩
end RS
abbrev R9r : Type := Int32 × Int32 × (Nat → Int32) × (Nat → Int32) × (Nat → Int32) × (Nat → Int32) × (Nat → Int32) × (Nat → Int32) × (Nat → Int32)
def RlM (s : RSt) (st cm : Int32) (acel atap atpl : Nat → Int32) : Prop := acel = s.1 ∧ st.toInt = (s.2.1 : Int) ∧ cm.toInt = (s.2.2.length : Int) ∧ TpR atap atpl s.2.2
def RlR (s : RSt) (r : R9r) : Prop := RlM s r.1 r.2.1 r.2.2.2.2.2.2.1 r.2.2.2.2.2.2.2.1 r.2.2.2.2.2.2.2.2
set_option maxHeartbeats 2000000 in
theorem E_m_runs (K : Nat) (hK : 1000000000 ≤ K) (imany a1 a2 wo : Int32) (astm asm avls abke abko abkl acel atap atpl : Nat → Int32) (D : List SRc) (M N dp : Nat → Nat) (hs : imany.toInt = (D.length : Int)) (hD : D.length ≤ 30) (hF : FRw astm asm D M N) (hN : NsT D M N dp) (hV : VlD D) (hwo : 0 ≤ wo.toInt) (hg : vl3 acel) : Par (F_m_runs K imany a1 a2 wo astm asm avls abke abko abkl acel atap atpl) (RlR (exC D M N wo 0 D.length (acel, 0, []))) := by
  generalize hfin : exC D M N wo 0 D.length (acel, 0, []) = F
  have key : ∀ n : Nat, (∀ (S : List (Nat × Nat)) (i : Nat) (s : RSt) (l1 l2 l3 b4 b5 b6 b7 b8 st cm : Int32) (av ke ko kl ac tp tl : Nat → Int32), l3 ≠ 0 → l1.toInt = (S.length : Int) → l2.toInt = (i : Int) → StB D M N S i → BkR M ke ko kl S → OkS s → RlM s st cm ac tp tl → rsF D M N wo S i s = F → Par (L_m_runs K n 1 l1 l2 l3 b4 b5 b6 b7 b8 imany st cm wo astm asm av ke ko kl ac tp tl) (RlR F)) ∧
      (∀ (S : List (Nat × Nat)) (i : Nat) (s : RSt) (l1 l2 l3 b4 b5 b6 b7 b8 st cm : Int32) (av ke ko kl ac tp tl : Nat → Int32), l3 ≠ 0 → l1.toInt = (S.length : Int) → l2.toInt = (i : Int) → StB D M N S i → BkR M ke ko kl S → OkS s → RlM s st cm ac tp tl → rsF D M N wo S i s = F → Par (L_m_runs K n 2 l1 l2 l3 b4 b5 b6 b7 b8 imany st cm wo astm asm av ke ko kl ac tp tl) (RlR F)) := by
    intro n
    induction n using Nat.strongRecOn with
    | _ n ih =>
    refine ⟨?_, ?_⟩
    · intro S i s l1 l2 l3 b4 b5 b6 b7 b8 st cm av ke ko kl ac tp tl h3 h1 h2 hB hR hO hM hf
      cases n with
      | zero => exact Par.no
      | succ n =>
        rw [L_m_runs_e1]; unfold B_m_runs_1
        exact Par.not h3 ((ih n (by omega)).2 S i s _ _ _ _ _ _ _ _ _ _ _ _ _ _ _ _ _ h3 h1 h2 hB hR hO hM hf)
    · intro S i s l1 l2 l3 b4 b5 b6 b7 b8 st cm av ke ko kl ac tp tl h3 h1 h2 hB hR hO hM hf
      obtain ⟨hac, hst, hcm, htp⟩ := id hM
      -- the end
      have fin : ∀ (q : Nat) (c1 c2 c4 c5 c6 c7 c8 : Int32), q < n → s = F → Par (L_m_runs K q 1 c1 c2 0 c4 c5 c6 c7 c8 imany st cm wo astm asm av ke ko kl ac tp tl) (RlR F) := by
        intro q c1 c2 c4 c5 c6 c7 c8 hq he
        cases q with
        | zero => exact Par.no
        | succ q =>
          rw [L_m_runs_e1]; unfold B_m_runs_1
          rw [← he]
          exact Par.yes rfl (Par.ret hM)
      -- the next round of the loop
      have nxt : ∀ (q : Nat) (S2 : List (Nat × Nat)) (j : Nat) (s2 : RSt) (c1 c2 c3 c4 c5 c6 c7 c8 st cm : Int32) (av ke ko kl ac tp tl : Nat → Int32), q < n → c3 ≠ 0 → c1.toInt = (S2.length : Int) → c2.toInt = (j : Int) → StB D M N S2 j → BkR M ke ko kl S2 → OkS s2 → RlM s2 st cm ac tp tl → rsF D M N wo S2 j s2 = F → Par (L_m_runs K q 15 c1 c2 c3 c4 c5 c6 c7 c8 imany st cm wo astm asm av ke ko kl ac tp tl) (RlR F) := by
        intro q S2 j s2 c1 c2 c3 c4 c5 c6 c7 c8 st cm av ke ko kl ac tp tl hq p1 p2 p3 p4 p5 p6 p7 p8
        cases q with
        | zero => exact Par.no
        | succ q =>
          rw [L_m_runs_e15]; unfold B_m_runs_15
          exact (ih q (by omega)).1 S2 j s2 _ _ _ _ _ _ _ _ _ _ _ _ _ _ _ _ _ p1 p2 p3 p4 p5 p6 p7 p8
      -- no block ends here
      have five : ∀ (q : Nat) (c4 c5 c6 c7 c8 : Int32), q < n → (S = [] ∨ i ≠ toB D M S) → Par (L_m_runs K q 5 l1 l2 l3 c4 c5 c6 c7 c8 imany st cm wo astm asm av ke ko kl ac tp tl) (RlR F) := by
        intro q c4 c5 c6 c7 c8 hq hne
        cases q with
        | zero => exact Par.no
        | succ q =>
          rw [L_m_runs_e5]; unfold B_m_runs_5
          obtain ⟨hB1, hB2⟩ := hB.rg
          have six : ∀ (m : Nat) (d4 d5 d6 d7 d8 : Int32), m < q + 1 → s = F → Par (L_m_runs K m 6 l1 l2 l3 d4 d5 d6 d7 d8 imany st cm wo astm asm av ke ko kl ac tp tl) (RlR F) := by
            intro m d4 d5 d6 d7 d8 hm he
            cases m with
            | zero => exact Par.no
            | succ m =>
              rw [L_m_runs_e6]; unfold B_m_runs_6
              cases m with
              | zero => exact Par.no
              | succ m =>
                rw [L_m_runs_e7]; unfold B_m_runs_7
                exact Par.yes rfl (fin m _ _ _ _ _ _ _ (by omega) he)
          refine Par.br (fun h => six q _ _ _ _ _ (by omega) ?_) (fun hil => ?_)
          · rw [Int32.le_iff_toInt_le, hs, h2] at h
            have hBL := hB2.1
            rcases hne with e | e
            · subst e
              have : i = D.length := by have : i ≤ D.length := hB1; omega
              rw [← hf]
              show s = exC D M N wo i D.length s
              rw [exC_no (by omega)]
            · exfalso; omega
          · rw [Int32.le_iff_toInt_le, hs, h2] at hil
            have hil : i < D.length := by omega
            refine Par.br (fun h => six q _ _ _ _ _ (by omega) ?_) (fun h4 => ?_)
            · rw [Int32.le_iff_toInt_le, hst] at h
              simp only [Int32.reduceToInt] at h
              rw [← hf, rsF_st (by omega)]
            · rw [Int32.le_iff_toInt_le, hst] at h4
              simp only [Int32.reduceToInt] at h4
              have h4 : s.2.1 < 400 := by omega
              have hit : i < toB D M S := by
                rcases hne with e | e
                · subst e; exact hil
                · omega
              have hgo := exC_go (wo := wo) hN hit h4 hB2
              have hEt := hB2.2 i (Nat.le_refl _) hit
              obtain ⟨e1, e2, e3⟩ := hN.1 i hil
              have hf2 : rsF D M N wo S (EnD D N i) (stR D M N wo (exC D M N wo) i s) = F := by rw [← hf]; exact (rsF_mv hgo).symm
              have hBE : StB D M N S (EnD D N i) := hB.mv (by omega) hEt
              obtain ⟨hrow, hwf, hn8⟩ := hF i hil
              obtain ⟨r, cf, a1, a2, a3, a4, a5, a6, a7, a8, a9⟩ := id hrow
              have hkr := kf_at a1
              have hnr := nf_at a1
              rw [← hkr] at a2
              rw [← hnr] at a3
              have h8 : (8 * l2).toInt = ((8 * i : Nat) : Int) := by
                rw [Int32.toInt_mul, h2]
                simp only [Int32.reduceToInt]
                rw [bmI (by omega) (by omega)]; omega
              have x1 : (8 * l2 + 1).toNatClampNeg = 8 * i + 1 := adN _ 1 _ 1 h8 (by decide) (by omega)
              have x4 : (8 * l2 + 4).toNatClampNeg = 8 * i + 4 := adN _ 4 _ 4 h8 (by decide) (by omega)
              have h2n : (l2 + 1).toInt = ((i + 1 : Nat) : Int) := ad1 l2 i h2 (by omega)
              have hO1 : OkS (s.1, s.2.1 + 1, s.2.2) := ⟨hO.1, by show s.2.1 + 1 ≤ 400; omega, by show s.2.2.length ≤ s.2.1 + 1; have := hO.2.2; omega⟩
              -- the passed out
              have h10p : ∀ (m : Nat) (c : Int32), m < q + 1 → c ≠ 0 → kf D i = 1 → psW wo D i → Par (L_m_runs K m 10 l1 l2 1 (8 * l2) c 0 0 st imany st cm wo astm asm av ke ko kl ac tp tl) (RlR F) := by
                intro m c hm hc hk1 hp
                have hEn : EnD D N i = i + 1 := by unfold EnD; exact if_neg (by rw [hk1]; decide)
                have hst2 : stR D M N wo (exC D M N wo) i s = s := by unfold stR; exact if_pos hp
                cases m with
                | zero => exact Par.no
                | succ m =>
                  rw [L_m_runs_e10]; unfold B_m_runs_10
                  refine Par.br (fun _ => ?_) (fun _ => Par.no)
                  rw [cl1 _ _ h8, a2]
                  refine Par.not (by rw [hk1]; decide) ?_
                  refine Par.br (fun _ => ?_) (fun _ => Par.no)
                  refine Par.yes hk1 (Par.not hc ?_)
                  cases m with
                  | zero => exact Par.no
                  | succ m =>
                    rw [L_m_runs_e12]; unfold B_m_runs_12
                    have hz : st + 0 = st := by rw [Int32.add_zero]
                    rw [hz]
                    refine nxt m S (i + 1) s _ _ _ _ _ _ _ _ _ _ _ _ _ _ _ _ _ (by omega) (by decide) h1 h2n (by rw [← hEn]; exact hBE) hR hO hM ?_
                    rw [hst2, hEn] at hf2
                    exact hf2
              -- a step
              have h10 : ∀ (m : Nat), m < q + 1 → ¬ psW wo D i → Par (L_m_runs K m 10 l1 l2 1 (8 * l2) 0 0 1 st imany st cm wo astm asm av ke ko kl ac tp tl) (RlR F) := by
                intro m hm hp
                cases m with
                | zero => exact Par.no
                | succ m =>
                  rw [L_m_runs_e10]; unfold B_m_runs_10
                  have hst1 : (st + 1).toInt = ((s.2.1 + 1 : Nat) : Int) := ad1 st _ hst (by omega)
                  have hval : kf D i ≠ 3 → Par (F_m_valueOf K l2 astm asm av ac) (fun r => r.1 = vlE (cod D i) s.1) := fun hk => by
                    rw [← hac]
                    exact E_m_valueOf K hK l2 astm asm av ac D M N i h2 (by omega) hrow hk (hwf hk) (by rw [hac]; exact hO.1)
                  refine Par.br (fun _ => ?_) (fun _ => Par.no)
                  rw [cl1 _ _ h8, a2, x1, a3]
                  refine Par.br (fun hk0 => ?_) (fun hk0 => ?_)
                  · have hEn : EnD D N i = i + 1 := by unfold EnD; exact if_neg (by rw [hk0]; decide)
                    refine Par.br (fun _ => ?_) (fun _ => Par.no)
                    refine Par.bd (hval (by rw [hk0]; decide)) (fun o ho => ?_)
                    refine Par.br (fun _ => ?_) (fun _ => Par.no)
                    have hv := hV i s.1 hO.1
                    have hst2 : stR D M N wo (exC D M N wo) i s = (upd s.1 (tcC D i) (vlE (cod D i) s.1), s.2.1 + 1, s.2.2) := by unfold stR; rw [if_neg hp, if_pos hk0]
                    rw [hst2, hEn] at hf2
                    refine nxt m S (i + 1) (upd s.1 (tcC D i) (vlE (cod D i) s.1), s.2.1 + 1, s.2.2) _ _ _ _ _ _ _ _ _ _ _ _ _ _ _ _ _ (by omega) (by decide) h1 h2n (by rw [← hEn]; exact hBE) hR ⟨vl3_upd hO.1 hv, hO1.2⟩ ⟨?_, hst1, hcm, htp⟩ hf2
                    show upd ac (nf D i).toNatClampNeg o.1 = _
                    rw [ho, hac]
                    rfl
                  · refine Par.br (fun _ => ?_) (fun _ => Par.no)
                    refine Par.br (fun hk1 => ?_) (fun hk1 => ?_)
                    · have hEn : EnD D N i = i + 1 := by unfold EnD; exact if_neg (by rw [hk1]; decide)
                      have hst2 : stR D M N wo (exC D M N wo) i s = (s.1, s.2.1 + 1, s.2.2 ++ [(vlE (cod D i) s.1, nf D i)]) := by unfold stR; rw [if_neg hp, if_neg hk0, if_pos hk1]
                      rw [hst2, hEn] at hf2
                      have hlen : (s.2.2 ++ [(vlE (cod D i) s.1, nf D i)]).length = s.2.2.length + 1 := by rw [List.length_append]; rfl
                      have hl4 : s.2.2.length ≤ 400 := by have := hO.2.1; have := hO.2.2; omega
                      have h11 : ∀ (p : Nat) (d4 d5 d6 d7 d8 : Int32) (av tp tl : Nat → Int32), p < m + 1 → TpR tp tl (s.2.2 ++ [(vlE (cod D i) s.1, nf D i)]) → Par (L_m_runs K p 11 l1 l2 1 d4 d5 d6 d7 d8 imany (st + 1) cm wo astm asm av ke ko kl ac tp tl) (RlR F) := by
                        intro p d4 d5 d6 d7 d8 av tp tl hp9 ht9
                        cases p with
                        | zero => exact Par.no
                        | succ p =>
                          rw [L_m_runs_e11]; unfold B_m_runs_11
                          cases p with
                          | zero => exact Par.no
                          | succ p =>
                            rw [L_m_runs_e12]; unfold B_m_runs_12
                            refine nxt p S (i + 1) (s.1, s.2.1 + 1, s.2.2 ++ [(vlE (cod D i) s.1, nf D i)]) _ _ _ _ _ _ _ _ _ _ _ _ _ _ _ _ _ (by omega) (by decide) h1 h2n (by rw [← hEn]; exact hBE) hR ⟨hO.1, hO1.2.1, ?_⟩ ⟨hac, hst1, ?_, ht9⟩ hf2
                            · show (s.2.2 ++ [(vlE (cod D i) s.1, nf D i)]).length ≤ s.2.1 + 1
                              rw [hlen]; have := hO.2.2; omega
                            · show (cm + 1).toInt = ((s.2.2 ++ [(vlE (cod D i) s.1, nf D i)]).length : Int)
                              rw [hlen]; exact ad1 cm _ hcm (by omega)
                      refine Par.yes rfl (Par.br (fun h20 => h11 m _ _ _ _ _ _ _ _ (by omega) (htp.full ?_ _)) (fun h20 => ?_))
                      · rw [Int32.le_iff_toInt_le, hcm] at h20
                        simp only [Int32.reduceToInt] at h20
                        omega
                      · refine Par.bd (hval (by rw [hk1]; decide)) (fun o ho => ?_)
                        refine Par.br (fun _ => ?_) (fun _ => Par.no)
                        refine Par.br (fun _ => ?_) (fun _ => Par.no)
                        refine Par.br (fun _ => h11 m _ _ _ _ _ _ _ _ (by omega) ?_) (fun _ => Par.no)
                        rw [cl1 cm _ hcm, ho]
                        exact htp.put _ _
                    · -- an if, a loop
                      have hk23 : kf D i = 2 ∨ kf D i = 3 := by
                        rcases hN.k4 i with h | h | h | h
                        · exact absurd h hk0
                        · exact absurd h hk1
                        · exact Or.inl h
                        · exact Or.inr h
                      have hEn : EnD D N i = N i := En_bk hk23
                      obtain ⟨m1, m2, m3, m4⟩ := hN.mb hil hk23
                      have hM1 : RlM (s.1, s.2.1 + 1, s.2.2) (st + 1) cm ac tp tl := ⟨hac, hst1, hcm, htp⟩
                      -- it is not gone into
                      have h13n : ∀ (p : Nat) (d5 d6 d8 : Int32) (av : Nat → Int32), p < m + 1 → rsF D M N wo S (M i) (s.1, s.2.1 + 1, s.2.2) = F → Par (L_m_runs K p 13 l1 l2 1 (8 * l2) d5 d6 0 d8 imany (st + 1) cm wo astm asm av ke ko kl ac tp tl) (RlR F) := by
                        intro p d5 d6 d8 av hp9 hf9
                        cases p with
                        | zero => exact Par.no
                        | succ p =>
                          rw [L_m_runs_e13]; unfold B_m_runs_13
                          refine Par.yes rfl (Par.br (fun _ => ?_) (fun _ => Par.no))
                          rw [x4]
                          rw [hEn] at hEt
                          exact nxt p S (M i) _ _ _ _ _ _ _ _ _ _ _ _ _ _ _ _ _ _ (by omega) (by decide) h1 a8 (hB.mv (by omega) (by omega)) hR hO1 hM1 hf9
                      -- it is gone into
                      have h13y : ∀ (p lf : Nat) (d5 d6 d7 d8 : Int32) (av : Nat → Int32), p < m + 1 → d7 ≠ 0 → 1 ≤ lf → lf ≤ 8 → ((kf D i = 2 ∧ lf = 1) ∨ (kf D i = 3 ∧ (nf D i).toInt = (lf : Int))) → rsF D M N wo ((i, lf) :: S) (i + 1) (s.1, s.2.1 + 1, s.2.2) = F → Par (L_m_runs K p 13 l1 l2 1 (8 * l2) d5 d6 d7 d8 imany (st + 1) cm wo astm asm av ke ko kl ac tp tl) (RlR F) := by
                        intro p lf d5 d6 d7 d8 av hp9 hd7 hl1 hl8 hlf hf9
                        cases p with
                        | zero => exact Par.no
                        | succ p =>
                          rw [L_m_runs_e13]; unfold B_m_runs_13
                          refine Par.not hd7 ?_
                          refine Par.br (fun _ => ?_) (fun _ => Par.no)
                          refine Par.br (fun hok => ?_) (fun _ => Par.no)
                          refine Par.br (fun _ => ?_) (fun _ => Par.no)
                          refine Par.br (fun _ => ?_) (fun _ => Par.no)
                          rw [cl1 _ _ h8, a2, x4, x1, a3, cl1 l1 _ h1]
                          have hB9 : StB D M N ((i, lf) :: S) (i + 1) := ⟨hk23, hil, m1, m4, hl1, hl8, fun h => by
                            rcases hlf with ⟨_, e⟩ | ⟨e, _⟩
                            · exact e
                            · have h : kf D i = 2 := h
                              rw [e] at h; exact absurd h (by decide), by rw [← hEn]; exact hBE⟩
                          have h14 : ∀ (u : Nat) (d6 d7 : Int32), u < p + 1 → d7.toInt = (lf : Int) → Par (L_m_runs K u 14 l1 l2 1 (8 * l2) d5 d6 d7 l1 imany (st + 1) cm wo astm asm av (upd ke S.length (astm (8 * i + 4))) (upd ko S.length l2) kl ac tp tl) (RlR F) := by
                            intro u d6 d7 hu hd
                            cases u with
                            | zero => exact Par.no
                            | succ u =>
                              rw [L_m_runs_e14]; unfold B_m_runs_14
                              refine Par.br (fun _ => ?_) (fun _ => Par.no)
                              rw [cl1 l1 _ h1]
                              have hSl : S.length ≤ 8 := by
                                have := (okIx_iff _ _).mp hok
                                omega
                              refine nxt u ((i, lf) :: S) (i + 1) _ _ _ _ _ _ _ _ _ _ _ _ _ _ _ _ _ _ (by omega) (by decide) (by rw [List.length_cons]; exact ad1 l1 _ h1 (by omega)) h2n hB9 ⟨?_, ?_, ?_, hR.mono (fun k hk => ?_)⟩ hO1 hM1 hf9
                              · rw [upd_eq]; exact h2
                              · rw [upd_eq]; exact a8
                              · rw [upd_eq]; exact hd
                              · rw [upd_ne _ _ (by omega), upd_ne _ _ (by omega), upd_ne _ _ (by omega)]
                                exact ⟨rfl, rfl, rfl⟩
                          refine Par.br (fun hk2 => h14 p _ 1 (by omega) ?_) (fun hk2 => ?_)
                          · rcases hlf with ⟨_, e⟩ | ⟨e, _⟩
                            · rw [e]; rfl
                            · rw [hk2] at e; exact absurd e (by decide)
                          · refine Par.br (fun _ => h14 p _ _ (by omega) ?_) (fun _ => Par.no)
                            rcases hlf with ⟨e, _⟩ | ⟨_, e⟩
                            · exact absurd e hk2
                            · exact e
                      refine Par.br (fun _ => ?_) (fun _ => Par.no)
                      refine Par.br (fun hk2 => ?_) (fun hk2 => ?_)
                      · obtain ⟨g1, g2, g3, g4, g5⟩ := hN.g2 hil hk2
                        refine Par.bd (hval (by rw [hk2]; decide)) (fun o ho => ?_)
                        refine Par.br (fun h0 => h13n m _ _ _ _ (by omega) ?_) (fun h0 => h13y m 1 _ _ _ _ _ (by omega) (by decide) (Nat.le_refl _) (by omega) (Or.inl ⟨hk2, rfl⟩) ?_)
                        · have hst2 : stR D M N wo (exC D M N wo) i s = exC D M N wo (M i) (N i) (s.1, s.2.1 + 1, s.2.2) := by
                            unfold stR
                            rw [if_neg hp, if_neg hk0, if_neg hk1, if_pos hk2, if_pos (by rw [← ho]; exact h0)]
                          rw [hst2, hEn] at hf2
                          rw [← hf2]
                          rw [hEn] at hEt
                          exact rsF_mv (exC_sp hN _ (M i) (N i) _ _ (Nat.le_refl _) g4 hEt g2 (hB2.sub (by omega)))
                        · have hst2 : stR D M N wo (exC D M N wo) i s = exC D M N wo (i + 1) (M i) (s.1, s.2.1 + 1, s.2.2) := by
                            unfold stR
                            rw [if_neg hp, if_neg hk0, if_neg hk1, if_pos hk2, if_neg (by rw [← ho]; exact h0)]
                          rw [hst2, hEn] at hf2
                          rw [← hf2]
                          rw [rsF_c]
                          rw [if_neg (by show ¬ kf D i = 3; rw [hk2]; decide)]
                      · have hk3 : kf D i = 3 := hk23.elim (fun h => absurd h hk2) id
                        have hMN := hN.2.2.1 i hil hk3
                        have hst2 : stR D M N wo (exC D M N wo) i s = itR (exC D M N wo (i + 1) (N i)) (nf D i).toInt.toNat (s.1, s.2.1 + 1, s.2.2) := by
                          unfold stR
                          rw [if_neg hp, if_neg hk0, if_neg hk1, if_neg hk2]
                        rw [hst2, hEn] at hf2
                        refine Par.br (fun _ => ?_) (fun _ => Par.no)
                        refine Par.br (fun h0 => h13n m _ _ _ _ (by omega) ?_) (fun h0 => ?_)
                        · rw [Int32.le_iff_toInt_le] at h0
                          simp only [Int32.reduceToInt] at h0
                          have e0 : (nf D i).toInt.toNat = 0 := by omega
                          rw [e0] at hf2
                          rw [hMN]
                          exact hf2
                        · rw [Int32.le_iff_toInt_le] at h0
                          simp only [Int32.reduceToInt] at h0
                          have h8' := hn8 hk3
                          refine h13y m (nf D i).toInt.toNat _ _ _ _ _ (by omega) (by decide) (by omega) (by omega) (Or.inr ⟨hk3, by omega⟩) ?_
                          rw [← hf2]
                          rw [rsF_c]
                          rw [if_pos (show kf D i = 3 from hk3)]
                          obtain ⟨u, hu⟩ : ∃ u, (nf D i).toInt.toNat = u + 1 := ⟨(nf D i).toInt.toNat - 1, by omega⟩
                          show rsF D M N wo S (N i) (itR (exC D M N wo (i + 1) (M i)) ((nf D i).toInt.toNat - 1) (exC D M N wo (i + 1) (M i) (s.1, s.2.1 + 1, s.2.2))) = _
                          rw [hu, hMN]
                          rfl
              -- the statement's kind; is it passed by
              have h9 : ∀ (m : Nat) (c : Int32), m < q + 1 → ((c = 0 ∧ ¬ psW wo D i) ∨ (c = 1 ∧ psW wo D i)) → Par (L_m_runs K m 9 l1 l2 1 (8 * l2) 0 0 c 0 imany st cm wo astm asm av ke ko kl ac tp tl) (RlR F) := by
                intro m c hm hc
                cases m with
                | zero => exact Par.no
                | succ m =>
                  rw [L_m_runs_e9]; unfold B_m_runs_9
                  rcases hc with ⟨e, hp⟩ | ⟨e, hp⟩
                  · subst e
                    exact Par.yes rfl (h10 m (by omega) hp)
                  · subst e
                    exact Par.not (by decide) (h10p m 1 (by omega) (by decide) hp.1 hp)
              have h8' : ∀ (m : Nat) (d5 d6 d7 d8 : Int32), m < q + 1 → ¬ psW wo D i → Par (L_m_runs K m 8 l1 l2 1 (8 * l2) d5 d6 d7 d8 imany st cm wo astm asm av ke ko kl ac tp tl) (RlR F) := by
                intro m d5 d6 d7 d8 hm hp
                cases m with
                | zero => exact Par.no
                | succ m =>
                  rw [L_m_runs_e8]; unfold B_m_runs_8
                  exact h9 m 0 (by omega) (Or.inl ⟨rfl, hp⟩)
              cases q with
              | zero => exact Par.no
              | succ q =>
                rw [L_m_runs_e7]; unfold B_m_runs_7
                refine Par.not (by decide) ?_
                refine Par.br (fun _ => ?_) (fun _ => Par.no)
                rw [cl1 _ _ h8, a2]
                refine Par.br (fun hk1 => ?_) (fun hk1 => h8' q _ _ _ _ (by omega) (fun h => hk1 h.1))
                refine Par.bd (E_m_outsAhead K hK l2 wo astm D i h2 (by omega) hD (fun k hk => by
                  obtain ⟨⟨rk, _, b1, b2, _⟩, _⟩ := hF k hk
                  exact ⟨rk, b1, b2⟩)) (fun o ho => ?_)
                have hps : ((wo >>> (o &&& 31)) &&& 1) = 1 ↔ psW wo D i := by
                  rcases ho with ⟨o1, o2⟩ | ⟨o1, o2⟩
                  · subst o1
                    subst o2
                    constructor
                    · intro h; exact absurd h (by decide)
                    · rintro ⟨_, h⟩
                      exfalso
                      refine h ?_
                      have hz : (0 : Int32).toUInt32 = 0 := by decide
                      rw [hz, UInt32.zero_shiftRight]
                      decide
                  · subst o2
                    have hcl := cn1_le (D.take i)
                    rw [List.length_take] at hcl
                    rw [ps_same wo _ (by omega) hwo]
                    have h01 := and1_01 (wo.toUInt32 >>> ((Int32.ofNat (cn1 (D.take i))).toUInt32 &&& Int32.toUInt32 31)).toInt32
                    constructor
                    · intro h; exact ⟨hk1, by rw [h]; decide⟩
                    · rintro ⟨_, h⟩
                      exact h01.elim (fun e => absurd e h) id
                refine Par.br (fun h => h9 q 1 (by omega) (Or.inr ⟨rfl, hps.mp h⟩)) (fun h => h8' q _ _ _ _ (by omega) (fun h9 => h (hps.mpr h9)))
      cases n with
      | zero => exact Par.no
      | succ n =>
        rw [L_m_runs_e2]; unfold B_m_runs_2
        refine Par.br (fun h => five n _ _ _ _ _ (by omega) (Or.inl ?_)) (fun h => ?_)
        · rw [Int32.le_iff_toInt_le, h1] at h
          simp only [Int32.reduceToInt] at h
          exact List.length_eq_zero_iff.mp (by omega)
        · rw [Int32.le_iff_toInt_le, h1] at h
          simp only [Int32.reduceToInt] at h
          cases S with
          | nil => rw [List.length_nil] at h; omega
          | cons x S =>
            obtain ⟨o, lf⟩ := x
            rw [List.length_cons] at h1
            have hm1 : (l1 - 1).toInt = (S.length : Int) := by
              have hr9 := i32r l1
              rw [Int32.toInt_sub, h1]
              simp only [Int32.reduceToInt]
              rw [bmI (by omega) (by omega)]
              omega
            obtain ⟨r1, r2, r3, r4⟩ := hR
            have r1 : (ko S.length).toInt = (o : Int) := r1
            have r2 : (ke S.length).toInt = (M o : Int) := r2
            have r3 : (kl S.length).toInt = (lf : Int) := r3
            obtain ⟨b1, b2, b3, b4', b5', b6', b7', b8'⟩ := hB
            have b2 : o < D.length := b2
            have b3 : i ≤ M o := b3
            have b1 : bkP D o := b1
            have b5' : 1 ≤ lf := b5'
            have b6' : lf ≤ 8 := b6'
            have b8' : StB D M N S (N o) := b8'
            obtain ⟨m1, m2, m3, m4⟩ := hN.mb b2 b1
            refine Par.br (fun _ => ?_) (fun _ => Par.no)
            rw [cl1 _ _ hm1]
            refine Par.br (fun hend => ?_) (fun hend => five n _ _ _ _ _ (by omega) (Or.inr (fun e => ?_)))
            · have hiM : i = M o := by
                have : (ke S.length).toInt = l2.toInt := by rw [hend]
                rw [r2, h2] at this
                omega
              have hsE : exC D M N wo i (M o) s = s := exC_no (by omega)
              have hf9 : rsF D M N wo S (N o) (if kf D o = 3 then itR (exC D M N wo (o + 1) (M o)) (lf - 1) s else s) = F := by
                rw [← hf]
                show _ = rsF D M N wo S (N o) (if kf D o = 3 then itR (exC D M N wo (o + 1) (M o)) (lf - 1) (exC D M N wo i (M o) s) else exC D M N wo i (M o) s)
                rw [hsE]
              obtain ⟨⟨rr, cf, a1, a2, a3, a4, a5, a6, a7, a8, a9⟩, hwf, hn8⟩ := hF o b2
              have hkr := kf_at a1
              rw [← hkr] at a2
              have h8 : (8 * ko S.length).toInt = ((8 * o : Nat) : Int) := by
                rw [Int32.toInt_mul, r1]
                simp only [Int32.reduceToInt]
                rw [bmI (by omega) (by omega)]; omega
              have hm1l : (kl S.length - 1).toInt = (lf : Int) - 1 := by
                rw [Int32.toInt_sub, r3]
                simp only [Int32.reduceToInt]
                exact bmI (by omega) (by omega)
              -- the block is closed
              have three : ∀ (q : Nat) (kl : Nat → Int32), q < n + 1 → BkR M ke ko kl S → (kf D o = 2 ∨ lf = 1) → Par (L_m_runs K q 3 l1 l2 l3 (8 * ko S.length) 0 0 0 0 imany st cm wo astm asm av ke ko kl ac tp tl) (RlR F) := by
                intro q kl hq hbk hc
                cases q with
                | zero => exact Par.no
                | succ q =>
                  rw [L_m_runs_e3]; unfold B_m_runs_3
                  refine Par.br (fun _ => ?_) (fun _ => Par.no)
                  have x5 : (8 * ko S.length + 5).toNatClampNeg = 8 * o + 5 := adN _ 5 _ 5 h8 (by decide) (by omega)
                  rw [x5]
                  cases q with
                  | zero => exact Par.no
                  | succ q =>
                    rw [L_m_runs_e4]; unfold B_m_runs_4
                    refine (ih q (by omega)).2 S (N o) s _ _ _ _ _ _ _ _ _ _ _ _ _ _ _ _ _ h3 (by rw [subOne]; exact hm1) a9 b8' hbk hO hM ?_
                    rw [← hf9]
                    rcases hc with hc | hc
                    · rw [if_neg (by rw [hc]; decide)]
                    · rw [hc]
                      split <;> rfl
              have four : ∀ (q lf2 : Nat) (kl : Nat → Int32), q < n + 1 → kf D o = 3 → BkR M ke ko kl ((o, lf2) :: S) → 1 ≤ lf2 → lf2 ≤ 8 → rsF D M N wo ((o, lf2) :: S) (o + 1) s = F → Par (L_m_runs K q 4 l1 (ko S.length + 1) l3 (8 * ko S.length) 0 0 0 0 imany st cm wo astm asm av ke ko kl ac tp tl) (RlR F) := by
                intro q lf2 kl hq hk3 hbk h91 h98 hf8
                cases q with
                | zero => exact Par.no
                | succ q =>
                  rw [L_m_runs_e4]; unfold B_m_runs_4
                  exact (ih q (by omega)).2 ((o, lf2) :: S) (o + 1) s _ _ _ _ _ _ _ _ _ _ _ _ _ _ _ _ _ h3 (by rw [List.length_cons]; exact h1) (ad1 _ o r1 (by omega)) ⟨b1, b2, m1, m4, h91, h98, fun h => by
                    have h : kf D o = 2 := h
                    rw [hk3] at h; exact absurd h (by decide), b8'⟩ hbk hO hM hf8
              have hlow : ∀ (v : Int32), BkR M ke ko (upd kl S.length v) S := fun v => r4.mono (fun k hk => ⟨rfl, rfl, upd_ne _ _ (by omega)⟩)
              refine Par.br (fun _ => ?_) (fun _ => Par.no)
              refine Par.br (fun _ => ?_) (fun _ => Par.no)
              refine Par.br (fun _ => ?_) (fun _ => Par.no)
              refine Par.br (fun _ => ?_) (fun _ => Par.no)
              rw [cl1 _ _ h8, a2]
              refine Par.br (fun hk3 => ?_) (fun hk3 => three n _ (by omega) (hlow _) (Or.inl (b1.elim id (fun h => absurd h hk3))))
              refine Par.br (fun _ => ?_) (fun _ => Par.no)
              rw [upd_eq]
              refine Par.br (fun h0 => three n _ (by omega) (hlow _) (Or.inr ?_)) (fun h0 => ?_)
              · rw [Int32.le_iff_toInt_le, hm1l] at h0
                simp only [Int32.reduceToInt] at h0
                omega
              · rw [Int32.le_iff_toInt_le, hm1l] at h0
                simp only [Int32.reduceToInt] at h0
                rw [if_pos hk3] at hf9
                obtain ⟨u, hu⟩ : ∃ u, lf = u + 2 := ⟨lf - 2, by omega⟩
                refine Par.br (fun _ => ?_) (fun _ => Par.no)
                refine Par.br (fun _ => ?_) (fun _ => Par.no)
                refine Par.br (fun he => ?_) (fun he => ?_)
                · have hoM : M o = o + 1 := by
                    have h9 := ad1 _ o r1 (by omega)
                    rw [he, r2] at h9
                    omega
                  refine Par.br (fun _ => ?_) (fun _ => Par.no)
                  refine four n 1 _ (by omega) hk3 ⟨r1, r2, by rw [upd_eq]; rfl, r4.mono (fun k hk => ⟨rfl, rfl, by rw [upd_ne _ _ (by omega), upd_ne _ _ (by omega)]⟩)⟩ (Nat.le_refl _) (by omega) ?_
                  rw [← hf9]
                  show rsF D M N wo S (N o) (if kf D o = 3 then itR (exC D M N wo (o + 1) (M o)) (1 - 1) (exC D M N wo (o + 1) (M o) s) else _) = _
                  rw [if_pos hk3]
                  have hid : exC D M N wo (o + 1) (M o) s = s := exC_no (by omega)
                  rw [hid, itR_st hid, itR_st hid]
                · refine four n (u + 1) _ (by omega) hk3 ⟨r1, r2, by rw [upd_eq, hm1l, hu]; omega, hlow _⟩ (by omega) (by omega) ?_
                  rw [← hf9, hu]
                  show rsF D M N wo S (N o) (if kf D o = 3 then itR (exC D M N wo (o + 1) (M o)) (u + 1 - 1) (exC D M N wo (o + 1) (M o) s) else _) = _
                  rw [if_pos hk3]
                  rfl
            · refine hend (Int32.toInt_inj.mp ?_)
              rw [r2, h2, e]
              rfl
  unfold F_m_runs
  obtain ⟨n, hn⟩ : ∃ n9, K = n9 + 1 := ⟨K - 1, by omega⟩
  generalize hz : L_m_runs K K 0 0 0 0 0 0 0 0 0 imany a1 a2 wo astm asm avls abke abko abkl acel atap atpl = z
  have hz2 : z = L_m_runs K (n + 1) 0 0 0 0 0 0 0 0 0 imany a1 a2 wo astm asm avls abke abko abkl acel atap atpl := by rw [← hn, hz]
  rw [hz2, L_m_runs_e0]; unfold B_m_runs_0
  exact (key n).1 [] 0 (acel, 0, []) 0 0 1 _ _ _ _ _ _ _ _ _ _ _ _ _ _ (by decide) rfl rfl ⟨Nat.zero_le _, Nat.le_refl _, fun j _ hj => (hN.1 j hj).2.1⟩ True.intro ⟨hg, Nat.zero_le _, Nat.le_refl _⟩ ⟨rfl, rfl, rfl, fun k x _ hx => by simp at hx⟩ hfin
