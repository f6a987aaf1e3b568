/-! p3: the class's cut, whole -/
theorem sgn_ix : ∀ n : Fin 256, ((ixS (((Int32.ofNat n.val).toUInt32 % 65536).toInt32) < 0) ↔ ¬ (Int32.ofNat n.val = 61 ∨ Int32.ofNat n.val = 59 ∨ Int32.ofNat n.val = 123 ∨ Int32.ofNat n.val = 125 ∨ Int32.ofNat n.val = 43 ∨ Int32.ofNat n.val = 45 ∨ Int32.ofNat n.val = 42 ∨ Int32.ofNat n.val = 38 ∨ Int32.ofNat n.val = 33 ∨ Int32.ofNat n.val = 40 ∨ Int32.ofNat n.val = 41 ∨ Int32.ofNat n.val = 60)) := by decide +kernel
theorem b_ofn (b : Int32) (h0 : 0 ≤ b.toInt) (h1 : b.toInt ≤ 255) : ∃ n : Fin 256, b = Int32.ofNat n.val := by
  refine ⟨⟨b.toInt.toNat, by omega⟩, Int32.toInt_inj.mp ?_⟩
  rw [Int32.toInt_ofNat_of_lt (by show b.toInt.toNat < _; omega)]
  show b.toInt = ((b.toInt.toNat : Nat) : Int)
  omega
theorem sgn_of (b : Int32) (h0 : 0 ≤ b.toInt) (h1 : b.toInt ≤ 255) : (ixS ((b.toUInt32 % 65536).toInt32) < 0) ↔ ¬ sgq b := by
  obtain ⟨n, rfl⟩ := b_ofn b h0 h1
  exact sgn_ix n
def BLn (tx : Nat → Int32) (a b : Nat) : Prop := a ≤ b ∧ ∀ i : Nat, a ≤ i → i < b → tx i = 32
def ChC (L : Nat) (tx : Nat → Int32) (m : Nat) (fk fv fp : Nat → Int32) (bd : Nat → Nat) : Prop :=
  bd 0 = 0 ∧ m ≤ bd m ∧ ∀ j : Nat, j < m → ∃ s : Nat, BLn tx (bd j) s ∧ TokC L tx s (fk j) (fv j) (bd (j + 1)) ∧ 0 ≤ (fp j).toInt
theorem ChC.add {L : Nat} {tx : Nat → Int32} {m : Nat} {fk fv fp gk gv gp : Nat → Int32} {bd : Nat → Nat} {r1 k v : Int32} {s q : Nat} (h : ChC L tx m fk fv fp bd) (hB : BLn tx (bd m) s) (hA : AdP m fk fv fp r1 gk gv gp k v s) (hT : TokC L tx s k v q) :
    ChC L tx (m + 1) gk gv gp (fun i => if i = m + 1 then q else bd i) := by
  obtain ⟨h1, h2, h3⟩ := h
  obtain ⟨a1, rfl, rfl, z, a4, rfl⟩ := hA
  have hq := hT.ok
  refine ⟨?_, ?_, fun j hj => ?_⟩
  · show (if 0 = m + 1 then q else bd 0) = 0
    rw [if_neg (by omega)]; exact h1
  · show m + 1 ≤ (if m + 1 = m + 1 then q else bd (m + 1))
    rw [if_pos rfl]
    have := hB.1
    omega
  · show ∃ s' : Nat, BLn tx (if j = m + 1 then q else bd j) s' ∧ TokC L tx s' (upd fk m k j) (upd fv m v j) (if j + 1 = m + 1 then q else bd (j + 1)) ∧ 0 ≤ (upd fp m z j).toInt
    rw [if_neg (by omega)]
    by_cases hjm : j = m
    · subst hjm
      rw [if_pos rfl, upd_eq, upd_eq, upd_eq]
      exact ⟨s, hB, hT, by rw [a4]; omega⟩
    · rw [if_neg (by omega), upd_ne fk k hjm, upd_ne fv v hjm, upd_ne fp z hjm]
      exact h3 j (by omega)
abbrev R8c : Type := Int32 × Int32 × Int32 × Int32 × Int32 × (Nat → Int32) × (Nat → Int32) × (Nat → Int32)
def CutP (L : Nat) (tx : Nat → Int32) (r : R8c) : Prop :=
  ∃ (E : Nat) (bd : Nat → Nat), E ≤ L ∧ r.1.toInt = ((E + 1 : Nat) : Int) ∧ ChC L tx E r.2.2.2.2.2.1 r.2.2.2.2.2.2.1 r.2.2.2.2.2.2.2 bd ∧ BLn tx (bd E) L ∧ r.2.2.2.2.2.1 E = 0 ∧ r.2.2.2.2.2.2.1 E = 0 ∧
    STRq r.1 r.2.2.2.2.2.1 r.2.2.2.2.2.2.1 r.2.2.2.2.2.2.2 ∧ CSt r.1 r.2.2.2.2.2.1 r.2.2.2.2.2.2.1 0 r.2.1 r.2.2.1 r.2.2.2.1 r.2.2.2.2.1 0
theorem E_X7_cut (K : Nat) (hK : 1000000000 ≤ K) (mn at_ kd vl pl len : Int32) (fk fv fp tx : Nat → Int32) (L : Nat) (hL : len.toInt = (L : Int)) (hL3 : L ≤ 300) (hby : ∀ i : Nat, i < L → 0 ≤ (tx i).toInt ∧ (tx i).toInt ≤ 255) :
    Par (F_X7_cut K mn at_ kd vl pl fk fv fp len tx) (CutP L tx) := by
  unfold F_X7_cut
  have key : ∀ (n p m : Nat) (l2 mn : Int32) (fk fv fp : Nat → Int32) (bd : Nat → Nat), l2.toInt = (p : Int) → mn.toInt = (m : Int) → p ≤ L → ChC L tx m fk fv fp bd → BLn tx (bd m) p → Par (L_X7_cut K n 1 l2 0 0 0 mn at_ kd vl pl fk fv fp len tx) (CutP L tx) := by
    intro n
    induction n using Nat.strongRecOn with
    | _ n ih =>
    intro p m l2 mn fk fv fp bd hp hm hpL hC hB
    have hm3 : m ≤ p := Nat.le_trans hC.2.1 hB.1
    cases n with
    | zero => exact Par.no
    | succ n =>
    rw [L_X7_cut_e1]; unfold B_X7_cut_1
    have h3c : ∀ (m2 p2 mm : Nat) (l3 l4 mn2 : Int32) (gk gv gp : Nat → Int32) (bd2 : Nat → Nat), m2 < n + 1 → l4.toInt = (p2 : Int) → p < p2 → p2 ≤ L → mn2.toInt = (mm : Int) → ChC L tx mm gk gv gp bd2 → BLn tx (bd2 mm) p2 → Par (L_X7_cut K m2 3 l2 l3 l4 0 mn2 at_ kd vl pl gk gv gp len tx) (CutP L tx) := by
      intro m2 p2 mm l3 l4 mn2 gk gv gp bd2 hm2 hl4 hpp hp2 hmn2 hC2 hB2
      cases m2 with
      | zero => exact Par.no
      | succ m2 =>
        rw [L_X7_cut_e3]; unfold B_X7_cut_3
        have hl1 : (l2 + 1).toInt = ((p + 1 : Nat) : Int) := ad1 l2 p hp (by omega)
        have hif : (if (l2 + 1) < l4 then l4 else (l2 + 1)).toInt = (p2 : Int) := by
          by_cases h : (l2 + 1) < l4
          · rw [if_pos h]; exact hl4
          · rw [if_neg h]
            rw [Int32.lt_iff_toInt_lt, hl1, hl4] at h
            rw [hl1]; omega
        exact ih m2 (by omega) p2 mm _ mn2 gk gv gp bd2 hif hmn2 hp2 hC2 hB2
    refine Par.br (fun h => ?_) (fun h => ?_)
    · rw [Int32.le_iff_toInt_le, hp, hL] at h
      have hpL2 : p = L := by omega
      subst hpL2
      refine Par.bd (E_X7_add K hK 0 0 len mn fk fv fp m hm (by omega)) (fun r hr => ?_)
      obtain ⟨q1, q2, q3, q4⟩ := hr
      have hall : ∀ j : Nat, j < m + 1 → (0 ≤ (r.2.2.1 j).toInt ∧ (r.2.2.1 j).toInt ≤ 9 ∧ (r.2.1 j = 2 → (r.2.2.1 j).toInt ≤ 5) ∧ 0 ≤ (r.2.2.2 j).toInt) := by
        intro j hj
        rw [q2, q3, q4]
        by_cases hjm : j = m
        · subst hjm
          rw [upd_eq, upd_eq, upd_eq]
          exact ⟨by decide, by decide, fun h9 => absurd h9 (by decide), by rw [hL]; omega⟩
        · rw [upd_ne fk 0 hjm, upd_ne fv 0 hjm, upd_ne fp len hjm]
          obtain ⟨s, _, s2, s3⟩ := hC.2.2 j (by omega)
          exact ⟨s2.ok.2.2.2.1.1, s2.ok.2.2.2.1.2.1, s2.ok.2.2.2.1.2.2, s3⟩
      have hstr : STRq r.1 r.2.1 r.2.2.1 r.2.2.2 := by
        refine ⟨by rw [q1]; omega, by rw [q1]; omega, fun j hj => ?_, fun j hj => ?_, fun j hj => hall j (by rw [q1] at hj; omega)⟩
        · rw [q1] at hj
          rw [q2, upd_ne fk 0 (by omega)]
          obtain ⟨s, _, s2, _⟩ := hC.2.2 j (by omega)
          exact s2.ok.1
        · rw [q1] at hj
          have : j = m := by omega
          rw [q2, this, upd_eq]
      have hadv : Par (F_X7_advance K r.1 (-1) kd vl pl r.2.1 r.2.2.1 r.2.2.2) (fun w => CSt r.1 r.2.1 r.2.2.1 0 w.1 w.2.1 w.2.2.1 w.2.2.2 0) := by
        unfold F_X7_advance
        obtain ⟨n7, hn7⟩ : ∃ n9, K = n9 + 1 := ⟨K - 1, by omega⟩
        generalize hz : L_X7_advance K K 0 r.1 (-1) kd vl pl r.2.1 r.2.2.1 r.2.2.2 = z
        have hz2 : z = L_X7_advance K (n7 + 1) 0 r.1 (-1) kd vl pl r.2.1 r.2.2.1 r.2.2.2 := by rw [← hn7, hz]
        rw [hz2, L_X7_advance_e0]; unfold B_X7_advance_0
        have e0 : ((-1 : Int32) + 1).toInt = ((0 : Nat) : Int) := by decide
        refine Par.yes (by rw [Int32.lt_iff_toInt_lt, e0, q1]; omega) ?_
        refine Par.br (fun _ => ?_) (fun _ => Par.no)
        refine Par.br (fun _ => ?_) (fun _ => Par.no)
        refine Par.br (fun _ => ?_) (fun _ => Par.no)
        refine Par.ret ⟨e0, ⟨by rw [q1]; omega, ?_⟩, ?_, ?_, by decide, by decide⟩
        · show 0 ≤ (r.2.2.2 ((-1 : Int32) + 1).toNatClampNeg).toInt
          rw [cl1 _ 0 e0]; exact (hall 0 (by omega)).2.2.2
        · show r.2.1 ((-1 : Int32) + 1).toNatClampNeg = _
          rw [cl1 _ 0 e0]
        · show r.2.2.1 ((-1 : Int32) + 1).toNatClampNeg = _
          rw [cl1 _ 0 e0]
      refine Par.bd hadv (fun w hw => Par.ret ⟨m, bd, hm3, q1, ?_, hB, ?_, ?_, hstr, hw⟩)
      · refine ⟨hC.1, hC.2.1, fun j hj => ?_⟩
        show ∃ s : Nat, BLn tx (bd j) s ∧ TokC p tx s (r.2.1 j) (r.2.2.1 j) (bd (j + 1)) ∧ 0 ≤ (r.2.2.2 j).toInt
        rw [q2, q3, q4, upd_ne fk 0 (by omega), upd_ne fv 0 (by omega), upd_ne fp len (by omega)]
        exact hC.2.2 j hj
      · show r.2.1 m = 0
        rw [q2, upd_eq]
      · show r.2.2.1 m = 0
        rw [q3, upd_eq]
    · rw [Int32.le_iff_toInt_le, hp, hL] at h
      have hpL2 : p < L := by omega
      have hl1 : (l2 + 1).toInt = ((p + 1 : Nat) : Int) := ad1 l2 p hp (by omega)
      refine Par.bd (E_X6_at K hK l2 len tx p L hp hL) (fun b hb => ?_)
      rcases hb with ⟨_, hb⟩ | ⟨h9, _⟩
      case inr => omega
      subst hb
      refine Par.bd (E_X7_isLetter K hK (tx p)) (fun z hz => ?_)
      rcases hz with ⟨z1, z2⟩ | ⟨z1, z2⟩
      · refine Par.not (by rw [z1]; decide) ?_
        refine Par.bd (E_X7_takeWord K hK l2 mn len fk fv fp tx p m L hp hm (by omega) hL hL3 hpL2 z2) (fun r hr => ?_)
        obtain ⟨q, k, v, r1, r2, r3⟩ := hr
        have hq := r3.ok
        refine h3c n q (m + 1) _ _ _ _ _ _ (fun i => if i = m + 1 then q else bd i) (by omega) r1 hq.2.1 hq.2.2.1 r2.1 (hC.add hB r2 r3) ?_
        show BLn tx (if m + 1 = m + 1 then q else bd (m + 1)) q
        rw [if_pos rfl]
        exact ⟨Nat.le_refl _, fun i h1 h2 => by omega⟩
      · refine Par.yes z1 ?_
        refine Par.bd (E_X7_isFigure K hK (tx p)) (fun y hy => ?_)
        rcases hy with ⟨y1, y2⟩ | ⟨y1, y2⟩
        · refine Par.not (by rw [y1]; decide) ?_
          refine Par.bd (E_X7_takeNumber K hK l2 mn len fk fv fp tx p m L hp hm (by omega) hL hL3 hpL2 y2) (fun r hr => ?_)
          obtain ⟨q, k, v, r1, r2, r3⟩ := hr
          have hq := r3.ok
          refine h3c n q (m + 1) _ _ _ _ _ _ (fun i => if i = m + 1 then q else bd i) (by omega) r1 hq.2.1 hq.2.2.1 r2.1 (hC.add hB r2 r3) ?_
          show BLn tx (if m + 1 = m + 1 then q else bd (m + 1)) q
          rw [if_pos rfl]
          exact ⟨Nat.le_refl _, fun i h1 h2 => by omega⟩
        · refine Par.yes y1 ?_
          refine Par.br (fun h32 => ?_) (fun h32 => ?_)
          · refine h3c n (p + 1) m _ _ _ _ _ _ bd (by omega) hl1 (by omega) (by omega) hm hC ⟨by have := hB.1; omega, fun i h1 h2 => ?_⟩
            by_cases hi : i = p
            · rw [hi]; exact h32
            · exact hB.2 i h1 (by omega)
          · have hbb := hby p hpL2
            have h2c : ∀ (k : Int32), ((sgq (tx p) ∧ k = tx p) ∨ (¬ sgq (tx p) ∧ k = 1)) → Par (L_X7_cut K n 2 l2 (tx p) (l2 + 1) k mn at_ kd vl pl fk fv fp len tx) (CutP L tx) := by
              intro k hk
              cases n with
              | zero => exact Par.no
              | succ n =>
                rw [L_X7_cut_e2]; unfold B_X7_cut_2
                refine Par.bd (E_X7_add K hK k 0 l2 mn fk fv fp m hm (by omega)) (fun r hr => ?_)
                have hT : TokC L tx p k 0 (p + 1) := Or.inr (Or.inr ⟨hpL2, rfl, z2, y2, h32, hk, rfl⟩)
                have hA : AdP m fk fv fp r.1 r.2.1 r.2.2.1 r.2.2.2 k 0 p := ⟨hr.1, hr.2.1, hr.2.2.1, l2, hp, hr.2.2.2⟩
                refine h3c n (p + 1) (m + 1) _ _ _ _ _ _ (fun i => if i = m + 1 then p + 1 else bd i) (by omega) hl1 (by omega) (by omega) hr.1 (hC.add hB hA hT) ?_
                show BLn tx (if m + 1 = m + 1 then p + 1 else bd (m + 1)) (p + 1)
                rw [if_pos rfl]
                exact ⟨Nat.le_refl _, fun i h1 h2 => by omega⟩
            have hsg := sgn_of (tx p) hbb.1 hbb.2
            refine Par.br (fun hx => h2c 1 (Or.inr ⟨hsg.mp hx, rfl⟩)) (fun hx => h2c (tx p) (Or.inl ⟨?_, rfl⟩))
            by_cases hs : sgq (tx p)
            · exact hs
            · exact absurd (hsg.mpr hs) hx
  obtain ⟨n, hn⟩ : ∃ n9, K = n9 + 1 := ⟨K - 1, by omega⟩
  generalize hz : L_X7_cut K K 0 0 0 0 0 mn at_ kd vl pl fk fv fp len tx = z
  have hz2 : z = L_X7_cut K (n + 1) 0 0 0 0 0 mn at_ kd vl pl fk fv fp len tx := by rw [← hn, hz]
  rw [hz2, L_X7_cut_e0]; unfold B_X7_cut_0
  exact key n 0 0 0 0 fk fv fp (fun _ => 0) rfl rfl (Nat.zero_le _) ⟨rfl, Nat.le_refl _, fun j hj => by omega⟩ ⟨Nat.le_refl _, fun i h1 h2 => by omega⟩
