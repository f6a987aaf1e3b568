/-! look: a view out of the rows that are kept, or out of a run -/
def FnR (D : List SRc) (M N : Nat → Nat) (wo : Int32) (x : Nat) : RSt := exC D M N wo 0 D.length (gN x, 0, [])
theorem FnR_ok {D : List SRc} {M N : Nat → Nat} {wo : Int32} {x : Nat} (hV : VlD D) : OkS (FnR D M N wo x) ∧ OkO (FnR D M N wo x) := by
  have h0 : OkS (gN x, 0, []) := ⟨gN_v3 x, Nat.zero_le _, Nat.le_refl _⟩
  exact ⟨exC_ok hV _ _ _ h0, exR_o hV _ _ _ _ h0 (fun y hy => by cases hy)⟩
/-- the views that are kept -/
def CaI (D : List SRc) (M N : Nat → Nat) (stp : Int32) (fv : Nat → Int64) (fk : Nat → Int32) : Prop := (∀ k : Nat, k < 4096 → (fk k).toInt ≤ stp.toInt) ∧ ∀ k : Nat, k < 4096 → fk k = stp → ∀ w : Nat, w < 4 → (fv (4096 * w + k)).toBitVec.toNat = VwN (Int32.ofNat w) (FnR D M N 0 k)
theorem updL_eq (f : Nat → Int64) (k : Nat) (v : Int64) : vp_updL f k v k = v := by simp [vp_updL]
theorem updL_ne (f : Nat → Int64) {k j : Nat} (v : Int64) (h : j ≠ k) : vp_updL f k v j = f j := by simp [vp_updL, h]
theorem n_mask (x : Nat) (hx : x < 4096) (bs : List Bool) (hb : bs.length = 6) : ((Int32.ofNat x &&& mkI bs) &&& 4095) = Int32.ofNat (x &&& mkB bs) ∧ (x &&& mkB bs) < 4096 := by
  have hmk : mkB bs < 2 ^ 12 := (coP bs hb).2.2
  have hlt : (x &&& mkB bs) < 2 ^ 12 := Nat.and_lt_two_pow _ hmk
  refine ⟨?_, by omega⟩
  rw [← Int32.toBitVec_inj]
  apply BitVec.eq_of_toNat_eq
  have e : ((Int32.ofNat x &&& mkI bs) &&& 4095).toBitVec = ((Int32.ofNat x).toBitVec &&& (mkI bs).toBitVec) &&& 4095#32 := rfl
  have e3 : (4095#32).toNat = 2 ^ 12 - 1 := rfl
  have e4 : (mkI bs).toBitVec.toNat = mkB bs := ofN_nat _ (by omega)
  rw [e, BitVec.toNat_and, BitVec.toNat_and, ofN_nat _ hx, e4, e3, Nat.and_two_pow_sub_one_eq_mod, Nat.mod_eq_of_lt hlt, ofN_nat _ (by omega)]
theorem i12 (w k : Nat) (hw : w < 4) (hk : k < 4096) : ((Int32.ofNat w <<< (12 &&& 31)) ||| Int32.ofNat k).toNatClampNeg = 4096 * w + k := by
  have e : ((Int32.ofNat w <<< (12 &&& 31)) ||| Int32.ofNat k) = Int32.ofNat (4096 * w + k) := by
    rw [← Int32.toBitVec_inj]
    apply BitVec.eq_of_toNat_eq
    have e1 : ((Int32.ofNat w <<< (12 &&& 31)) ||| Int32.ofNat k).toBitVec = ((BitVec.ofNat 32 w) <<< 12) ||| (BitVec.ofNat 32 k) := rfl
    have e2 : (Int32.ofNat (4096 * w + k)).toBitVec = BitVec.ofNat 32 (4096 * w + k) := rfl
    rw [e1, e2, BitVec.toNat_or, BitVec.toNat_shiftLeft, BitVec.toNat_ofNat, BitVec.toNat_ofNat, BitVec.toNat_ofNat, Nat.shiftLeft_eq, Nat.mod_eq_of_lt (show w < 2 ^ 32 by omega), Nat.mod_eq_of_lt (show w * 2 ^ 12 < 2 ^ 32 by omega), Nat.mod_eq_of_lt (show k < 2 ^ 32 by omega), Nat.mod_eq_of_lt (show 4096 * w + k < 2 ^ 32 by omega)]
    have := Nat.two_pow_add_eq_or_of_lt (i := 12) (b := k) (by omega) w
    have e9 : w * 2 ^ 12 = 2 ^ 12 * w := by omega
    rw [e9, ← this]
  rw [e]
  exact cl1 _ _ (ofn_i _ (by omega))
abbrev R8l : Type := Int64 × (Nat → Int64) × (Nat → Int32) × Int32 × Int32 × Int32 × (Nat → Int32) × (Nat → Int32)
theorem E_X8_look (K : Nat) (hK : 1000000000 ≤ K) (x w : Nat) (hx : x < 4096) (hw : w < 4) (wo : Int32) (LL : List Nat) (sv : Nat → Nat → Int32) (stp : Int32) (fv : Nat → Int64) (fk : Nat → Int32) (b1 b2 b3 : Int32) (fn fl : Nat → Int32) (sz us : Int32) (pg : Nat → Option Nat) (pk : Nat → Int32) (D : List SRc) (M N dp : Nat → Nat) (ub : List Bool) (hub : ub.length = 6) (hus : us = mkI ub) (hs : sz.toInt = (D.length : Int)) (hD : D.length ≤ 30) (hC : CRw pg sv pk D M N) (hN : NsT D M N dp) (hV : VlD D) (hca : CaI D M N stp fv fk) : Par (F_X8_look K (Int32.ofNat x) (Int32.ofNat w) wo LL sv stp fv fk b1 b2 b3 fn fl sz us pg pk) (fun r => r.1.toBitVec.toNat = VwN (Int32.ofNat w) (FnR D M N wo (x &&& mkB ub)) ∧ CaI D M N stp r.2.1 r.2.2.1) := by
  subst hus
  obtain ⟨m1, m2⟩ := n_mask x hx ub hub
  generalize hk : x &&& mkB ub = k at m1 m2
  have hw3 : (Int32.ofNat w &&& 3) = Int32.ofNat w := by
    rw [n_and3 w (by omega), Nat.mod_eq_of_lt hw]
  have hkc : (Int32.ofNat k).toNatClampNeg = k := cl1 _ _ (ofn_i k (by omega))
  -- out of the rows
  have two : ∀ (n : Nat) (l3 l5 : Int32) (fv : Nat → Int64) (fk : Nat → Int32) (b1 b2 b3 : Int32) (fn fl : Nat → Int32), CaI D M N stp fv fk → (∀ u : Nat, u < 4 → (fv (4096 * u + k)).toBitVec.toNat = VwN (Int32.ofNat u) (FnR D M N 0 k)) → Par (L_X8_look K n 2 (Int32.ofNat x) (Int32.ofNat w) l3 (Int32.ofNat k) l5 LL sv stp fv fk b1 b2 b3 fn fl sz (mkI ub) pg pk) (fun r => r.1.toBitVec.toNat = VwN (Int32.ofNat w) (FnR D M N 0 k) ∧ CaI D M N stp r.2.1 r.2.2.1) := by
    intro n l3 l5 fv fk b1 b2 b3 fn fl h1 h2
    cases n with
    | zero => exact Par.no
    | succ n =>
      rw [L_X8_look_e2]; unfold B_X8_look_2
      refine Par.br (fun _ => Par.ret ⟨?_, h1⟩) (fun _ => Par.no)
      show (fv (((Int32.ofNat w &&& 3) <<< (12 &&& 31)) ||| Int32.ofNat k).toNatClampNeg).toBitVec.toNat = _
      rw [hw3, i12 w k hw m2]
      exact h2 w hw
  -- the views of a run are kept
  have one : ∀ (n u : Nat) (l3 l5 : Int32) (fv : Nat → Int64) (fk : Nat → Int32) (b1 b2 b3 : Int32) (fn fl : Nat → Int32), l5.toInt = (u : Int) → u ≤ 4 → RlC (FnR D M N 0 k) b1 b2 b3 fn fl → (∀ j : Nat, j < 4096 → (fk j).toInt ≤ stp.toInt) → (∀ j : Nat, j < 4096 → j ≠ k → fk j = stp → ∀ v : Nat, v < 4 → (fv (4096 * v + j)).toBitVec.toNat = VwN (Int32.ofNat v) (FnR D M N 0 j)) → (∀ v : Nat, v < u → (fv (4096 * v + k)).toBitVec.toNat = VwN (Int32.ofNat v) (FnR D M N 0 k)) → Par (L_X8_look K n 1 (Int32.ofNat x) (Int32.ofNat w) l3 (Int32.ofNat k) l5 LL sv stp fv fk b1 b2 b3 fn fl sz (mkI ub) pg pk) (fun r => r.1.toBitVec.toNat = VwN (Int32.ofNat w) (FnR D M N 0 k) ∧ CaI D M N stp r.2.1 r.2.2.1) := by
    intro n
    induction n using Nat.strongRecOn with
    | _ n ih =>
    intro u l3 l5 fv fk b1 b2 b3 fn fl h5 hu hR hbd h1 h2
    cases n with
    | zero => exact Par.no
    | succ n =>
      rw [L_X8_look_e1]; unfold B_X8_look_1
      refine Par.br (fun h => ?_) (fun h => ?_)
      · rw [Int32.le_iff_toInt_le, h5] at h
        simp only [Int32.reduceToInt] at h
        have hu4 : u = 4 := by omega
        subst hu4
        refine Par.br (fun _ => ?_) (fun _ => Par.no)
        rw [hkc]
        refine two n _ _ _ _ _ _ _ _ _ ⟨fun j hj => ?_, fun j hj he v hv => ?_⟩ h2
        · by_cases hjk : j = k
          · rw [hjk, upd_eq]; exact Int.le_refl _
          · rw [upd_ne _ _ hjk]; exact hbd j hj
        · by_cases hjk : j = k
          · rw [hjk]; exact h2 v hv
          · rw [upd_ne _ _ hjk] at he
            exact h1 j hj hjk he v hv
      · rw [Int32.le_iff_toInt_le, h5] at h
        simp only [Int32.reduceToInt] at h
        have e5 : l5 = Int32.ofNat u := ofn_of l5 u (by omega) h5
        have hok := FnR_ok (M := M) (N := N) (wo := 0) (x := k) hV
        refine Par.bd (E_X8_viewOf K hK l5 b1 b2 b3 fn fl (FnR D M N 0 k) hok.1 hok.2 hR) (fun o ho => ?_)
        refine Par.br (fun _ => ?_) (fun _ => Par.no)
        rw [e5, i12 u k (by omega) m2, ← e5]
        refine ih n (by omega) (u + 1) _ _ _ _ _ _ _ _ _ (ad1 l5 u h5 (by omega)) (by omega) hR hbd (fun j hj hjk he v hv => ?_) (fun v hv => ?_)
        · rw [updL_ne _ _ (by omega)]
          exact h1 j hj hjk he v hv
        · by_cases hvu : v = u
          · rw [hvu, updL_eq, ← e5]; exact ho
          · rw [updL_ne _ _ (by omega)]
            exact h2 v (by omega)
  unfold F_X8_look
  obtain ⟨n, hn⟩ : ∃ n9, K = n9 + 1 := ⟨K - 1, by omega⟩
  generalize hz : L_X8_look K K 0 (Int32.ofNat x) (Int32.ofNat w) wo 0 0 LL sv stp fv fk b1 b2 b3 fn fl sz (mkI ub) pg pk = z
  have hz2 : z = L_X8_look K (n + 1) 0 (Int32.ofNat x) (Int32.ofNat w) wo 0 0 LL sv stp fv fk b1 b2 b3 fn fl sz (mkI ub) pg pk := by rw [← hn, hz]
  rw [hz2, L_X8_look_e0]; unfold B_X8_look_0
  rw [m1]
  have hexe : ∀ wo : Int32, Par (F_X2_execute K (Int32.ofNat k) wo LL sv b1 b2 b3 fn fl sz pg pk) (fun r => RlT (FnR D M N wo k) r) := fun wo => E_X2_execute K hK (Int32.ofNat k) wo LL sv b1 b2 b3 fn fl sz pg pk D M N dp hs hD hC hN hV (gN k) (gN_v3 k) (PkW_N k m2)
  refine Par.br (fun h0 => ?_) (fun h0 => ?_)
  · subst h0
    refine Par.br (fun _ => ?_) (fun _ => Par.no)
    rw [hkc]
    refine Par.br (fun he => ?_) (fun he => ?_)
    · exact two n _ _ _ _ _ _ _ _ _ hca (fun u hu => hca.2 k m2 he u hu)
    · refine Par.bd (hexe 0) (fun r hr => ?_)
      exact one n 0 _ _ _ _ _ _ _ _ _ rfl (Nat.zero_le _) hr hca.1 (fun j hj _ he9 v hv => hca.2 j hj he9 v hv) (fun v hv => absurd hv (Nat.not_lt_zero _))
  · refine Par.bd (hexe wo) (fun r hr => ?_)
    have hok := FnR_ok (M := M) (N := N) (wo := wo) (x := k) hV
    refine Par.bd (E_X8_viewOf K hK (Int32.ofNat w) _ _ _ _ _ (FnR D M N wo k) hok.1 hok.2 hr) (fun o ho => Par.ret ⟨ho, hca⟩)
theorem E_X8_aim (K : Nat) (hK : 1000000000 ≤ K) (w : Nat) (hw : w < 4) (bs : List Bool) (hb : bs.length = 6) (t : Int32) (a1 : Int32) (a2 : Int64) (a3 a4 : Int32) : Par (F_X8_aim K (Int32.ofNat w) (mkI bs) t a1 a2 a3 a4) (fun r => r.1 = Int32.ofNat w ∧ r.2.1.toBitVec.toNat = lnN bs t ∧ r.2.2.1 = mkI bs ∧ r.2.2.2 = mkI (ntB bs)) := by
  have hw3 : (Int32.ofNat w &&& 3) = Int32.ofNat w := by
    rw [n_and3 w (by omega), Nat.mod_eq_of_lt hw]
  have hle := E_X8_lens bs hb t
  have hl : ∀ y : Int64, Par (F_X8_lensOf K (mkI bs) y) (fun r => r = ((2199023255551 ||| ((mkI bs).toInt64 <<< ((41 : Int32).toInt64 &&& 63))) ||| y)) := by
    intro y
    unfold F_X8_lensOf
    obtain ⟨n, rfl⟩ : ∃ n9, K = n9 + 1 := ⟨K - 1, by omega⟩
    rw [L_X8_lensOf_e0]; unfold B_X8_lensOf_0
    exact Par.ret rfl
  unfold F_X8_aim
  obtain ⟨n, rfl⟩ : ∃ n9, K = n9 + 1 := ⟨K - 1, by omega⟩
  rw [L_X8_aim_e0]; unfold B_X8_aim_0
  refine Par.br (fun h => ?_) (fun h => ?_)
  · refine Par.bd (hl _) (fun o ho => Par.ret ⟨hw3, ?_, rfl, mkI_nt bs hb⟩)
    rw [if_pos h] at hle
    show o.toBitVec.toNat = _
    rw [ho]; exact hle
  · refine Par.bd (hl _) (fun o ho => Par.ret ⟨hw3, ?_, rfl, mkI_nt bs hb⟩)
    rw [if_neg h] at hle
    show o.toBitVec.toNat = _
    rw [ho]; exact hle
/-! which cells a program uses, as a row of signs -/
theorem rowB : ∀ c : Nat, c < 6 → ∃ bs : List Bool, bs.length = 6 ∧ ((3 : Int32) <<< ((2 * Int32.ofNat c) &&& 31)) = mkI bs ∧ bs[c]? = some true := by
  refine six_k _ ⟨[true, false, false, false, false, false], rfl, by decide, rfl⟩ ⟨[false, true, false, false, false, false], rfl, by decide, rfl⟩ ⟨[false, false, true, false, false, false], rfl, by decide, rfl⟩ ⟨[false, false, false, true, false, false], rfl, by decide, rfl⟩ ⟨[false, false, false, false, true, false], rfl, by decide, rfl⟩ ⟨[false, false, false, false, false, true], rfl, by decide, rfl⟩
theorem orB_at {a b : List Bool} (ha : a.length = 6) (hb : b.length = 6) (c : Nat) : (orB a b)[c]? = some true ↔ (a[c]? = some true ∨ b[c]? = some true) := by
  unfold orB
  rw [List.getElem?_zipWith]
  rcases Nat.lt_or_ge c 6 with h | h
  · obtain ⟨x, hx⟩ := bs_at ha h
    obtain ⟨y, hy⟩ := bs_at hb h
    rw [hx, hy]
    cases x <;> cases y <;> simp
  · rw [List.getElem?_eq_none (by omega), List.getElem?_eq_none (by omega)]
    simp
theorem anB_at {a b : List Bool} (ha : a.length = 6) (hb : b.length = 6) (c : Nat) : (anB a b)[c]? = some true ↔ (a[c]? = some true ∧ b[c]? = some true) := by
  unfold anB
  rw [List.getElem?_zipWith]
  rcases Nat.lt_or_ge c 6 with h | h
  · obtain ⟨x, hx⟩ := bs_at ha h
    obtain ⟨y, hy⟩ := bs_at hb h
    rw [hx, hy]
    cases x <;> cases y <;> simp
  · rw [List.getElem?_eq_none (by omega), List.getElem?_eq_none (by omega)]
    simp
theorem ntB_at {a : List Bool} (ha : a.length = 6) (c : Nat) (hc : c < 6) : (ntB a)[c]? = some true ↔ a[c]? ≠ some true := by
  unfold ntB
  rw [List.getElem?_map]
  obtain ⟨x, hx⟩ := bs_at ha hc
  rw [hx]
  cases x <;> simp
theorem CMk_b : ∀ (e : List Int32) (a : List Bool), a.length = 6 → GdE e → ∃ bs : List Bool, bs.length = 6 ∧ CMk e (mkI a) = mkI bs ∧ (∀ c : Nat, a[c]? = some true → bs[c]? = some true) ∧ ∀ x : Int32, x ∈ e → 4 ≤ x → ¬ 16 ≤ x → bs[(x - 10).toNatClampNeg]? = some true := by
  intro e
  induction e with
  | nil => intro a ha _; exact ⟨a, ha, rfl, fun _ h => h, fun x hx => by cases hx⟩
  | cons x e ih =>
    intro a ha hg
    have hge : GdE e := fun y hy => hg y (List.mem_cons_of_mem _ hy)
    have e1 : CMk (x :: e) (mkI a) = CMk e (if 10 ≤ x ∧ x ≤ 15 then mkI a ||| ((3 : Int32) <<< ((2 * (x - 10)) &&& 31)) else mkI a) := rfl
    by_cases h : 10 ≤ x ∧ x ≤ 15
    · have hx : 10 ≤ x.toInt ∧ x.toInt ≤ 15 := by
        have h9 := h
        rw [Int32.le_iff_toInt_le, Int32.le_iff_toInt_le] at h9
        simp only [Int32.reduceToInt] at h9
        exact h9
      have hm := (mask_x x hx).1
      have ex : x - 10 = Int32.ofNat (x - 10).toNatClampNeg := by
        rcases six_x x hx with rfl | rfl | rfl | rfl | rfl | rfl <;> decide
      obtain ⟨b, hb1, hb2, hb3⟩ := rowB _ hm
      rw [← ex] at hb2
      rw [e1, if_pos h, hb2, mkI_or a ha b hb1]
      obtain ⟨bs, k1, k2, k3, k4⟩ := ih (orB a b) (orB_len ha hb1) hge
      refine ⟨bs, k1, k2, fun c hc => k3 c ((orB_at ha hb1 c).mpr (Or.inl hc)), fun y hy h4 h16 => ?_⟩
      rcases List.mem_cons.mp hy with e9 | e9
      · rw [e9]; exact k3 _ ((orB_at ha hb1 _).mpr (Or.inr hb3))
      · exact k4 y e9 h4 h16
    · rw [e1, if_neg h]
      obtain ⟨bs, k1, k2, k3, k4⟩ := ih a ha hge
      refine ⟨bs, k1, k2, k3, fun y hy h4 h16 => ?_⟩
      rcases List.mem_cons.mp hy with e9 | e9
      · exfalso
        rw [e9, Int32.le_iff_toInt_le] at h4 h16
        simp only [Int32.reduceToInt] at h4 h16
        rcases hg x List.mem_cons_self with h9 | h9 | h9
        · omega
        · refine h ?_
          rw [Int32.le_iff_toInt_le, Int32.le_iff_toInt_le]
          simp only [Int32.reduceToInt]
          exact h9
        · have : 16 ≤ x.toInt := by
            rcases h9 with h9 | h9 | h9 | h9 | h9 | h9 | h9 <;> (rw [h9]; decide)
          omega
      · exact k4 y e9 h4 h16
theorem usX_b : ∀ (X : List SRc), (∀ r : SRc, r ∈ X → GdE r.2.2.1 ∧ (r.1 = 0 → r.2.1.toNatClampNeg < 6 ∧ r.2.1 = Int32.ofNat r.2.1.toNatClampNeg)) → ∃ bs : List Bool, bs.length = 6 ∧ usX X = mkI bs ∧ ∀ r : SRc, r ∈ X → (∀ x : Int32, x ∈ r.2.2.1 → 4 ≤ x → ¬ 16 ≤ x → bs[(x - 10).toNatClampNeg]? = some true) ∧ (r.1 = 0 → bs[r.2.1.toNatClampNeg]? = some true) := by
  intro X
  induction X with
  | nil => intro _; exact ⟨[false, false, false, false, false, false], rfl, by decide, fun r h => by cases h⟩
  | cons r X ih =>
    intro h
    obtain ⟨bs, k1, k2, k3⟩ := ih (fun q hq => h q (List.mem_cons_of_mem _ hq))
    obtain ⟨g1, g2⟩ := h r List.mem_cons_self
    have hz : (0 : Int32) = mkI [false, false, false, false, false, false] := by decide
    obtain ⟨a, a1, a2, _, a4⟩ := CMk_b r.2.2.1 [false, false, false, false, false, false] rfl g1
    rw [← hz] at a2
    have e : usX (r :: X) = rowU r ||| usX X := rfl
    by_cases hk : r.1 = 0
    · obtain ⟨t1, t2⟩ := g2 hk
      obtain ⟨b, b1, b2, b3⟩ := rowB _ t1
      rw [← t2] at b2
      refine ⟨orB (orB b a) bs, orB_len (orB_len b1 a1) k1, ?_, fun q hq => ?_⟩
      · rw [e]
        unfold rowU
        rw [if_pos hk, a2, b2, k2, mkI_or b b1 a a1, mkI_or _ (orB_len b1 a1) bs k1]
      · rcases List.mem_cons.mp hq with e9 | e9
        · rw [e9]
          exact ⟨fun x hx h4 h16 => (orB_at (orB_len b1 a1) k1 _).mpr (Or.inl ((orB_at b1 a1 _).mpr (Or.inr (a4 x hx h4 h16)))), fun _ => (orB_at (orB_len b1 a1) k1 _).mpr (Or.inl ((orB_at b1 a1 _).mpr (Or.inl b3)))⟩
        · obtain ⟨c1, c2⟩ := k3 q e9
          exact ⟨fun x hx h4 h16 => (orB_at (orB_len b1 a1) k1 _).mpr (Or.inr (c1 x hx h4 h16)), fun h9 => (orB_at (orB_len b1 a1) k1 _).mpr (Or.inr (c2 h9))⟩
    · refine ⟨orB a bs, orB_len a1 k1, ?_, fun q hq => ?_⟩
      · rw [e]
        unfold rowU
        rw [if_neg hk, Int32.zero_or, a2, k2, mkI_or a a1 bs k1]
      · rcases List.mem_cons.mp hq with e9 | e9
        · rw [e9]
          exact ⟨fun x hx h4 h16 => (orB_at a1 k1 _).mpr (Or.inl (a4 x hx h4 h16)), fun h9 => absurd h9 hk⟩
        · obtain ⟨c1, c2⟩ := k3 q e9
          exact ⟨fun x hx h4 h16 => (orB_at a1 k1 _).mpr (Or.inr (c1 x hx h4 h16)), fun h9 => (orB_at a1 k1 _).mpr (Or.inr (c2 h9))⟩
