/-! raised: both find the least levels -/
def v3 (x : Int32) : Prop := 0 ≤ x.toInt ∧ x.toInt ≤ 3
theorem v3_0 : v3 0 := by unfold v3; decide
theorem v3_or {a b : Int32} (ha : v3 a) (hb : v3 b) : v3 (a ||| b) := by
  rcases four_i a ha with rfl | rfl | rfl | rfl <;> rcases four_i b hb with rfl | rfl | rfl | rfl <;> (unfold v3; decide)
def sb (a b : Int32) : Prop := a ||| b = b
theorem sb_rf (a : Int32) : sb a a := Int32.or_self
theorem sb_tr {a b c : Int32} (h1 : sb a b) (h2 : sb b c) : sb a c := by
  unfold sb at *
  rw [← h2, ← Int32.or_assoc, h1]
theorem or_4 (a b c d : Int32) : (a ||| c) ||| (b ||| d) = (a ||| b) ||| (c ||| d) := by
  rw [Int32.or_assoc, ← Int32.or_assoc c b d, Int32.or_comm c b, Int32.or_assoc b c d, ← Int32.or_assoc a b]
theorem sb_or {a b c d : Int32} (h1 : sb a b) (h2 : sb c d) : sb (a ||| c) (b ||| d) := by
  unfold sb at *
  rw [or_4, h1, h2]
theorem sb_inl (a b : Int32) : sb a (a ||| b) := by unfold sb; rw [← Int32.or_assoc, Int32.or_self]
theorem sb_inr (a b : Int32) : sb b (a ||| b) := by unfold sb; rw [Int32.or_comm a b, ← Int32.or_assoc, Int32.or_self]
theorem sb_or2 {a b c : Int32} (h1 : sb a c) (h2 : sb b c) : sb (a ||| b) c := by
  unfold sb at *
  rw [Int32.or_assoc, h2, h1]
theorem sb_0 (a : Int32) : sb 0 a := Int32.zero_or
theorem sb_an {a b : Int32} (h1 : sb a b) (h2 : sb b a) : a = b := by
  unfold sb at *
  rw [← h2, Int32.or_comm, h1]
theorem m1all : ∀ i : Fin 32, (-1 : Int32).toBitVec.getLsbD i.val = true := by decide +kernel
theorem wi_sb (a b : Int32) : wiP a b ↔ sb a b := by
  unfold wiP sb
  rw [← Int32.toBitVec_inj, ← Int32.toBitVec_inj]
  have e1 : (a &&& (b ^^^ (-1))).toBitVec = a.toBitVec &&& (b.toBitVec ^^^ (-1 : Int32).toBitVec) := rfl
  have e2 : (a ||| b).toBitVec = a.toBitVec ||| b.toBitVec := rfl
  have e3 : (0 : Int32).toBitVec = 0#32 := rfl
  rw [e1, e2, e3]
  constructor
  · intro h
    apply BitVec.eq_of_getLsbD_eq
    intro i hi
    have h2 := congrArg (fun z : BitVec 32 => z.getLsbD i) h
    try simp only at h2
    have hm := m1all ⟨i, hi⟩
    simp only at hm
    rw [BitVec.getLsbD_and, BitVec.getLsbD_xor, hm] at h2
    rw [BitVec.getLsbD_or]
    cases ha : a.toBitVec.getLsbD i <;> cases hb : b.toBitVec.getLsbD i <;> simp_all
  · intro h
    apply BitVec.eq_of_getLsbD_eq
    intro i hi
    have h2 := congrArg (fun z : BitVec 32 => z.getLsbD i) h
    try simp only at h2
    have hm := m1all ⟨i, hi⟩
    simp only at hm
    rw [BitVec.getLsbD_or] at h2
    rw [BitVec.getLsbD_and, BitVec.getLsbD_xor, hm]
    cases ha : a.toBitVec.getLsbD i <;> cases hb : b.toBitVec.getLsbD i <;> simp_all
/-! what flows, by greater levels -/
def sbG (g h : Nat → Int32) : Prop := ∀ c : Nat, c < 6 → sb (g c) (h c)
theorem sl1_sb {g h : Nat → Int32} (hg : sbG g h) (x : Int32) : sb (sl1 g x) (sl1 h x) := by
  unfold sl1
  by_cases hx : 10 ≤ x.toInt ∧ x.toInt ≤ 15
  · rw [if_pos hx, if_pos hx]; exact hg _ (mask_x x hx).1
  · rw [if_neg hx, if_neg hx]; exact sb_rf _
theorem slv_sb {g h : Nat → Int32} (hg : sbG g h) (e : List Int32) : sb (slv g e) (slv h e) := by
  have key : ∀ (e : List Int32) (a b : Int32), sb a b → sb (e.foldl (fun a x => a ||| sl1 g x) a) (e.foldl (fun a x => a ||| sl1 h x) b) := by
    intro e
    induction e with
    | nil => intro a b h; exact h
    | cons x e ih => intro a b h; rw [List.foldl_cons, List.foldl_cons]; exact ih _ _ (sb_or h (sl1_sb hg x))
  exact key e 0 0 (sb_rf 0)
theorem slv_v3 {g : Nat → Int32} (hg : lv3 g) (e : List Int32) : v3 (slv g e) := by
  have key : ∀ (e : List Int32) (a : Int32), v3 a → v3 (e.foldl (fun a x => a ||| sl1 g x) a) := by
    intro e
    induction e with
    | nil => intro a h; exact h
    | cons x e ih =>
      intro a h
      rw [List.foldl_cons]
      refine ih _ (v3_or h ?_)
      unfold sl1
      by_cases hx : 10 ≤ x.toInt ∧ x.toInt ≤ 15
      · rw [if_pos hx]; exact hg _ (mask_x x hx).1
      · rw [if_neg hx]; exact v3_0
  exact key e 0 v3_0
theorem hld_sb {g h : Nat → Int32} (hg : sbG g h) (D : List SRc) (N : Nat → Nat) (i : Nat) : ∀ k : Nat, sb (hld g D N i k) (hld h D N i k) := by
  intro k
  induction k with
  | zero => exact sb_rf _
  | succ k ih =>
    rw [hld_s, hld_s]
    refine sb_or ih ?_
    by_cases hc : kf D k = 2 ∧ i < N k
    · rw [if_pos hc, if_pos hc]; exact slv_sb hg _
    · rw [if_neg hc, if_neg hc]; exact sb_rf _
theorem hld_v3 {g : Nat → Int32} (hg : lv3 g) (D : List SRc) (N : Nat → Nat) (i : Nat) : ∀ k : Nat, v3 (hld g D N i k) := by
  intro k
  induction k with
  | zero => exact v3_0
  | succ k ih =>
    rw [hld_s]
    refine v3_or ih ?_
    by_cases hc : kf D k = 2 ∧ i < N k
    · rw [if_pos hc]; exact slv_v3 hg _
    · rw [if_neg hc]; exact v3_0
def ned (g : Nat → Int32) (D : List SRc) (N : Nat → Nat) (i : Nat) : Int32 := slv g (cod D i) ||| hld g D N i i
theorem ned_sb {g h : Nat → Int32} (hg : sbG g h) (D : List SRc) (N : Nat → Nat) (i : Nat) : sb (ned g D N i) (ned h D N i) := sb_or (slv_sb hg _) (hld_sb hg D N i i)
theorem ned_v3 {g : Nat → Int32} (hg : lv3 g) (D : List SRc) (N : Nat → Nat) (i : Nat) : v3 (ned g D N i) := v3_or (slv_v3 hg _) (hld_v3 hg D N i i)
def tcC (D : List SRc) (i : Nat) : Nat := (nf D i).toNatClampNeg
/-- no assignment leaks -/
def clG (h : Nat → Int32) (D : List SRc) (N : Nat → Nat) : Prop := ∀ i : Nat, i < D.length → kf D i = 0 → sb (ned h D N i) (h (tcC D i))
/-- between the levels told and every levels above them by which nothing leaks -/
def btG (l g : Nat → Int32) (D : List SRc) (N : Nat → Nat) : Prop := lv3 g ∧ sbG l g ∧ ∀ h : Nat → Int32, clG h D N → sbG l h → sbG g h
theorem btG_up {l g : Nat → Int32} {D : List SRc} {N : Nat → Nat} {i : Nat} {x : Int32} (h : btG l g D N) (hi : i < D.length) (hk : kf D i = 0) (hx : v3 x) (hn : ∀ h9 : Nat → Int32, clG h9 D N → sbG l h9 → sb x (ned h9 D N i)) : btG l (upd g (tcC D i) (g (tcC D i) ||| x)) D N := by
  obtain ⟨h1, h2, h3⟩ := h
  refine ⟨fun c hc => ?_, fun c hc => ?_, fun h9 hc9 hs9 c hc => ?_⟩
  · by_cases e : c = tcC D i
    · rw [e, upd_eq]; rw [e] at hc; exact v3_or (h1 _ hc) hx
    · rw [upd_ne _ _ e]; exact h1 c hc
  · by_cases e : c = tcC D i
    · rw [e, upd_eq]; rw [e] at hc; exact sb_tr (h2 _ hc) (sb_inl _ _)
    · rw [upd_ne _ _ e]; exact h2 c hc
  · by_cases e : c = tcC D i
    · rw [e, upd_eq]
      rw [e] at hc
      exact sb_or2 (h3 h9 hc9 hs9 _ hc) (sb_tr (hn h9 hc9 hs9) (hc9 i hi hk))
    · rw [upd_ne _ _ e]; exact h3 h9 hc9 hs9 c hc
theorem btG_u {l g h : Nat → Int32} {D : List SRc} {N : Nat → Nat} (h1 : btG l g D N) (c1 : clG g D N) (h2 : btG l h D N) (c2 : clG h D N) (c : Nat) (hc : c < 6) : g c = h c :=
  sb_an (h1.2.2 h c2 h2.2.1 c hc) (h2.2.2 g c1 h1.2.1 c hc)
/-! bits that are raised -/
def pcB (x : Int32) : Nat := if x = 3 then 2 else if x = 0 then 0 else 1
def rkG (g : Nat → Int32) : Nat := pcB (g 0) + pcB (g 1) + pcB (g 2) + pcB (g 3) + pcB (g 4) + pcB (g 5)
theorem pcB_le (x : Int32) : pcB x ≤ 2 := by unfold pcB; split <;> (try split) <;> omega
theorem rkG_le (g : Nat → Int32) : rkG g ≤ 12 := by
  have h0 := pcB_le (g 0)
  have h1 := pcB_le (g 1)
  have h2 := pcB_le (g 2)
  have h3 := pcB_le (g 3)
  have h4 := pcB_le (g 4)
  have h5 := pcB_le (g 5)
  unfold rkG; omega
theorem pcB_up {a x : Int32} (ha : v3 a) (hx : v3 x) (h : ¬ sb x a) : pcB a + 1 ≤ pcB (a ||| x) := by
  unfold sb at h
  rcases four_i a ha with rfl | rfl | rfl | rfl <;> rcases four_i x hx with rfl | rfl | rfl | rfl <;> first | decide | exact absurd (by decide) h
theorem rkG_up {g : Nat → Int32} (hg : lv3 g) {d : Nat} (hd : d < 6) {x : Int32} (hx : v3 x) (h : ¬ sb x (g d)) : rkG g + 1 ≤ rkG (upd g d (g d ||| x)) := by
  have hp := pcB_up (hg d hd) hx h
  unfold rkG
  rcases (show d = 0 ∨ d = 1 ∨ d = 2 ∨ d = 3 ∨ d = 4 ∨ d = 5 by omega) with rfl | rfl | rfl | rfl | rfl | rfl
  · rw [upd_eq, upd_ne _ _ (by decide), upd_ne _ _ (by decide), upd_ne _ _ (by decide), upd_ne _ _ (by decide), upd_ne _ _ (by decide)]; omega
  · rw [upd_ne _ (j := 0) _ (by decide), upd_eq, upd_ne _ (j := 2) _ (by decide), upd_ne _ (j := 3) _ (by decide), upd_ne _ (j := 4) _ (by decide), upd_ne _ (j := 5) _ (by decide)]; omega
  · rw [upd_ne _ (j := 0) _ (by decide), upd_ne _ (j := 1) _ (by decide), upd_eq, upd_ne _ (j := 3) _ (by decide), upd_ne _ (j := 4) _ (by decide), upd_ne _ (j := 5) _ (by decide)]; omega
  · rw [upd_ne _ (j := 0) _ (by decide), upd_ne _ (j := 1) _ (by decide), upd_ne _ (j := 2) _ (by decide), upd_eq, upd_ne _ (j := 4) _ (by decide), upd_ne _ (j := 5) _ (by decide)]; omega
  · rw [upd_ne _ (j := 0) _ (by decide), upd_ne _ (j := 1) _ (by decide), upd_ne _ (j := 2) _ (by decide), upd_ne _ (j := 3) _ (by decide), upd_eq, upd_ne _ (j := 5) _ (by decide)]; omega
  · rw [upd_ne _ (j := 0) _ (by decide), upd_ne _ (j := 1) _ (by decide), upd_ne _ (j := 2) _ (by decide), upd_ne _ (j := 3) _ (by decide), upd_ne _ (j := 4) _ (by decide), upd_eq]; omega
/-! the class -/
def RlP (l g0 : Nat → Int32) (D : List SRc) (N : Nat → Nat) (i : Nat) (r : Int32) (g : Nat → Int32) : Prop :=
  btG l g D N ∧ ((r = 0 ∧ g = g0 ∧ ∀ k : Nat, k < i → kf D k = 0 → sb (ned g0 D N k) (g0 (tcC D k))) ∨ (r = 1 ∧ rkG g0 + 1 ≤ rkG g))
theorem E_X0_raiseLeaking (K : Nat) (hK : 1000000000 ≤ K) (LL : List Nat) (sv : Nat → Nat → Int32) (flfh flfs l g0 : Nat → Int32) (sz : Int32) (pg : Nat → Option Nat) (D : List SRc) (N : Nat → Nat) (hs : sz.toInt = (D.length : Int)) (hD : D.length ≤ 30) (hC : CFl pg sv D) (hM : MsP g0 D N D.length flfh flfs) (hb : btG l g0 D N) : Par (F_X0_raiseLeaking K LL sv flfh flfs g0 sz pg) (fun r => RlP l g0 D N D.length r.1 r.2) := by
  have key : ∀ (n i : Nat) (l2 l3 : Int32) (a4 : Nat) (g : Nat → Int32), l3.toInt = (i : Int) → i ≤ D.length → RlP l g0 D N i l2 g → Par (L_X0_raiseLeaking K n 1 l2 l3 a4 LL sv flfh flfs g sz pg) (fun r => RlP l g0 D N D.length r.1 r.2) := by
    intro n
    induction n using Nat.strongRecOn with
    | _ n ih =>
    intro i l2 l3 a4 g h3 hi hR
    cases n with
    | zero => exact Par.no
    | succ n =>
      rw [L_X0_raiseLeaking_e1]; unfold B_X0_raiseLeaking_1
      refine Par.br (fun h => ?_) (fun h => ?_)
      · rw [Int32.le_iff_toInt_le, hs, h3] at h
        have : i = D.length := by omega
        rw [this] at hR
        exact Par.br (fun _ => Par.ret hR) (fun _ => Par.no)
      · rw [Int32.le_iff_toInt_le, hs, h3] at h
        have hil : i < D.length := by omega
        obtain ⟨r, a, b1, b2, b3, b4, b5, b6⟩ := hC i hil
        obtain ⟨d1, d2⟩ := hM i hil
        have hk := kf_at b1
        have hn := nf_at b1
        obtain ⟨hB, hR⟩ := hR
        have fin : ∀ (q : Nat) (a4 : Nat) (x : Int32) (g : Nat → Int32), q < n + 1 → RlP l g0 D N (i + 1) x g → Par (L_X0_raiseLeaking K q 2 x l3 a4 LL sv flfh flfs g sz pg) (fun r => RlP l g0 D N D.length r.1 r.2) := by
          intro q a4 x g hq hx
          cases q with
          | zero => exact Par.no
          | succ q =>
            rw [L_X0_raiseLeaking_e2]; unfold B_X0_raiseLeaking_2
            exact Par.br (fun _ => ih q (by omega) (i + 1) x (l3 + 1) 0 g (ad1 l3 i h3 (by omega)) (by omega) hx) (fun _ => Par.no)
        refine Par.br (fun _ => ?_) (fun _ => Par.no)
        rw [cl1 l3 i h3]
        refine Par.bd (P := fun z => z = a) (fun z hz => by rw [b2] at hz; exact (Option.some.inj hz).symm) (fun z hz => ?_)
        subst hz
        refine Par.br (fun _ => ?_) (fun _ => Par.no)
        rw [b3, b4, d1, d2]
        refine Par.br (fun hk0 => ?_) (fun hk0 => ?_)
        · have htc : r.2.1.toNatClampNeg = tcC D i := by unfold tcC; rw [hn]
          rw [htc]
          have hlk : lkP g0 g D N i ↔ ¬ sb (ned g0 D N i) (g (tcC D i)) := by
            rw [← wi_sb]
            unfold lkP tcC ned
            rw [hk, hk0]
            exact ⟨fun h => h.elim (fun h => h.2) (fun h => absurd h.1 (by decide)), fun h => Or.inl ⟨rfl, h⟩⟩
          refine Par.bd (E_X0_leaksL K hK l3 LL sv flfh flfs g g0 pg D N i h3 hil hC hM) (fun o ho => ?_)
          rcases ho with ⟨o1, o2⟩ | ⟨o1, o2⟩
          · refine Par.not (by rw [o1]; decide) ?_
            refine Par.br (fun hok => ?_) (fun _ => Par.no)
            refine Par.br (fun _ => ?_) (fun _ => Par.no)
            refine Par.br (fun _ => ?_) (fun _ => Par.no)
            refine Par.br (fun _ => fin n _ _ _ (by omega) ?_) (fun _ => Par.no)
            have hd6 : tcC D i < 6 := by
              have := (okIx_iff _ _).mp hok
              have h2 := clampI this.1
              rw [← htc]; omega
            have e : hld g0 D N i i ||| slv g0 (cod D i) = ned g0 D N i := by unfold ned; rw [Int32.or_comm]
            rw [e]
            have hnv := ned_v3 hb.1 D N i
            refine ⟨btG_up hB hil (by rw [hk]; exact hk0) hnv (fun h9 hc9 hs9 => ned_sb (hb.2.2 h9 hc9 hs9) D N i), Or.inr ⟨rfl, ?_⟩⟩
            have hup := rkG_up hB.1 hd6 hnv (hlk.mp o2)
            rcases hR with ⟨_, e2, _⟩ | ⟨_, e2⟩
            · rw [e2] at hup; rw [e2]; exact hup
            · omega
          · refine Par.yes o1 (fin n _ _ _ (by omega) ⟨hB, ?_⟩)
            rcases hR with ⟨e1, e2, e3⟩ | h9
            · refine Or.inl ⟨e1, e2, fun k hk9 hk8 => ?_⟩
              by_cases hki : k = i
              · rw [hki]
                have := Classical.not_not.mp (fun h => o2 (hlk.mpr h))
                rw [e2] at this; exact this
              · exact e3 k (by omega) hk8
            · exact Or.inr h9
        · refine fin n _ _ _ (by omega) ⟨hB, ?_⟩
          rcases hR with ⟨e1, e2, e3⟩ | h9
          · refine Or.inl ⟨e1, e2, fun k hk9 hk8 => ?_⟩
            by_cases hki : k = i
            · rw [hki, hk] at hk8; exact absurd hk8 hk0
            · exact e3 k (by omega) hk8
          · exact Or.inr h9
  unfold F_X0_raiseLeaking
  obtain ⟨n, rfl⟩ : ∃ n9, K = n9 + 1 := ⟨K - 1, by omega⟩
  rw [L_X0_raiseLeaking_e0]; unfold B_X0_raiseLeaking_0
  exact key n 0 0 0 0 _ rfl (Nat.zero_le _) ⟨hb, Or.inl ⟨rfl, rfl, fun k hk => absurd hk (Nat.not_lt_zero _)⟩⟩
theorem E_X0_raise (K : Nat) (hK : 1000000000 ≤ K) (l3 : Int32) (LL : List Nat) (sv : Nat → Nat → Int32) (flfh flfs flfl l : Nat → Int32) (sz : Int32) (pg : Nat → Option Nat) (D : List SRc) (M N dp : Nat → Nat) (hs : sz.toInt = (D.length : Int)) (hD : D.length ≤ 30) (hC : CFl pg sv D) (hN : NsT D M N dp) (hl3 : lv3 l) : Par (F_X0_raise K l3 LL sv flfh flfs flfl sz pg l) (fun r => 0 ≤ l3.toInt ∧ l3.toInt < 6 ∧ ∃ g : Nat → Int32, btG l g D N ∧ clG g D N ∧ r.1 = g l3.toNatClampNeg) := by
  have end_ : ∀ (n : Nat) (l4 l5 : Int32) (fh fs g : Nat → Int32), btG l g D N → clG g D N → Par (L_X0_raise K n 3 l3 l4 l5 LL sv fh fs g sz pg l) (fun r => 0 ≤ l3.toInt ∧ l3.toInt < 6 ∧ ∃ g : Nat → Int32, btG l g D N ∧ clG g D N ∧ r.1 = g l3.toNatClampNeg) := by
    intro n l4 l5 fh fs g hb hc
    cases n with
    | zero => exact Par.no
    | succ n =>
      rw [L_X0_raise_e3]; unfold B_X0_raise_3
      refine Par.br (fun hok => ?_) (fun _ => Par.no)
      have := (okIx_iff _ _).mp hok
      exact Par.ret ⟨this.1, this.2, g, hb, hc, rfl⟩
  have two : ∀ (n k : Nat) (l4 l5 : Int32) (fh fs g : Nat → Int32), l5.toInt = (k : Int) → k ≤ 13 → btG l g D N → ((l4 = 0 ∧ clG g D N) ∨ (l4 = 1 ∧ k ≤ rkG g)) → Par (L_X0_raise K n 2 l3 l4 l5 LL sv fh fs g sz pg l) (fun r => 0 ≤ l3.toInt ∧ l3.toInt < 6 ∧ ∃ g : Nat → Int32, btG l g D N ∧ clG g D N ∧ r.1 = g l3.toNatClampNeg) := by
    intro n
    induction n using Nat.strongRecOn with
    | _ n ih =>
    intro k l4 l5 fh fs g h5 hk hb hc
    cases n with
    | zero => exact Par.no
    | succ n =>
      rw [L_X0_raise_e2]; unfold B_X0_raise_2
      refine Par.br (fun h => ?_) (fun h => ?_)
      · rw [Int32.le_iff_toInt_le, h5] at h
        simp only [Int32.reduceToInt] at h
        rcases hc with ⟨_, c⟩ | ⟨_, c⟩
        · exact end_ n _ _ _ _ _ hb c
        · have := rkG_le g
          omega
      · rw [Int32.le_iff_toInt_le, h5] at h
        simp only [Int32.reduceToInt] at h
        rcases hc with ⟨e, c⟩ | ⟨e, c⟩
        · exact Par.yes e (end_ n _ _ _ _ _ hb c)
        · refine Par.not (by rw [e]; decide) ?_
          refine Par.bd (E_X0_measureL K hK LL sv fh fs g sz pg D M N dp hs hD hC hN) (fun q hq => ?_)
          refine Par.bd (E_X0_raiseLeaking K hK LL sv _ _ l g sz pg D N hs hD hC hq hb) (fun p hp => ?_)
          obtain ⟨p1, p2⟩ := hp
          refine ih n (by omega) (k + 1) _ _ _ _ _ (ad1 l5 k h5 (by omega)) (by omega) p1 ?_
          rcases p2 with ⟨e1, e2, e3⟩ | ⟨e1, e2⟩
          · exact Or.inl ⟨e1, by rw [e2]; exact e3⟩
          · exact Or.inr ⟨e1, by omega⟩
  have one : ∀ (n c : Nat) (l4 l5 : Int32) (fh fs g : Nat → Int32), l4.toInt = (c : Int) → c ≤ 6 → (∀ k : Nat, k < c → g k = l k) → Par (L_X0_raise K n 1 l3 l4 l5 LL sv fh fs g sz pg l) (fun r => 0 ≤ l3.toInt ∧ l3.toInt < 6 ∧ ∃ g : Nat → Int32, btG l g D N ∧ clG g D N ∧ r.1 = g l3.toNatClampNeg) := by
    intro n
    induction n using Nat.strongRecOn with
    | _ n ih =>
    intro c l4 l5 fh fs g h4 hc hg
    cases n with
    | zero => exact Par.no
    | succ n =>
      rw [L_X0_raise_e1]; unfold B_X0_raise_1
      refine Par.br (fun h => ?_) (fun h => ?_)
      · rw [Int32.le_iff_toInt_le, h4] at h
        simp only [Int32.reduceToInt] at h
        refine two n 0 _ _ _ _ _ rfl (by omega) ⟨fun k hk => ?_, fun k hk => ?_, fun h9 _ hs9 k hk => ?_⟩ (Or.inr ⟨rfl, Nat.zero_le _⟩)
        · rw [hg k (by omega)]; exact hl3 k hk
        · rw [hg k (by omega)]; exact sb_rf _
        · rw [hg k (by omega)]; exact hs9 k hk
      · rw [Int32.le_iff_toInt_le, h4] at h
        simp only [Int32.reduceToInt] at h
        refine Par.br (fun _ => ?_) (fun _ => Par.no)
        refine Par.br (fun _ => ?_) (fun _ => Par.no)
        refine ih n (by omega) (c + 1) _ _ _ _ _ (ad1 l4 c h4 (by omega)) (by omega) (fun k hk => ?_)
        rw [cl1 l4 c h4]
        by_cases hkc : k = c
        · rw [hkc, upd_eq]
        · rw [upd_ne _ _ hkc]; exact hg k (by omega)
  unfold F_X0_raise
  obtain ⟨n, rfl⟩ : ∃ n9, K = n9 + 1 := ⟨K - 1, by omega⟩
  rw [L_X0_raise_e0]; unfold B_X0_raise_0
  exact one n 0 _ _ _ _ _ rfl (Nat.zero_le _) (fun k hk => absurd hk (Nat.not_lt_zero _))
def RaiP (l : Nat → Int32) (D : List SRc) (N : Nat → Nat) (l1 r : Int32) : Prop := (0 ≤ l1.toInt ∧ l1.toInt < 6 ∧ ∃ g : Nat → Int32, btG l g D N ∧ clG g D N ∧ r = g l1.toNatClampNeg) ∨ (¬ (0 ≤ l1.toInt ∧ l1.toInt ≤ 5) ∧ r = -1)
theorem RaiP_u {l : Nat → Int32} {D : List SRc} {N : Nat → Nat} {l1 r s : Int32} (h1 : RaiP l D N l1 r) (h2 : RaiP l D N l1 s) : r = s := by
  rcases h1 with ⟨a, b, g, c, d, e⟩ | ⟨a, b⟩
  · rcases h2 with ⟨a2, b2, g2, c2, d2, e2⟩ | ⟨a2, b2⟩
    · rw [e, e2]
      have := clampI a
      exact btG_u c d c2 d2 _ (by omega)
    · exact absurd ⟨a, by omega⟩ a2
  · rcases h2 with ⟨a2, b2, g2, c2, d2, e2⟩ | ⟨a2, b2⟩
    · exact absurd ⟨a2, by omega⟩ a
    · rw [b, b2]
theorem E_X9_raised (K : Nat) (hK : 1000000000 ≤ K) (l1 : Int32) (LL : List Nat) (sv : Nat → Nat → Int32) (l flfh flfs flfl : Nat → Int32) (sz : Int32) (pg : Nat → Option Nat) (D : List SRc) (M N dp : Nat → Nat) (hs : sz.toInt = (D.length : Int)) (hD : D.length ≤ 30) (hC : CFl pg sv D) (hN : NsT D M N dp) (hl3 : lv3 l) : Par (F_X9_raised K l1 LL sv l flfh flfs flfl sz pg) (fun r => RaiP l D N l1 r.1) := by
  unfold F_X9_raised
  obtain ⟨n, rfl⟩ : ∃ n9, K = n9 + 1 := ⟨K - 1, by omega⟩
  rw [L_X9_raised_e0]; unfold B_X9_raised_0
  refine Par.bd (T_X9_isCell _ hK l1 True.intro).pr (fun o ho => ?_)
  rcases ho with ⟨o1, o2⟩ | ⟨o1, o2⟩
  · refine Par.not (by rw [o1]; decide) ?_
    exact Par.bd (E_X0_raise _ hK l1 LL sv flfh flfs flfl l sz pg D M N dp hs hD hC hN hl3) (fun q hq => Par.ret (Or.inl hq))
  · exact Par.yes o1 (Par.ret (Or.inr ⟨by omega, rfl⟩))
theorem or_eq01 {a b : Int32} (ha : a = 0 ∨ a = 1) (hb : b = 0 ∨ b = 1) : (a ||| b = 0 ∧ a = 0 ∧ b = 0) ∨ (a ||| b = 1 ∧ (a = 1 ∨ b = 1)) := by
  rcases ha with rfl | rfl <;> rcases hb with rfl | rfl
  · exact Or.inl ⟨by decide, rfl, rfl⟩
  · exact Or.inr ⟨by decide, Or.inr rfl⟩
  · exact Or.inr ⟨by decide, Or.inl rfl⟩
  · exact Or.inr ⟨by decide, Or.inl rfl⟩
def RmP (l g0 : Nat → Int32) (D : List SRc) (N : Nat → Nat) (i : Nat) (r : Int32) (g : Nat → Int32) : Prop :=
  btG l g D N ∧ ((r = 0 ∧ g = g0 ∧ ∀ k : Nat, k < i → kf D k = 0 → sb (ned g0 D N k) (g0 (tcC D k))) ∨ r = 1)
theorem E_m_raised (K : Nat) (hK : 1000000000 ≤ K) (l1 ith imany : Int32) (l astm asm arsd : Nat → Int32) (D : List SRc) (M N dp : Nat → Nat) (hs : imany.toInt = (D.length : Int)) (hD : D.length ≤ 30) (hr : ∀ k : Nat, k < D.length → FRow astm asm D M N k) (hN : NsT D M N dp) (hl3 : lv3 l) : Par (F_m_raised K l1 ith imany l astm asm arsd) (fun r => RaiP l D N l1 r.1) := by
  have loop : ∀ (n : Nat), (∀ (l2 l3 l4 l5 s0 s1 t9 : Int32) (g : Nat → Int32), btG l g D N → ((l2 = 0 ∧ clG g D N) ∨ l2 = 1) → Par (L_m_raised K n 2 l1 l2 l3 l4 l5 s0 s1 t9 imany l astm asm g) (fun r => RaiP l D N l1 r.1)) ∧ (∀ (i : Nat) (l2 l3 l4 l5 s0 s1 t9 : Int32) (g0 g : Nat → Int32), l3.toInt = (i : Int) → i ≤ D.length → RmP l g0 D N i l2 g → Par (L_m_raised K n 3 l1 l2 l3 l4 l5 s0 s1 t9 imany l astm asm g) (fun r => RaiP l D N l1 r.1)) := by
    intro n
    induction n using Nat.strongRecOn with
    | _ n ih =>
    refine ⟨?_, ?_⟩
    · intro l2 l3 l4 l5 s0 s1 t9 g hb hc
      cases n with
      | zero => exact Par.no
      | succ n =>
        rw [L_m_raised_e2]; unfold B_m_raised_2
        refine Par.br (fun h => ?_) (fun h => ?_)
        · refine Par.br (fun hok => ?_) (fun _ => Par.no)
          have := (okIx_iff _ _).mp hok
          refine Par.ret (Or.inl ⟨this.1, this.2, g, hb, ?_, rfl⟩)
          rcases hc with ⟨_, c⟩ | c
          · exact c
          · rw [h] at c; exact absurd c (by decide)
        · exact (ih n (by omega)).2 0 0 0 _ _ _ _ _ g g rfl (Nat.zero_le _) ⟨hb, Or.inl ⟨rfl, rfl, fun k hk => absurd hk (Nat.not_lt_zero _)⟩⟩
    · intro i l2 l3 l4 l5 s0 s1 t9 g0 g h3 hi hR
      cases n with
      | zero => exact Par.no
      | succ n =>
        rw [L_m_raised_e3]; unfold B_m_raised_3
        obtain ⟨hB, hR⟩ := hR
        refine Par.br (fun h => ?_) (fun h => ?_)
        · rw [Int32.le_iff_toInt_le, hs, h3] at h
          have : i = D.length := by omega
          refine (ih n (by omega)).1 _ _ _ _ _ _ _ g hB ?_
          rcases hR with ⟨e1, e2, e3⟩ | e
          · exact Or.inl ⟨e1, by rw [e2]; intro k hk; exact e3 k (by omega)⟩
          · exact Or.inr e
        · rw [Int32.le_iff_toInt_le, hs, h3] at h
          have hil : i < D.length := by omega
          have hrow := hr i hil
          obtain ⟨r, cf, a1, a2, a3, _⟩ := id hrow
          have hk := kf_at a1
          have hn := nf_at a1
          have h8 : (8 * l3).toInt = ((8 * i : Nat) : Int) := by
            rw [Int32.toInt_mul, h3]
            simp only [Int32.reduceToInt]
            rw [bmI (by omega) (by omega)]; omega
          have e1 : (8 * l3 + 1).toNatClampNeg = 8 * i + 1 := adN _ 1 _ 1 h8 (by decide) (by omega)
          have fin : ∀ (q : Nat) (x b1 b2 b3 b4 t9 : Int32) (g : Nat → Int32), q < n + 1 → RmP l g0 D N (i + 1) x g → Par (L_m_raised K q 5 l1 x l3 b1 b2 b3 b4 t9 imany l astm asm g) (fun r => RaiP l D N l1 r.1) := by
            intro q x b1 b2 b3 b4 t9 g hq hx
            cases q with
            | zero => exact Par.no
            | succ q =>
              rw [L_m_raised_e5]; unfold B_m_raised_5
              exact (ih q (by omega)).2 (i + 1) _ (l3 + 1) _ _ _ _ _ g0 g (ad1 l3 i h3 (by omega)) (by omega) hx
          refine Par.br (fun _ => ?_) (fun _ => Par.no)
          rw [cl1 _ _ h8, e1, a2, a3]
          refine Par.br (fun hk0 => ?_) (fun hk0 => ?_)
          · have htc : r.2.1.toNatClampNeg = tcC D i := by unfold tcC; rw [hn]
            rw [htc]
            have hk0' : kf D i = 0 := by rw [hk]; exact hk0
            refine Par.br (fun _ => ?_) (fun _ => Par.no)
            refine Par.br (fun _ => ?_) (fun _ => Par.no)
            refine Par.bd (E_m_sumLevel K hK l3 1 l astm asm g g D M N i h3 (by omega) hrow (by rw [hk0']; decide) (if_neg (by decide)).symm) (fun o ho => ?_)
            refine Par.bd (E_m_heldTo K hK l3 1 l astm asm g g D M N i h3 (by omega) (fun k hk => hr k (by omega)) (if_neg (by decide)).symm) (fun q hq => ?_)
            rw [ho, hq, Int32.or_assoc]
            have en : slv g (cod D i) ||| hld g D N i i = ned g D N i := rfl
            rw [en]
            refine Par.br (fun _ => ?_) (fun _ => Par.no)
            have hl2 : l2 = 0 ∨ l2 = 1 := hR.imp (fun h => h.1) id
            have hup := btG_up hB hil hk0' (ned_v3 hB.1 D N i) (fun h9 hc9 hs9 => ned_sb (hB.2.2 h9 hc9 hs9) D N i)
            have four : ∀ (m : Nat) (s0 : Int32), m < n + 1 → ((s0 = 0 ∧ g (tcC D i) ||| ned g D N i = g (tcC D i)) ∨ s0 = 1) → Par (L_m_raised K m 4 l1 l2 l3 r.2.1 (g (tcC D i) ||| ned g D N i) s0 l2 t9 imany l astm asm g) (fun r => RaiP l D N l1 r.1) := by
              intro m s0 hm hs0
              cases m with
              | zero => exact Par.no
              | succ m =>
                rw [L_m_raised_e4]; unfold B_m_raised_4
                refine Par.br (fun _ => fin m _ _ _ _ _ _ _ (by omega) ?_) (fun _ => Par.no)
                rw [htc]
                refine ⟨hup, ?_⟩
                rcases or_eq01 hl2 (hs0.imp (fun h => h.1) id) with ⟨x1, x2, x3⟩ | ⟨x1, _⟩
                · refine Or.inl ⟨x1, ?_, ?_⟩
                  · rcases hs0 with ⟨_, hs0⟩ | hs0
                    · rcases hR with ⟨_, y2, _⟩ | y1
                      · rw [hs0, ← y2]
                        funext z
                        by_cases hz : z = tcC D i
                        · rw [hz, upd_eq]
                        · rw [upd_ne _ _ hz]
                      · rw [x2] at y1; exact absurd y1 (by decide)
                    · rw [x3] at hs0; exact absurd hs0 (by decide)
                  · rcases hs0 with ⟨_, hs0⟩ | hs0
                    · rcases hR with ⟨_, y2, y3⟩ | y1
                      · intro k hk9 hk8
                        by_cases hki : k = i
                        · rw [hki, ← y2]; unfold sb; rw [Int32.or_comm]; exact hs0
                        · exact y3 k (by omega) hk8
                      · rw [x2] at y1; exact absurd y1 (by decide)
                    · rw [x3] at hs0; exact absurd hs0 (by decide)
                · exact Or.inr x1
            exact Par.br (fun h => four n 0 (by omega) (Or.inl ⟨rfl, h⟩)) (fun _ => four n 1 (by omega) (Or.inr rfl))
          · refine fin n _ _ _ _ _ _ _ (by omega) ⟨hB, ?_⟩
            rcases hR with ⟨y1, y2, y3⟩ | y1
            · refine Or.inl ⟨y1, y2, fun k hk9 hk8 => ?_⟩
              by_cases hki : k = i
              · rw [hki, hk] at hk8; exact absurd hk8 hk0
              · exact y3 k (by omega) hk8
            · exact Or.inr y1
  have one : ∀ (n c : Nat) (l2 l3 l4 l5 s0 s1 t9 : Int32) (g : Nat → Int32), l2.toInt = (c : Int) → c ≤ 6 → (∀ k : Nat, k < c → g k = l k) → Par (L_m_raised K n 1 l1 l2 l3 l4 l5 s0 s1 t9 imany l astm asm g) (fun r => RaiP l D N l1 r.1) := by
    intro n
    induction n using Nat.strongRecOn with
    | _ n ih =>
    intro c l2 l3 l4 l5 s0 s1 t9 g h4 hc hg
    cases n with
    | zero => exact Par.no
    | succ n =>
      rw [L_m_raised_e1]; unfold B_m_raised_1
      refine Par.br (fun h => ?_) (fun h => ?_)
      · rw [Int32.le_iff_toInt_le, h4] at h
        simp only [Int32.reduceToInt] at h
        refine (loop n).1 _ _ _ _ _ _ _ g ⟨fun k hk => ?_, fun k hk => ?_, fun h9 _ hs9 k hk => ?_⟩ (Or.inr rfl)
        · rw [hg k (by omega)]; exact hl3 k hk
        · rw [hg k (by omega)]; exact sb_rf _
        · rw [hg k (by omega)]; exact hs9 k hk
      · rw [Int32.le_iff_toInt_le, h4] at h
        simp only [Int32.reduceToInt] at h
        refine Par.br (fun _ => ?_) (fun _ => Par.no)
        refine Par.br (fun _ => ?_) (fun _ => Par.no)
        refine ih n (by omega) (c + 1) _ _ _ _ _ _ _ _ (ad1 l2 c h4 (by omega)) (by omega) (fun k hk => ?_)
        rw [cl1 l2 c h4]
        by_cases hkc : k = c
        · rw [hkc, upd_eq]
        · rw [upd_ne _ _ hkc]; exact hg k (by omega)
  unfold F_m_raised
  obtain ⟨n, rfl⟩ : ∃ n9, K = n9 + 1 := ⟨K - 1, by omega⟩
  rw [L_m_raised_e0]; unfold B_m_raised_0
  refine Par.bd (E_m_in _ hK l1 0 5) (fun o ho => ?_)
  simp only [Int32.reduceToInt] at ho
  rcases ho with ⟨o1, o2⟩ | ⟨o1, o2⟩
  · exact Par.not (by rw [o1]; decide) (one n 0 _ _ _ _ _ _ _ _ rfl (Nat.zero_le _) (fun k hk => absurd hk (Nat.not_lt_zero _)))
  · exact Par.yes o1 (Par.ret (Or.inr ⟨o2, rfl⟩))
theorem ra_ans {K : Nat} (hK : 1000000000 ≤ K) {l1 th sz cs ou us imany : Int32} {LL : List Nat} {lvf alev flfh flfs flfl astm asm arsd pk : Nat → Int32} {pg : Nat → Option Nat} {sv : Nat → Nat → Int32} {rc : Int32 × (Nat → Int32) × (Nat → Int32) × (Nat → Int32)} {rm : Int32 × Int32 × (Nat → Int32)} (hl : lvf = alev) (h3 : lv3 alev) (hP : SameP pg sv pk sz cs ou us imany astm asm) (hc : F_X9_raised K l1 LL sv lvf flfh flfs flfl sz pg = some rc) (hm : F_m_raised K l1 th imany alev astm asm arsd = some rm) : rc.1 = rm.1 := by
  subst hl
  obtain ⟨D, M, N, ⟨k, v, j, hH, _⟩, hD, h1, h2, _, _, hRC, hRF⟩ := hP
  obtain ⟨dp, hN⟩ := hH.ns
  exact RaiP_u (E_X9_raised K hK l1 LL sv lvf flfh flfs flfl sz pg D M N dp h1 hD (RowC.cfl hRC) hN h3 rc hc) (E_m_raised K hK l1 th imany lvf astm asm arsd D M N dp h2 hD hRF hN h3 rm hm)
