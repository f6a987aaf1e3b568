/-! a secret's run, and the tried secret's -/
theorem dg_or : ∀ (c a b : Nat), dgN (a ||| b) c = dgN a c ||| dgN b c := by
  intro c
  induction c with
  | zero =>
    intro a b
    rw [dgN_0, dgN_0, dgN_0]
    have ha : a = 4 * (a / 4) + a % 4 := by omega
    have hb : b = 4 * (b / 4) + b % 4 := by omega
    have h := lo4 (a / 4) (b / 4) (a % 4) (b % 4) (Nat.mod_lt _ (by omega)) (Nat.mod_lt _ (by omega))
    rw [← ha, ← hb] at h
    rw [h.1]
    have := h.2.2.1
    omega
  | succ c ih =>
    intro a b
    rw [dgN_s, dgN_s, dgN_s, ← ih]
    have ha : a = 4 * (a / 4) + a % 4 := by omega
    have hb : b = 4 * (b / 4) + b % 4 := by omega
    have h := lo4 (a / 4) (b / 4) (a % 4) (b % 4) (Nat.mod_lt _ (by omega)) (Nat.mod_lt _ (by omega))
    rw [← ha, ← hb] at h
    rw [h.1]
    have := h.2.2.1
    congr 1
    omega
theorem or_m (a b m : Nat) : (a ||| (b &&& m)) &&& m = (a ||| b) &&& m := by
  apply Nat.eq_of_testBit_eq
  intro i
  rw [Nat.testBit_and, Nat.testBit_and, Nat.testBit_or, Nat.testBit_or, Nat.testBit_and]
  cases a.testBit i <;> cases b.testBit i <;> cases m.testBit i <;> rfl
theorem n_or12 (a b : Nat) (ha : a < 4096) (hb : b < 4096) : (Int32.ofNat a ||| Int32.ofNat b) = Int32.ofNat (a ||| b) ∧ (a ||| b) < 4096 := by
  have hlt : (a ||| b) < 2 ^ 12 := Nat.or_lt_two_pow (by omega) (by omega)
  refine ⟨?_, by omega⟩
  rw [← Int32.toBitVec_inj]
  apply BitVec.eq_of_toNat_eq
  have e : (Int32.ofNat a ||| Int32.ofNat b).toBitVec = (Int32.ofNat a).toBitVec ||| (Int32.ofNat b).toBitVec := rfl
  rw [e, BitVec.toNat_or, ofN_nat _ ha, ofN_nat _ hb, ofN_nat _ (by omega)]
/-- the numbers of all cells: open ones o, secret ones s -/
def xOS (bs : List Bool) (o s : Nat) : Nat := spB bs o ||| spB (ntB bs) s
theorem sp6 {bs : List Bool} (h : bs.length = 6) (k : Nat) : spB bs k < 4096 := by
  have := spB_lt bs k
  rw [h] at this
  exact this
theorem xOS_lt {bs : List Bool} (h : bs.length = 6) (o s : Nat) : xOS bs o s < 4096 := (n_or12 _ _ (sp6 h o) (sp6 (ntB_len h) s)).2
theorem xOS_dg {bs : List Bool} (h : bs.length = 6) (o s c : Nat) (hc : c < 6) : dgN (xOS bs o s) c = if bs[c]? = some true then dgN (spB bs o) c else dgN (spB (ntB bs) s) c := by
  unfold xOS
  rw [dg_or]
  by_cases hb : bs[c]? = some true
  · rw [if_pos hb, dg_sp (ntB bs) s c (fun h9 => (ntB_at h c hc).mp h9 hb), Nat.or_zero]
  · rw [if_neg hb, dg_sp bs o c hb, Nat.zero_or]
theorem us_b {pg : Nat → Option Nat} {sv : Nat → Nat → Int32} {pk : Nat → Int32} {D : List SRc} {M N dp : Nat → Nat} (hC : CRw pg sv pk D M N) (hN : NsT D M N dp) : ∃ ub : List Bool, ub.length = 6 ∧ usX D = mkI ub ∧ UsD D (fun c => ub[c]? = some true) := by
  have hidx : ∀ r : SRc, r ∈ D → ∃ i : Nat, i < D.length ∧ D[i]? = some r := by
    intro r hr
    obtain ⟨i, hi, e⟩ := List.getElem_of_mem hr
    exact ⟨i, hi, by rw [List.getElem?_eq_getElem hi, e]⟩
  obtain ⟨ub, h1, h2, h3⟩ := usX_b D (fun r hr => by
    obtain ⟨i, hi, e⟩ := hidx r hr
    obtain ⟨a, c1, c2, c3, c4, c5, c6, c7, c8, c9⟩ := hC i hi
    rw [kf_at e] at c8 c9
    rw [cod_at e] at c9
    unfold tcC at c8
    rw [nf_at e] at c8
    refine ⟨?_, c8⟩
    by_cases hk : r.1 = 3
    · rw [(hN.2.2.2.2.2 r hr).2 hk]; exact GdE.nil
    · exact (c9 hk).1)
  refine ⟨ub, h1, h2, fun i => ⟨fun x hx h4 h16 => ?_, fun hk hi => ?_⟩⟩
  · rcases Nat.lt_or_ge i D.length with hi | hi
    · have e := List.getElem?_eq_getElem hi
      rw [cod_at e] at hx
      exact (h3 _ (List.getElem_mem hi)).1 x hx h4 h16
    · rw [cod_no hi] at hx; cases hx
  · have e := List.getElem?_eq_getElem hi
    rw [kf_at e] at hk
    unfold tcC
    rw [nf_at e]
    exact (h3 _ (List.getElem_mem hi)).2 hk
section SECR
variable {D : List SRc} {M N dp : Nat → Nat} {wo w t : Int32} {ub bs : List Bool}
theorem FnR_U (hU : UsD D (fun c => ub[c]? = some true)) (x : Nat) : RUs (fun c => ub[c]? = some true) (FnR D M N wo x) (FnR D M N wo (x &&& mkB ub)) := by
  refine exR_U hU _ _ _ _ _ ⟨fun c hc => ?_, rfl⟩
  show gN x c = gN (x &&& mkB ub) c
  rw [gN_inj, mk_dg, if_pos hc]
theorem FnR_n (hN : NsT D M N dp) (hU : UsD D (fun c => ub[c]? = some true)) (x c : Nat) (hc : ¬ ub[c]? = some true) : (FnR D M N wo x).1 c = gN x c :=
  exC_n hN hU hc _ 0 D.length (gN x, 0, []) (Nat.le_refl _) ⟨Nat.le_refl _, fun j _ hj => (hN.1 j hj).2.1⟩
theorem sal_mask (hN : NsT D M N dp) (hU : UsD D (fun c => ub[c]? = some true)) {x y : Nat} (h : ∀ c : Nat, c < 6 → bs[c]? = some true → dgN x c = dgN y c) : SAl w t bs (FnR D M N wo x) (FnR D M N wo y) ↔ SAl w t bs (FnR D M N wo (x &&& mkB ub)) (FnR D M N wo (y &&& mkB ub)) := by
  obtain ⟨x1, x2⟩ := FnR_U (M := M) (N := N) (wo := wo) hU x
  obtain ⟨y1, y2⟩ := FnR_U (M := M) (N := N) (wo := wo) hU y
  unfold SAl
  rw [x2, y2]
  have hcell : (∀ c : Nat, c < 6 → bs[c]? = some true → (FnR D M N wo x).1 c = (FnR D M N wo y).1 c) ↔ (∀ c : Nat, c < 6 → bs[c]? = some true → (FnR D M N wo (x &&& mkB ub)).1 c = (FnR D M N wo (y &&& mkB ub)).1 c) := by
    constructor
    · intro h9 c hc hb
      by_cases hu : ub[c]? = some true
      · rw [← x1 c hu, ← y1 c hu]; exact h9 c hc hb
      · rw [FnR_n hN hU _ c hu, FnR_n hN hU _ c hu, gN_inj, mk_dg, mk_dg, if_neg hu, if_neg hu]
    · intro h9 c hc hb
      by_cases hu : ub[c]? = some true
      · rw [x1 c hu, y1 c hu]; exact h9 c hc hb
      · rw [FnR_n hN hU _ c hu, FnR_n hN hU _ c hu, gN_inj]
        exact h c hc hb
  rw [hcell]
/-- the key under which the class looks at open numbers o, tried secret k -/
def kOS (bs ub : List Bool) (o k : Nat) : Nat := (spB bs o ||| spB (anB (ntB bs) ub) k) &&& mkB ub
theorem kOS_tau (hb : bs.length = 6) (hu : ub.length = 6) (o s : Nat) : xOS bs o s &&& mkB ub = kOS bs ub o (tau (ntB bs) ub s) := by
  unfold xOS kOS
  rw [sp_tau (ntB bs) ub (by rw [ntB_len hb, hu]), or_m]
/-- secrets s, s2 are in one heap by open numbers o -/
def HpR (D : List SRc) (M N : Nat → Nat) (wo w t : Int32) (bs : List Bool) (o s s2 : Nat) : Prop := SAl w t bs (FnR D M N wo (xOS bs o s)) (FnR D M N wo (xOS bs o s2))
def HkR (D : List SRc) (M N : Nat → Nat) (wo w t : Int32) (bs ub : List Bool) (o k k2 : Nat) : Prop := SAl w t bs (FnR D M N wo (kOS bs ub o k)) (FnR D M N wo (kOS bs ub o k2))
theorem HpR_tau (hN : NsT D M N dp) (hU : UsD D (fun c => ub[c]? = some true)) (hb : bs.length = 6) (hu : ub.length = 6) (o s s2 : Nat) : HpR D M N wo w t bs o s s2 ↔ HkR D M N wo w t bs ub o (tau (ntB bs) ub s) (tau (ntB bs) ub s2) := by
  unfold HpR HkR
  rw [sal_mask hN hU (fun c hc h9 => by rw [xOS_dg hb _ _ c hc, xOS_dg hb _ _ c hc, if_pos h9, if_pos h9]), kOS_tau hb hu, kOS_tau hb hu]
theorem SAl_rf (F : RSt) : SAl w t bs F F := ⟨rfl, fun _ _ _ => rfl, fun _ => rfl⟩
theorem SAl_sy {F G : RSt} (h : SAl w t bs F G) : SAl w t bs G F := ⟨h.1.symm, fun c hc hb => (h.2.1 c hc hb).symm, fun ht => (h.2.2 ht).symm⟩
theorem SAl_tr {F G H : RSt} (h : SAl w t bs F G) (h2 : SAl w t bs G H) : SAl w t bs F H := ⟨h.1.trans h2.1, fun c hc hb => (h.2.1 c hc hb).trans (h2.2.1 c hc hb), fun ht => (h.2.2 ht).trans (h2.2.2 ht)⟩
end SECR
