/-! what the reference answers of what it has learnt: heaps, heap, together -/
theorem ndQ_cg {R Q : Nat → Nat → Prop} {n : Nat} (h : ∀ j s : Nat, j < n → s < n → (R j s ↔ Q j s)) : ndQ R n = ndQ Q n := by
  unfold ndQ
  refine cntQ_congr (fun s hs => ?_)
  constructor
  · intro h9 j hj h8
    exact h9 j hj ((h j s (by omega) hs).mpr h8)
  · intro h9 j hj h8
    exact h9 j hj ((h j s (by omega) hs).mp h8)
theorem cnt_pos {P : Nat → Prop} {s : Nat} (hs : P s) : ∀ n : Nat, s < n → 1 ≤ cntQ P n := by
  intro n
  induction n with
  | zero => intro h; exact absurd h (Nat.not_lt_zero _)
  | succ n ih =>
    intro h
    by_cases e : s = n
    · subst e
      rw [cntQ_y hs]; omega
    · have h1 := ih (by omega)
      rcases Classical.em (P n) with h2 | h2
      · rw [cntQ_y h2]; omega
      · rw [cntQ_n h2]; exact h1
/-- the greatest of the heaps -/
def GmX (R : Nat → Nat → Prop) (S : Nat) (v : Int) : Prop := (∀ s : Nat, s < S → (cntQ (R s) S : Int) ≤ v) ∧ ∃ s : Nat, s < S ∧ v = (cntQ (R s) S : Int)
theorem GmX_u {R : Nat → Nat → Prop} {S : Nat} {v u : Int} (h : GmX R S v) (k : GmX R S u) : v = u := by
  obtain ⟨h1, s, hs, rfl⟩ := h
  obtain ⟨k1, s2, hs2, rfl⟩ := k
  have := h1 s2 hs2
  have := k1 s hs
  omega
section LEARNT
variable {D : List SRc} {M N : Nat → Nat} {wo w t : Int32} {bs : List Bool} {o : Nat → Nat} {m : Nat}
theorem LkR_rf (s : Nat) : LkR D M N wo w t bs o m s s := ⟨SAl_rf _, fun _ => SAl_rf _⟩
theorem LkR_sy {s s2 : Nat} (h : LkR D M N wo w t bs o m s s2) : LkR D M N wo w t bs o m s2 s := ⟨SAl_sy h.1, fun hm => SAl_sy (h.2 hm)⟩
theorem LkR_tr {s s2 s3 : Nat} (h : LkR D M N wo w t bs o m s s2) (k : LkR D M N wo w t bs o m s2 s3) : LkR D M N wo w t bs o m s s3 := ⟨SAl_tr h.1 k.1, fun hm => SAl_tr (h.2 hm) (k.2 hm)⟩
theorem Lk_cnt {s s2 : Nat} (h : LkR D M N wo w t bs o m s s2) (S : Nat) : cntQ (LkR D M N wo w t bs o m s) S = cntQ (LkR D M N wo w t bs o m s2) S := cntQ_congr (fun _ _ => ⟨fun k => LkR_tr (LkR_sy h) k, fun k => LkR_tr h k⟩)
theorem LnS.al {isec heaps : Int32} {sen : Nat → Int64} {hpo hpm bgn chn : Nat → Int32} (h : LnS D M N wo w t bs o m isec heaps sen hpo hpm bgn chn) (hV : VlD D) (hm : m = 1 ∨ m = 2) : isec.toInt = ((4 ^ cnB (ntB bs) : Nat) : Int) ∧ heaps.toInt = (ndQ (LkR D M N wo w t bs o m) (4 ^ cnB (ntB bs)) : Int) ∧ ∀ s : Nat, s < 4 ^ cnB (ntB bs) → ∃ r : Nat, r ≤ s ∧ (hpo s).toInt = (r : Int) ∧ LkR D M N wo w t bs o m r s ∧ (∀ i : Nat, i < r → ¬ LkR D M N wo w t bs o m i s) ∧ (hpm r).toInt = (cntQ (LkR D M N wo w t bs o m s) (4 ^ cnB (ntB bs)) : Int) := by
  obtain ⟨h1, ⟨t1, t2, t3, _⟩, h3⟩ := h
  have e : ∀ a b : Nat, a < 4 ^ cnB (ntB bs) → b < 4 ^ cnB (ntB bs) → (RwE sen a b ↔ LkR D M N wo w t bs o m a b) := fun a b ha hb => RwR_eq hV hm (h3 a ha) (h3 b hb)
  refine ⟨h1, by rw [t2, ndQ_cg e], fun s hs => ?_⟩
  obtain ⟨r, r1, r2, r3, r4⟩ := t1 s hs
  have hl : LkR D M N wo w t bs o m r s := (e r s (by omega) hs).mp r3
  refine ⟨r, r1, r2, hl, fun i hi h9 => r4 i hi ((e i s (by omega) hs).mpr h9), ?_⟩
  rw [t3 r (by omega) (fun i hi h9 => r4 i hi (RwE_tr h9 r3)), cntQ_congr (fun k hk => e r k (by omega) hk), Lk_cnt hl]
end LEARNT
/-- may be asked -/
def AsP (w t : Int32) : Prop := (0 ≤ w.toInt ∧ w.toInt ≤ 3) ∧ (t = 0 ∨ t = 1)
def OpP (bs : List Bool) (x : Int32) : Prop := 0 ≤ x.toInt ∧ x.toInt < ((4 ^ cnB bs : Nat) : Int)
theorem two_i (x : Int32) : (0 ≤ x.toInt ∧ x.toInt ≤ 1) ↔ (x = 0 ∨ x = 1) := by
  constructor
  · intro h
    have h2 : x.toInt = (0 : Int32).toInt ∨ x.toInt = (1 : Int32).toInt := by simp only [Int32.reduceToInt]; omega
    simpa only [Int32.toInt_inj] using h2
  · rintro (rfl | rfl) <;> decide
theorem E_m_isAsked (K : Nat) (hK : 1000000000 ≤ K) (w t : Int32) : Par (F_m_isAsked K w t) (fun r => (r = 1 ∧ AsP w t) ∨ (r = 0 ∧ ¬ AsP w t)) := by
  unfold F_m_isAsked
  obtain ⟨n, rfl⟩ : ∃ n9, K = n9 + 1 := ⟨K - 1, by omega⟩
  rw [L_m_isAsked_e0]; unfold B_m_isAsked_0
  have c0 : (0 : Int32).toInt = 0 := by decide
  have c1 : (1 : Int32).toInt = 1 := by decide
  have c3 : (3 : Int32).toInt = 3 := by decide
  have one : ¬ AsP w t → Par (L_m_isAsked (n + 1) n 1 w t) (fun r => (r = 1 ∧ AsP w t) ∨ (r = 0 ∧ ¬ AsP w t)) := by
    intro h
    cases n with
    | zero => exact Par.no
    | succ n => rw [L_m_isAsked_e1]; unfold B_m_isAsked_1; exact Par.ret (Or.inr ⟨rfl, h⟩)
  refine Par.bd (E_m_in _ hK w 0 3) (fun o1 h1 => ?_)
  rcases h1 with ⟨e1, q1⟩ | ⟨e1, q1⟩
  · refine Par.not (by rw [e1]; decide) ?_
    refine Par.bd (E_m_in _ hK t 0 1) (fun o2 h2 => ?_)
    rcases h2 with ⟨e2, q2⟩ | ⟨e2, q2⟩
    · refine Par.not (by rw [e2]; decide) (Par.ret (Or.inl ⟨rfl, ?_, (two_i t).mp ?_⟩))
      · rw [c0, c3] at q1; exact q1
      · rw [c0, c1] at q2; exact q2
    · refine Par.yes e2 (one (fun h => q2 ?_))
      rw [c0, c1]
      exact (two_i t).mpr h.2
  · refine Par.yes e1 (one (fun h => q1 ?_))
    rw [c0, c3]
    exact h.1
theorem p4_m1 (bs : List Bool) (h : bs.length = 6) : ((1 : Int32) <<< ((2 * Int32.ofNat (cnB bs)) &&& 31) - 1).toInt = ((4 ^ cnB bs : Nat) : Int) - 1 := by
  rw [p4_e h]
  obtain ⟨h1, h2⟩ := p4_le h
  rw [Int32.toInt_sub, ofn_i _ (by omega)]
  simp only [Int32.reduceToInt]
  rw [bmI (by omega) (by omega)]
theorem E_m_isOpen (K : Nat) (hK : 1000000000 ≤ K) (w x : Int32) (alev : Nat → Int32) : Par (F_m_isOpen K w x alev) (fun r => (r = 1 ∧ OpP (wiL alev w) x) ∨ (r = 0 ∧ ¬ OpP (wiL alev w) x)) := by
  unfold F_m_isOpen
  obtain ⟨n, rfl⟩ : ∃ n9, K = n9 + 1 := ⟨K - 1, by omega⟩
  rw [L_m_isOpen_e0]; unfold B_m_isOpen_0
  refine Par.bd (E_m_cells _ hK w 1 alev (wiL alev w) (wiL_len alev w) (wi_y alev w)) (fun o1 h1 => ?_)
  subst h1
  have c0 : (0 : Int32).toInt = 0 := by decide
  refine Par.bd (E_m_in _ hK x 0 _) (fun o2 h2 => ?_)
  rw [p4_m1 _ (wiL_len alev w), c0] at h2
  unfold OpP
  refine Par.br (fun _ => Par.ret ?_) (fun _ => Par.no)
  rcases h2 with ⟨e, q⟩ | ⟨e, q⟩
  · exact Or.inl ⟨e, q.1, by omega⟩
  · exact Or.inr ⟨e, fun h => q ⟨h.1, by omega⟩⟩
theorem OpP_n {bs : List Bool} (h : bs.length = 6) {x : Int32} (hx : OpP bs x) : ∃ k : Nat, k < 4 ^ cnB bs ∧ k < 4096 ∧ x = Int32.ofNat k ∧ x.toInt = (k : Int) := by
  obtain ⟨h1, h2⟩ := hx
  obtain ⟨p1, _⟩ := p4_le h
  have e : (Int32.ofNat x.toInt.toNat).toInt = x.toInt := by rw [ofn_i _ (by omega)]; omega
  exact ⟨x.toInt.toNat, by omega, by omega, (Int32.toInt_inj.mp e).symm, by omega⟩
/-- one view -/
def o1F (k : Nat) : Nat → Nat := fun _ => k
def o2F (k j : Nat) : Nat → Nat := fun i => if i = 0 then k else j
section WHATR
variable (D : List SRc) (M N : Nat → Nat) (w t : Int32) (bs : List Bool)
/-- the answers, by the heaps' relation -/
def HeaP (x what r : Int32) : Prop := ∃ k : Nat, x = Int32.ofNat k ∧ k < 4 ^ cnB bs ∧ ((what = 0 ∧ r.toInt = (ndQ (HpR D M N 0 w t bs k) (4 ^ cnB (ntB bs)) : Int)) ∨ (what = 1 ∧ GmX (HpR D M N 0 w t bs k) (4 ^ cnB (ntB bs)) r.toInt))
def HpaP (x y what r : Int32) : Prop := ∃ k s : Nat, x = Int32.ofNat k ∧ k < 4 ^ cnB bs ∧ y = Int32.ofNat s ∧ s < 4 ^ cnB (ntB bs) ∧ ((what = 0 ∧ r.toInt = (cntQ (HpR D M N 0 w t bs k s) (4 ^ cnB (ntB bs)) : Int)) ∨ (what = 1 ∧ ∃ i : Nat, i ≤ s ∧ r.toInt = (i : Int) ∧ HpR D M N 0 w t bs k i s ∧ ∀ j : Nat, j < i → ¬ HpR D M N 0 w t bs k j s))
def TogP (x y r : Int32) : Prop := ∃ k j : Nat, x = Int32.ofNat k ∧ k < 4 ^ cnB bs ∧ y = Int32.ofNat j ∧ j < 4 ^ cnB bs ∧ r.toInt = (ndQ (fun a b => HpR D M N 0 w t bs k a b ∧ HpR D M N 0 w t bs j a b) (4 ^ cnB (ntB bs)) : Int)
end WHATR
theorem Lk_1 {D : List SRc} {M N : Nat → Nat} {wo w t : Int32} {bs : List Bool} {k s s2 : Nat} : LkR D M N wo w t bs (o1F k) 1 s s2 ↔ HpR D M N wo w t bs k s s2 := ⟨fun h => h.1, fun h => ⟨h, fun e => absurd e (by decide)⟩⟩
theorem Lk_2 {D : List SRc} {M N : Nat → Nat} {wo w t : Int32} {bs : List Bool} {k j s s2 : Nat} : LkR D M N wo w t bs (o2F k j) 2 s s2 ↔ (HpR D M N wo w t bs k s s2 ∧ HpR D M N wo w t bs j s s2) := ⟨fun h => ⟨h.1, h.2 rfl⟩, fun h => ⟨h.1, fun _ => h.2⟩⟩
abbrev R20 : Type := Int32 × Int32 × Int32 × Int32 × Int32 × Int32 × Int32 × (Nat → Int32) × (Nat → Int32) × (Nat → Int32) × (Nat → Int32) × (Nat → Int32) × (Nat → Int32) × (Nat → Int32) × (Nat → Int64) × (Nat → Int32) × (Nat → Int32) × (Nat → Int32) × (Nat → Int32) × (Nat → Int64)
set_option maxHeartbeats 4000000 in
theorem E_m_heaps (K : Nat) (hK : 1000000000 ≤ K) (w tm l3 l4 th : Int32) (imany a1 a2 ip isec heaps : Int32) (alev astm asm avls abke abko abkl acel atap atpl : Nat → Int32) (sen : Nat → Int64) (hpo hpm bgn chn : Nat → Int32) (sgt : Nat → Int64) (D : List SRc) (M N dp : Nat → Nat) (hs : imany.toInt = (D.length : Int)) (hD : D.length ≤ 30) (hF : FRw astm asm D M N) (hN : NsT D M N dp) (hV : VlD D) (ub : List Bool) (hub : ub.length = 6) (hU : UsD D (fun c => ub[c]? = some true)) : Par (F_m_heaps K w tm l3 l4 th imany a1 a2 ip isec heaps alev astm asm avls abke abko abkl acel atap atpl sen hpo hpm bgn chn sgt) (fun r => (¬ (AsP w tm ∧ OpP (wiL alev w) l3 ∧ (l4 = 0 ∨ l4 = 1)) ∧ r.1 = -1) ∨ ((AsP w tm ∧ OpP (wiL alev w) l3 ∧ (l4 = 0 ∨ l4 = 1)) ∧ HeaP D M N w tm (wiL alev w) l3 l4 r.1)) := by
  have hb6 := wiL_len alev w
  unfold F_m_heaps
  obtain ⟨n, rfl⟩ : ∃ n9, K = n9 + 1 := ⟨K - 1, by omega⟩
  rw [L_m_heaps_e0]; unfold B_m_heaps_0
  generalize hQ : (fun r : R20 => (¬ (AsP w tm ∧ OpP (wiL alev w) l3 ∧ (l4 = 0 ∨ l4 = 1)) ∧ r.1 = -1) ∨ ((AsP w tm ∧ OpP (wiL alev w) l3 ∧ (l4 = 0 ∨ l4 = 1)) ∧ HeaP D M N w tm (wiL alev w) l3 l4 r.1)) = Q
  have one : ¬ (AsP w tm ∧ OpP (wiL alev w) l3 ∧ (l4 = 0 ∨ l4 = 1)) → ∀ (x5 x6 s0 th imany a1 a2 ip isec heaps : Int32) (avls abke abko abkl acel atap atpl : Nat → Int32) (sen : Nat → Int64) (hpo hpm bgn chn : Nat → Int32) (sgt : Nat → Int64), Par (L_m_heaps (n + 1) n 1 w tm l3 l4 x5 x6 s0 th imany a1 a2 ip isec heaps alev astm asm avls abke abko abkl acel atap atpl sen hpo hpm bgn chn sgt) Q := by
    intro h
    intros
    cases n with
    | zero => exact Par.no
    | succ n => rw [L_m_heaps_e1]; unfold B_m_heaps_1; rw [← hQ]; exact Par.ret (Or.inl ⟨h, rfl⟩)
  refine Par.bd (E_m_isAsked _ hK w tm) (fun o1 h1 => ?_)
  rcases h1 with ⟨e1, q1⟩ | ⟨e1, q1⟩
  rotate_left
  · exact Par.yes e1 (one (fun h => q1 h.1) _ _ _ _ _ _ _ _ _ _ _ _ _ _ _ _ _ _ _ _ _ _ _)
  refine Par.not (by rw [e1]; decide) ?_
  refine Par.bd (E_m_isOpen _ hK w l3 alev) (fun o2 h2 => ?_)
  rcases h2 with ⟨e2, q2⟩ | ⟨e2, q2⟩
  rotate_left
  · exact Par.yes e2 (one (fun h => q2 h.2.1) _ _ _ _ _ _ _ _ _ _ _ _ _ _ _ _ _ _ _ _ _ _ _)
  refine Par.not (by rw [e2]; decide) ?_
  refine Par.bd (E_m_in _ hK l4 0 1) (fun o3 h3 => ?_)
  have c0 : (0 : Int32).toInt = 0 := by decide
  have c1 : (1 : Int32).toInt = 1 := by decide
  rw [c0, c1] at h3
  rcases h3 with ⟨e3, q3⟩ | ⟨e3, q3⟩
  rotate_left
  · exact Par.yes e3 (one (fun h => q3 ((two_i l4).mpr h.2.2)) _ _ _ _ _ _ _ _ _ _ _ _ _ _ _ _ _ _ _ _ _ _ _)
  refine Par.not (by rw [e3]; decide) ?_
  have hall : AsP w tm ∧ OpP (wiL alev w) l3 ∧ (l4 = 0 ∨ l4 = 1) := ⟨q1, q2, (two_i l4).mp q3⟩
  obtain ⟨k, hk, hk4, hx, _⟩ := OpP_n hb6 q2
  refine Par.bd (E_m_learns _ hK w tm l3 (-1) (o1F k) 1 (Or.inl ⟨rfl, rfl⟩) hx ⟨hk4, hk4⟩ imany a1 a2 0 isec heaps alev astm asm avls abke abko abkl acel atap atpl sen hpo hpm bgn chn sgt D M N dp hs hD hF hN hV (by decide) ub hub hU) (fun r hr => ?_)
  obtain ⟨g1, g2, g3⟩ := LnS.al hr hV (Or.inl rfl)
  obtain ⟨hS4, hS1⟩ := p4_le (ntB_len hb6)
  have hnd : ndQ (LkR D M N 0 w tm (wiL alev w) (o1F k) 1) (4 ^ cnB (ntB (wiL alev w))) = ndQ (HpR D M N 0 w tm (wiL alev w) k) (4 ^ cnB (ntB (wiL alev w))) := ndQ_cg (fun _ _ _ _ => Lk_1)
  have hcn : ∀ s : Nat, cntQ (LkR D M N 0 w tm (wiL alev w) (o1F k) 1 s) (4 ^ cnB (ntB (wiL alev w))) = cntQ (HpR D M N 0 w tm (wiL alev w) k s) (4 ^ cnB (ntB (wiL alev w))) := fun s => cntQ_congr (fun _ _ => Lk_1)
  have fin : ∀ v : Int32, ((l4 = 0 ∧ v.toInt = (ndQ (HpR D M N 0 w tm (wiL alev w) k) (4 ^ cnB (ntB (wiL alev w))) : Int)) ∨ (l4 = 1 ∧ GmX (HpR D M N 0 w tm (wiL alev w) k) (4 ^ cnB (ntB (wiL alev w))) v.toInt)) → HeaP D M N w tm (wiL alev w) l3 l4 v := fun v h => ⟨k, hx, hk, h⟩
  refine Par.br (fun h0 => Par.ret ?_) (fun h0 => ?_)
  · rw [← hQ]
    exact Or.inr ⟨hall, fin _ (Or.inl ⟨h0, by rw [g2, hnd]⟩)⟩
  have h4 : l4 = 1 := hall.2.2.resolve_left h0
  obtain ⟨r0, r1, r2, r3, rest⟩ := r
  obtain ⟨r4, r5, r6, r7, r8, r9, r10, r11, r12, r13, r14, r15, r16⟩ := rest
  dsimp only at g1 g2 g3 ⊢
  generalize 4 ^ cnB (ntB (wiL alev w)) = S at g1 g2 g3 hS4 hS1 hcn fin hnd
  have key : ∀ (q s : Nat) (l5 l6 : Int32), l6.toInt = (s : Int) → s ≤ S → (∀ j : Nat, j < s → (cntQ (HpR D M N 0 w tm (wiL alev w) k j) S : Int) ≤ l5.toInt) → (l5.toInt = 0 ∨ ∃ j : Nat, j < S ∧ l5.toInt = (cntQ (HpR D M N 0 w tm (wiL alev w) k j) S : Int)) → Par (L_m_heaps (n + 1) q 2 w tm l3 l4 l5 l6 0 0 imany r0 r1 0 r2 r3 alev astm asm r4 r5 r6 r7 r8 r9 r10 r11 r12 r13 r14 r15 r16) Q := by
    intro q
    induction q using Nat.strongRecOn with
    | _ q ih =>
    intro s l5 l6 h6 hsS hle hex
    cases q with
    | zero => exact Par.no
    | succ q =>
      rw [L_m_heaps_e2]; unfold B_m_heaps_2
      refine Par.br (fun h => ?_) (fun h => ?_)
      · rw [Int32.le_iff_toInt_le, g1, h6] at h
        refine Par.ret ?_
        rw [← hQ]
        refine Or.inr ⟨hall, fin _ (Or.inr ⟨h4, fun j hj => hle j (by omega), ?_⟩)⟩
        rcases hex with h0 | h0
        · have h9 := hle 0 (by omega)
          have h8 := cnt_pos (P := HpR D M N 0 w tm (wiL alev w) k 0) (s := 0) (SAl_rf _) S (by omega)
          omega
        · exact h0
      · rw [Int32.le_iff_toInt_le, g1, h6] at h
        have hlt : s < S := by omega
        obtain ⟨rp, p1, p2, p3, p4, p5⟩ := g3 s hlt
        rw [hcn] at p5
        have four : ∀ (q2 : Nat) (v : Int32), q2 < q + 1 → (∀ j : Nat, j < s + 1 → (cntQ (HpR D M N 0 w tm (wiL alev w) k j) S : Int) ≤ v.toInt) → (v.toInt = 0 ∨ ∃ j : Nat, j < S ∧ v.toInt = (cntQ (HpR D M N 0 w tm (wiL alev w) k j) S : Int)) → Par (L_m_heaps (n + 1) q2 4 w tm l3 l4 l5 l6 v 0 imany r0 r1 0 r2 r3 alev astm asm r4 r5 r6 r7 r8 r9 r10 r11 r12 r13 r14 r15 r16) Q := by
          intro q2 v hq2 v1 v2
          cases q2 with
          | zero => exact Par.no
          | succ q2 =>
            rw [L_m_heaps_e4]; unfold B_m_heaps_4
            exact ih q2 (by omega) (s + 1) v _ (ad1 l6 s h6 (by omega)) (by omega) v1 v2
        have three : ∀ (q2 : Nat), q2 < q + 1 → (cntQ (HpR D M N 0 w tm (wiL alev w) k s) S : Int) ≤ l5.toInt → Par (L_m_heaps (n + 1) q2 3 w tm l3 l4 l5 l6 0 0 imany r0 r1 0 r2 r3 alev astm asm r4 r5 r6 r7 r8 r9 r10 r11 r12 r13 r14 r15 r16) Q := by
          intro q2 hq2 v1
          cases q2 with
          | zero => exact Par.no
          | succ q2 =>
            rw [L_m_heaps_e3]; unfold B_m_heaps_3
            refine four q2 l5 (by omega) (fun j hj => ?_) hex
            by_cases e : j = s
            · rw [e]; exact v1
            · exact hle j (by omega)
        refine Par.br (fun _ => ?_) (fun _ => Par.no)
        rw [cl1 l6 s h6]
        refine Par.br (fun hrep => ?_) (fun hrep => ?_)
        · have hrs : rp = s := by
            rw [hrep, h6] at p2
            omega
          subst hrs
          refine Par.br (fun _ => ?_) (fun _ => Par.no)
          refine Par.br (fun hle2 => ?_) (fun hgt => ?_)
          · rw [Int32.le_iff_toInt_le, p5] at hle2
            exact three q (by omega) hle2
          · rw [Int32.le_iff_toInt_le, p5] at hgt
            refine Par.br (fun _ => four q _ (by omega) (fun j hj => ?_) (Or.inr ⟨rp, hlt, p5⟩)) (fun _ => Par.no)
            rw [p5]
            by_cases e : j = rp
            · rw [e]; omega
            · have := hle j (by omega); omega
        · have hne : rp ≠ s := by
            intro e
            refine hrep (Int32.toInt_inj.mp ?_)
            rw [p2, h6, e]
          have hrr := hle rp (by omega)
          have e9 : cntQ (HpR D M N 0 w tm (wiL alev w) k rp) S = cntQ (HpR D M N 0 w tm (wiL alev w) k s) S := by
            rw [← hcn, ← hcn]; exact Lk_cnt p3 S
          rw [e9] at hrr
          exact three q (by omega) hrr
  exact key n 0 0 0 rfl (Nat.zero_le _) (fun j hj => absurd hj (Nat.not_lt_zero _)) (Or.inl rfl)
set_option maxHeartbeats 4000000 in
theorem E_m_heap (K : Nat) (hK : 1000000000 ≤ K) (w tm l3 l4 l5 th : Int32) (imany a1 a2 ip isec heaps : Int32) (alev astm asm avls abke abko abkl acel atap atpl : Nat → Int32) (sen : Nat → Int64) (hpo hpm bgn chn : Nat → Int32) (sgt : Nat → Int64) (D : List SRc) (M N dp : Nat → Nat) (hs : imany.toInt = (D.length : Int)) (hD : D.length ≤ 30) (hF : FRw astm asm D M N) (hN : NsT D M N dp) (hV : VlD D) (ub : List Bool) (hub : ub.length = 6) (hU : UsD D (fun c => ub[c]? = some true)) : Par (F_m_heap K w tm l3 l4 l5 th imany a1 a2 ip isec heaps alev astm asm avls abke abko abkl acel atap atpl sen hpo hpm bgn chn sgt) (fun r => (¬ (AsP w tm ∧ OpP (wiL alev w) l3 ∧ OpP (ntB (wiL alev w)) l4 ∧ (l5 = 0 ∨ l5 = 1)) ∧ r.1 = -1) ∨ ((AsP w tm ∧ OpP (wiL alev w) l3 ∧ OpP (ntB (wiL alev w)) l4 ∧ (l5 = 0 ∨ l5 = 1)) ∧ HpaP D M N w tm (wiL alev w) l3 l4 l5 r.1)) := by
  have hb6 := wiL_len alev w
  unfold F_m_heap
  obtain ⟨n, rfl⟩ : ∃ n9, K = n9 + 1 := ⟨K - 1, by omega⟩
  rw [L_m_heap_e0]; unfold B_m_heap_0
  generalize hQ : (fun r : R20 => (¬ (AsP w tm ∧ OpP (wiL alev w) l3 ∧ OpP (ntB (wiL alev w)) l4 ∧ (l5 = 0 ∨ l5 = 1)) ∧ r.1 = -1) ∨ ((AsP w tm ∧ OpP (wiL alev w) l3 ∧ OpP (ntB (wiL alev w)) l4 ∧ (l5 = 0 ∨ l5 = 1)) ∧ HpaP D M N w tm (wiL alev w) l3 l4 l5 r.1)) = Q
  have one : ¬ (AsP w tm ∧ OpP (wiL alev w) l3 ∧ OpP (ntB (wiL alev w)) l4 ∧ (l5 = 0 ∨ l5 = 1)) → ∀ (th imany a1 a2 ip isec heaps : Int32) (avls abke abko abkl acel atap atpl : Nat → Int32) (sen : Nat → Int64) (hpo hpm bgn chn : Nat → Int32) (sgt : Nat → Int64), Par (L_m_heap (n + 1) n 1 w tm l3 l4 l5 th imany a1 a2 ip isec heaps alev astm asm avls abke abko abkl acel atap atpl sen hpo hpm bgn chn sgt) Q := by
    intro h
    intros
    cases n with
    | zero => exact Par.no
    | succ n => rw [L_m_heap_e1]; unfold B_m_heap_1; rw [← hQ]; exact Par.ret (Or.inl ⟨h, rfl⟩)
  refine Par.bd (E_m_isAsked _ hK w tm) (fun o1 h1 => ?_)
  rcases h1 with ⟨e1, q1⟩ | ⟨e1, q1⟩
  rotate_left
  · exact Par.yes e1 (one (fun h => q1 h.1) _ _ _ _ _ _ _ _ _ _ _ _ _ _ _ _ _ _ _ _)
  refine Par.not (by rw [e1]; decide) ?_
  refine Par.bd (E_m_isOpen _ hK w l3 alev) (fun o2 h2 => ?_)
  rcases h2 with ⟨e2, q2⟩ | ⟨e2, q2⟩
  rotate_left
  · exact Par.yes e2 (one (fun h => q2 h.2.1) _ _ _ _ _ _ _ _ _ _ _ _ _ _ _ _ _ _ _ _)
  refine Par.not (by rw [e2]; decide) ?_
  refine Par.bd (E_m_cells _ hK w 0 alev (ntB (wiL alev w)) (ntB_len hb6) (wi_n alev w)) (fun o3 h3 => ?_)
  subst h3
  have c0 : (0 : Int32).toInt = 0 := by decide
  have c1 : (1 : Int32).toInt = 1 := by decide
  refine Par.bd (E_m_in _ hK l4 0 _) (fun o4 h4 => ?_)
  rw [p4_m1 _ (ntB_len hb6), c0] at h4
  rcases h4 with ⟨e4, q4⟩ | ⟨e4, q4⟩
  rotate_left
  · exact Par.yes e4 (one (fun h => q4 ⟨h.2.2.1.1, by have := h.2.2.1.2; omega⟩) _ _ _ _ _ _ _ _ _ _ _ _ _ _ _ _ _ _ _ _)
  refine Par.not (by rw [e4]; decide) ?_
  refine Par.bd (E_m_in _ hK l5 0 1) (fun o5 h5 => ?_)
  rw [c0, c1] at h5
  rcases h5 with ⟨e5, q5⟩ | ⟨e5, q5⟩
  rotate_left
  · exact Par.yes e5 (one (fun h => q5 ((two_i l5).mpr h.2.2.2)) _ _ _ _ _ _ _ _ _ _ _ _ _ _ _ _ _ _ _ _)
  refine Par.not (by rw [e5]; decide) ?_
  have hall : AsP w tm ∧ OpP (wiL alev w) l3 ∧ OpP (ntB (wiL alev w)) l4 ∧ (l5 = 0 ∨ l5 = 1) := ⟨q1, q2, ⟨q4.1, by omega⟩, (two_i l5).mp q5⟩
  obtain ⟨k, hk, hk4, hx, _⟩ := OpP_n hb6 q2
  obtain ⟨s, hsS, hs4, hy, hyi⟩ := OpP_n (ntB_len hb6) hall.2.2.1
  refine Par.bd (E_m_learns _ hK w tm l3 (-1) (o1F k) 1 (Or.inl ⟨rfl, rfl⟩) hx ⟨hk4, hk4⟩ imany a1 a2 0 isec heaps alev astm asm avls abke abko abkl acel atap atpl sen hpo hpm bgn chn sgt D M N dp hs hD hF hN hV (by decide) ub hub hU) (fun r hr => ?_)
  obtain ⟨g1, g2, g3⟩ := LnS.al hr hV (Or.inl rfl)
  obtain ⟨rp, p1, p2, p3, p4, p5⟩ := g3 s hsS
  obtain ⟨hS4, hS1⟩ := p4_le (ntB_len hb6)
  have hcn : cntQ (LkR D M N 0 w tm (wiL alev w) (o1F k) 1 s) (4 ^ cnB (ntB (wiL alev w))) = cntQ (HpR D M N 0 w tm (wiL alev w) k s) (4 ^ cnB (ntB (wiL alev w))) := cntQ_congr (fun _ _ => Lk_1)
  rw [hcn] at p5
  rw [cl1 l4 s hyi]
  refine Par.br (fun h0 => ?_) (fun h0 => ?_)
  · refine Par.br (fun _ => Par.br (fun _ => Par.ret ?_) (fun _ => Par.no)) (fun _ => Par.no)
    rw [← hQ]
    refine Or.inr ⟨hall, k, s, hx, hk, hy, hsS, Or.inl ⟨h0, ?_⟩⟩
    show (r.2.2.2.2.2.2.2.2.2.2.2.2.2.1 (r.2.2.2.2.2.2.2.2.2.2.2.2.1 s).toNatClampNeg).toInt = _
    rw [cl1 _ rp p2, p5]
  · refine Par.br (fun _ => Par.ret ?_) (fun _ => Par.no)
    rw [← hQ]
    exact Or.inr ⟨hall, k, s, hx, hk, hy, hsS, Or.inr ⟨hall.2.2.2.resolve_left h0, rp, p1, p2, Lk_1.mp p3, fun j hj h9 => p4 j hj (Lk_1.mpr h9)⟩⟩
set_option maxHeartbeats 4000000 in
theorem E_m_together (K : Nat) (hK : 1000000000 ≤ K) (w tm l3 l4 th : Int32) (imany a1 a2 ip isec heaps : Int32) (alev astm asm avls abke abko abkl acel atap atpl : Nat → Int32) (sen : Nat → Int64) (hpo hpm bgn chn : Nat → Int32) (sgt : Nat → Int64) (D : List SRc) (M N dp : Nat → Nat) (hs : imany.toInt = (D.length : Int)) (hD : D.length ≤ 30) (hF : FRw astm asm D M N) (hN : NsT D M N dp) (hV : VlD D) (ub : List Bool) (hub : ub.length = 6) (hU : UsD D (fun c => ub[c]? = some true)) : Par (F_m_together K w tm l3 l4 th imany a1 a2 ip isec heaps alev astm asm avls abke abko abkl acel atap atpl sen hpo hpm bgn chn sgt) (fun r => (¬ (AsP w tm ∧ OpP (wiL alev w) l3 ∧ OpP (wiL alev w) l4) ∧ r.1 = -1) ∨ ((AsP w tm ∧ OpP (wiL alev w) l3 ∧ OpP (wiL alev w) l4) ∧ TogP D M N w tm (wiL alev w) l3 l4 r.1)) := by
  have hb6 := wiL_len alev w
  unfold F_m_together
  obtain ⟨n, rfl⟩ : ∃ n9, K = n9 + 1 := ⟨K - 1, by omega⟩
  rw [L_m_together_e0]; unfold B_m_together_0
  generalize hQ : (fun r : R20 => (¬ (AsP w tm ∧ OpP (wiL alev w) l3 ∧ OpP (wiL alev w) l4) ∧ r.1 = -1) ∨ ((AsP w tm ∧ OpP (wiL alev w) l3 ∧ OpP (wiL alev w) l4) ∧ TogP D M N w tm (wiL alev w) l3 l4 r.1)) = Q
  have one : ¬ (AsP w tm ∧ OpP (wiL alev w) l3 ∧ OpP (wiL alev w) l4) → ∀ (th imany a1 a2 ip isec heaps : Int32) (avls abke abko abkl acel atap atpl : Nat → Int32) (sen : Nat → Int64) (hpo hpm bgn chn : Nat → Int32) (sgt : Nat → Int64), Par (L_m_together (n + 1) n 1 w tm l3 l4 th imany a1 a2 ip isec heaps alev astm asm avls abke abko abkl acel atap atpl sen hpo hpm bgn chn sgt) Q := by
    intro h
    intros
    cases n with
    | zero => exact Par.no
    | succ n => rw [L_m_together_e1]; unfold B_m_together_1; rw [← hQ]; exact Par.ret (Or.inl ⟨h, rfl⟩)
  refine Par.bd (E_m_isAsked _ hK w tm) (fun o1 h1 => ?_)
  rcases h1 with ⟨e1, q1⟩ | ⟨e1, q1⟩
  rotate_left
  · exact Par.yes e1 (one (fun h => q1 h.1) _ _ _ _ _ _ _ _ _ _ _ _ _ _ _ _ _ _ _ _)
  refine Par.not (by rw [e1]; decide) ?_
  refine Par.bd (E_m_isOpen _ hK w l3 alev) (fun o2 h2 => ?_)
  rcases h2 with ⟨e2, q2⟩ | ⟨e2, q2⟩
  rotate_left
  · exact Par.yes e2 (one (fun h => q2 h.2.1) _ _ _ _ _ _ _ _ _ _ _ _ _ _ _ _ _ _ _ _)
  refine Par.not (by rw [e2]; decide) ?_
  refine Par.bd (E_m_isOpen _ hK w l4 alev) (fun o3 h3 => ?_)
  rcases h3 with ⟨e3, q3⟩ | ⟨e3, q3⟩
  rotate_left
  · exact Par.yes e3 (one (fun h => q3 h.2.2) _ _ _ _ _ _ _ _ _ _ _ _ _ _ _ _ _ _ _ _)
  refine Par.not (by rw [e3]; decide) ?_
  obtain ⟨k, hk, hk4, hx, _⟩ := OpP_n hb6 q2
  obtain ⟨j, hj, hj4, hy, _⟩ := OpP_n hb6 q3
  refine Par.bd (E_m_learns _ hK w tm l3 l4 (o2F k j) 2 (Or.inr ⟨rfl, hy⟩) hx ⟨hk4, hj4⟩ imany a1 a2 0 isec heaps alev astm asm avls abke abko abkl acel atap atpl sen hpo hpm bgn chn sgt D M N dp hs hD hF hN hV (by decide) ub hub hU) (fun r hr => Par.ret ?_)
  obtain ⟨g1, g2, g3⟩ := LnS.al hr hV (Or.inr rfl)
  rw [← hQ]
  refine Or.inr ⟨⟨q1, q2, q3⟩, k, j, hx, hk, hy, hj, ?_⟩
  show (r.2.2.2.1).toInt = _
  rw [g2, ndQ_cg (fun _ _ _ _ => Lk_2)]
