/-! the reference: pairs that are told apart; safe, pair -/
theorem cnt_two {P : Nat → Prop} {a b : Nat} (ha : P a) (hb : P b) (hab : a < b) : ∀ n : Nat, b < n → 2 ≤ cntQ P n := by
  intro n
  induction n with
  | zero => intro h; exact absurd h (Nat.not_lt_zero _)
  | succ n ih =>
    intro h
    by_cases e : b = n
    · subst e
      rw [cntQ_y hb]
      have := cnt_pos ha b hab
      omega
    · have h1 := ih (by omega)
      rcases Classical.em (P n) with h2 | h2
      · rw [cntQ_y h2]; omega
      · rw [cntQ_n h2]; exact h1
theorem cnt_none {P : Nat → Prop} : ∀ n : Nat, (∀ k : Nat, k < n → ¬ P k) → cntQ P n = 0 := by
  intro n
  induction n with
  | zero => intro _; rfl
  | succ n ih => intro h; rw [cntQ_n (h n (by omega)), ih (fun k hk => h k (by omega))]
theorem cnt_le1 {P : Nat → Prop} : ∀ n : Nat, (∀ k : Nat, k < n → P k → k = 0) → cntQ P n ≤ 1 := by
  intro n
  induction n with
  | zero => intro _; exact Nat.zero_le _
  | succ n ih =>
    intro h
    have h1 := ih (fun k hk => h k (by omega))
    rcases Classical.em (P n) with h2 | h2
    · have e := h n (by omega) h2
      subst e
      rw [cntQ_y h2]
      exact Nat.le_refl _
    · rw [cntQ_n h2]; exact h1
/-- one heap alone: all are with 0 -/
theorem nd_one {R : Nat → Nat → Prop} (hrf : ∀ a : Nat, R a a) (hsy : ∀ a b : Nat, R a b → R b a) (htr : ∀ a b c : Nat, R a b → R b c → R a c) {n : Nat} : ndQ R n ≤ 1 ↔ ∀ s : Nat, s < n → R 0 s := by
  constructor
  · intro h s hs
    rcases Classical.em (R 0 s) with c | c
    · exact c
    · exfalso
      -- the least one that is not with 0
      have key : ∀ m : Nat, m ≤ n → (∀ i : Nat, i < m → R 0 i) ∨ ∃ r : Nat, r < m ∧ ¬ R 0 r ∧ ∀ i : Nat, i < r → R 0 i := by
        intro m
        induction m with
        | zero => intro _; exact Or.inl (fun i hi => absurd hi (Nat.not_lt_zero _))
        | succ m ih =>
          intro hm
          rcases ih (by omega) with h1 | ⟨r, h1, h2⟩
          · rcases Classical.em (R 0 m) with h9 | h9
            · refine Or.inl (fun i hi => ?_)
              by_cases e : i = m
              · rw [e]; exact h9
              · exact h1 i (by omega)
            · exact Or.inr ⟨m, by omega, h9, h1⟩
          · exact Or.inr ⟨r, by omega, h2⟩
      rcases key n (Nat.le_refl _) with h1 | ⟨r, h1, h2, h3⟩
      · exact c (h1 s hs)
      · have hr0 : 0 < r := by
          rcases Nat.eq_zero_or_pos r with e | e
          · rw [e] at h2; exact absurd (hrf 0) h2
          · exact e
        have h4 : 2 ≤ ndQ R n := cnt_two (P := fun s => ∀ j : Nat, j < s → ¬ R j s) (a := 0) (b := r) (fun j hj => absurd hj (Nat.not_lt_zero _)) (fun j hj h9 => h2 (htr 0 j r (h3 j hj) h9)) hr0 n h1
        omega
  · intro h
    refine cnt_le1 n (fun k hk h9 => ?_)
    rcases Nat.eq_zero_or_pos k with e | e
    · exact e
    · exact absurd (h k hk) (h9 0 e)
section PAIRS
variable (D : List SRc) (M N : Nat → Nat) (wo w t : Int32) (bs : List Bool)
/-- numbers o tell nothing -/
def QuO (o : Nat) : Prop := ∀ s : Nat, s < 4 ^ cnB (ntB bs) → HpR D M N wo w t bs o 0 s
def SafX : Prop := ∀ o : Nat, o < 4 ^ cnB bs → QuO D M N wo w t bs o
/-- the first that do -/
def FstO (o : Nat) : Prop := o < 4 ^ cnB bs ∧ ¬ QuO D M N wo w t bs o ∧ ∀ j : Nat, j < o → QuO D M N wo w t bs j
/-- the first secret that is told from 0 -/
def FstS (o s : Nat) : Prop := s < 4 ^ cnB (ntB bs) ∧ ¬ HpR D M N wo w t bs o 0 s ∧ ∀ j : Nat, j < s → HpR D M N wo w t bs o 0 j
end PAIRS
theorem FstO_u {D : List SRc} {M N : Nat → Nat} {wo w t : Int32} {bs : List Bool} {o o2 : Nat} (h : FstO D M N wo w t bs o) (k : FstO D M N wo w t bs o2) : o = o2 := by
  rcases Nat.lt_trichotomy o o2 with c | c | c
  · exact absurd (k.2.2 o c) h.2.1
  · exact c
  · exact absurd (h.2.2 o2 c) k.2.1
theorem FstS_u {D : List SRc} {M N : Nat → Nat} {wo w t : Int32} {bs : List Bool} {o s s2 : Nat} (h : FstS D M N wo w t bs o s) (k : FstS D M N wo w t bs o s2) : s = s2 := by
  rcases Nat.lt_trichotomy s s2 with c | c | c
  · exact absurd (k.2.2 s c) h.2.1
  · exact c
  · exact absurd (h.2.2 s2 c) k.2.1
theorem FstO_ns {D : List SRc} {M N : Nat → Nat} {wo w t : Int32} {bs : List Bool} {o : Nat} (h : FstO D M N wo w t bs o) : ¬ SafX D M N wo w t bs := fun k => h.2.1 (k o h.1)
abbrev R18 : Type := Int32 × Int32 × Int32 × Int32 × Int32 × (Nat → Int32) × (Nat → Int32) × (Nat → Int32) × (Nat → Int32) × (Nat → Int32) × (Nat → Int32) × (Nat → Int32) × (Nat → Int64) × (Nat → Int32) × (Nat → Int32) × (Nat → Int32) × (Nat → Int32) × (Nat → Int64)
def PofQ (D : List SRc) (M N : Nat → Nat) (wo w t : Int32) (bs : List Bool) (r : R18) : Prop := (r.1 = -9 ∧ SafX D M N wo w t bs) ∨ ∃ o : Nat, r.1 = Int32.ofNat o ∧ FstO D M N wo w t bs o ∧ ∀ s : Nat, s < 4 ^ cnB (ntB bs) → (r.2.2.2.2.2.2.2.2.2.2.2.2.2.1 s = 0 ↔ HpR D M N wo w t bs o 0 s)
set_option maxHeartbeats 4000000 in
theorem E_m_pairOf (K : Nat) (hK : 1000000000 ≤ K) (w tm : Int32) (imany a1 a2 wo isec heaps : Int32) (alev astm asm avls abke abko abkl acel atap atpl : Nat → Int32) (sen : Nat → Int64) (hpo hpm bgn chn : Nat → Int32) (sgt : Nat → Int64) (D : List SRc) (M N dp : Nat → Nat) (hs : imany.toInt = (D.length : Int)) (hD : D.length ≤ 30) (hF : FRw astm asm D M N) (hN : NsT D M N dp) (hV : VlD D) (hwo : 0 ≤ wo.toInt) (ub : List Bool) (hub : ub.length = 6) (hU : UsD D (fun c => ub[c]? = some true)) : Par (F_m_pairOf K w tm imany a1 a2 wo isec heaps alev astm asm avls abke abko abkl acel atap atpl sen hpo hpm bgn chn sgt) (PofQ D M N wo w tm (wiL alev w)) := by
  have hb6 := wiL_len alev w
  obtain ⟨hO4, hO1⟩ := p4_le hb6
  obtain ⟨hS4, hS1⟩ := p4_le (ntB_len hb6)
  unfold F_m_pairOf
  obtain ⟨n, rfl⟩ : ∃ n9, K = n9 + 1 := ⟨K - 1, by omega⟩
  rw [L_m_pairOf_e0]; unfold B_m_pairOf_0
  refine Par.bd (E_m_cells _ hK w 1 alev (wiL alev w) hb6 (wi_y alev w)) (fun o1 h1 => ?_)
  subst h1
  rw [p4_e hb6]
  have hOi : (Int32.ofNat (4 ^ cnB (wiL alev w))).toInt = ((4 ^ cnB (wiL alev w) : Nat) : Int) := ofn_i _ (by omega)
  have key : ∀ (q o : Nat) (a1 a2 isec heaps : Int32) (avls abke abko abkl acel atap atpl : Nat → Int32) (sen : Nat → Int64) (hpo hpm bgn chn : Nat → Int32) (sgt : Nat → Int64), o ≤ 4 ^ cnB (wiL alev w) → (∀ j : Nat, j < o → QuO D M N wo w tm (wiL alev w) j) → Par (L_m_pairOf (n + 1) q 1 w tm (Int32.ofNat (4 ^ cnB (wiL alev w))) (Int32.ofNat o) imany a1 a2 wo isec heaps alev astm asm avls abke abko abkl acel atap atpl sen hpo hpm bgn chn sgt) (PofQ D M N wo w tm (wiL alev w)) := by
    intro q
    induction q using Nat.strongRecOn with
    | _ q ih =>
    intro o a1 a2 isec heaps avls abke abko abkl acel atap atpl sen hpo hpm bgn chn sgt hoO hq
    have hoi : (Int32.ofNat o).toInt = (o : Int) := ofn_i o (by omega)
    cases q with
    | zero => exact Par.no
    | succ q =>
      rw [L_m_pairOf_e1]; unfold B_m_pairOf_1
      refine Par.br (fun h => Par.ret (Or.inl ⟨rfl, fun j hj => hq j ?_⟩)) (fun h => ?_)
      · rw [Int32.le_iff_toInt_le, hOi, hoi] at h
        omega
      · rw [Int32.le_iff_toInt_le, hOi, hoi] at h
        refine Par.bd (E_m_learns _ hK w tm (Int32.ofNat o) (-1) (o1F o) 1 (Or.inl ⟨rfl, rfl⟩) rfl ⟨(show o < 4096 by omega), (show o < 4096 by omega)⟩ imany a1 a2 wo isec heaps alev astm asm avls abke abko abkl acel atap atpl sen hpo hpm bgn chn sgt D M N dp hs hD hF hN hV hwo ub hub hU) (fun r hr => ?_)
        obtain ⟨g1, g2, g3⟩ := LnS.al hr hV (Or.inl rfl)
        have hnd : ndQ (LkR D M N wo w tm (wiL alev w) (o1F o) 1) (4 ^ cnB (ntB (wiL alev w))) = ndQ (HpR D M N wo w tm (wiL alev w) o) (4 ^ cnB (ntB (wiL alev w))) := ndQ_cg (fun _ _ _ _ => Lk_1)
        rw [hnd] at g2
        have h1 := nd_one (R := HpR D M N wo w tm (wiL alev w) o) (n := 4 ^ cnB (ntB (wiL alev w))) (fun a => SAl_rf _) (fun a b h => SAl_sy h) (fun a b c h k => SAl_tr h k)
        refine Par.br (fun hle => ?_) (fun hgt => ?_)
        · rw [Int32.le_iff_toInt_le, g2] at hle
          simp only [Int32.reduceToInt] at hle
          rw [of_s o (by omega)]
          refine ih q (by omega) (o + 1) _ _ _ _ _ _ _ _ _ _ _ _ _ _ _ _ _ (by omega) (fun j hj => ?_)
          by_cases e : j = o
          · rw [e]; exact h1.mp (by omega)
          · exact hq j (by omega)
        · rw [Int32.le_iff_toInt_le, g2] at hgt
          simp only [Int32.reduceToInt] at hgt
          refine Par.ret (Or.inr ⟨o, rfl, ⟨by omega, fun h9 => ?_, hq⟩, fun s hs9 => ?_⟩)
          · have := h1.mpr h9
            omega
          · obtain ⟨rp, p1, p2, p3, p4, _⟩ := g3 s hs9
            show r.2.2.2.2.2.2.2.2.2.2.2.2.1 s = 0 ↔ _
            constructor
            · intro e
              rw [e] at p2
              have c0 : (0 : Int32).toInt = 0 := by decide
              have : rp = 0 := by omega
              rw [this] at p3
              exact Lk_1.mp p3
            · intro h9
              refine Int32.toInt_inj.mp ?_
              rw [p2]
              rcases Nat.eq_zero_or_pos rp with e | e
              · rw [e]; rfl
              · exact absurd (Lk_1.mpr h9) (p4 0 e)
  exact key n 0 _ _ _ _ _ _ _ _ _ _ _ _ _ _ _ _ _ (Nat.zero_le _) (fun j hj => absurd hj (Nat.not_lt_zero _))
section PAIRP
variable (D : List SRc) (M N : Nat → Nat) (w t : Int32) (bs : List Bool)
def SfeP (r : Int32) : Prop := (r = 1 ∧ SafX D M N 0 w t bs) ∨ (r = 0 ∧ ¬ SafX D M N 0 w t bs)
def PaiP (what r : Int32) : Prop := (r = -9 ∧ SafX D M N 0 w t bs) ∨ ∃ o : Nat, FstO D M N 0 w t bs o ∧ ((what = 0 ∧ r = Int32.ofNat o) ∨ (what = 1 ∧ ∃ s : Nat, FstS D M N 0 w t bs o s ∧ r = Int32.ofNat s))
end PAIRP
theorem SfeP_u {D : List SRc} {M N : Nat → Nat} {w t : Int32} {bs : List Bool} {r q : Int32} (h : SfeP D M N w t bs r) (k : SfeP D M N w t bs q) : r = q := by
  rcases h with ⟨h1, h2⟩ | ⟨h1, h2⟩
  · rcases k with ⟨k1, k2⟩ | ⟨k1, k2⟩
    · rw [h1, k1]
    · exact absurd h2 k2
  · rcases k with ⟨k1, k2⟩ | ⟨k1, k2⟩
    · exact absurd k2 h2
    · rw [h1, k1]
theorem PaiP_u {D : List SRc} {M N : Nat → Nat} {w t : Int32} {bs : List Bool} {what r q : Int32} (h : PaiP D M N w t bs what r) (k : PaiP D M N w t bs what q) : r = q := by
  rcases h with ⟨h1, h2⟩ | ⟨o, h1, h2⟩
  · rcases k with ⟨k1, k2⟩ | ⟨o2, k1, k2⟩
    · rw [h1, k1]
    · exact absurd h2 (FstO_ns k1)
  · rcases k with ⟨k1, k2⟩ | ⟨o2, k1, k2⟩
    · exact absurd k2 (FstO_ns h1)
    · have e := FstO_u h1 k1
      subst e
      rcases h2 with ⟨a1, a2⟩ | ⟨a1, s, a2, a3⟩
      · rcases k2 with ⟨b1, b2⟩ | ⟨b1, _⟩
        · rw [a2, b2]
        · exact absurd (a1.symm.trans b1) (by decide)
      · rcases k2 with ⟨b1, b2⟩ | ⟨b1, s2, b2, b3⟩
        · exact absurd (b1.symm.trans a1) (by decide)
        · rw [a3, b3, FstS_u a2 b2]
set_option maxHeartbeats 4000000 in
theorem E_m_safe (K : Nat) (hK : 1000000000 ≤ K) (w tm th : Int32) (imany a1 a2 ip isec heaps : Int32) (alev astm asm avls abke abko abkl acel atap atpl : Nat → Int32) (sen : Nat → Int64) (hpo hpm bgn chn : Nat → Int32) (sgt : Nat → Int64) (D : List SRc) (M N dp : Nat → Nat) (hs : imany.toInt = (D.length : Int)) (hD : D.length ≤ 30) (hF : FRw astm asm D M N) (hN : NsT D M N dp) (hV : VlD D) (ub : List Bool) (hub : ub.length = 6) (hU : UsD D (fun c => ub[c]? = some true)) : Par (F_m_safe K w tm th imany a1 a2 ip isec heaps alev astm asm avls abke abko abkl acel atap atpl sen hpo hpm bgn chn sgt) (fun r => (¬ AsP w tm ∧ r.1 = -1) ∨ (AsP w tm ∧ SfeP D M N w tm (wiL alev w) r.1)) := by
  unfold F_m_safe
  obtain ⟨n, rfl⟩ : ∃ n9, K = n9 + 1 := ⟨K - 1, by omega⟩
  rw [L_m_safe_e0]; unfold B_m_safe_0
  refine Par.bd (E_m_isAsked _ hK w tm) (fun o1 h1 => ?_)
  rcases h1 with ⟨e1, q1⟩ | ⟨e1, q1⟩
  rotate_left
  · exact Par.yes e1 (Par.ret (Or.inl ⟨q1, rfl⟩))
  refine Par.not (by rw [e1]; decide) ?_
  refine Par.bd (E_m_pairOf _ hK w tm imany a1 a2 0 isec heaps alev astm asm avls abke abko abkl acel atap atpl sen hpo hpm bgn chn sgt D M N dp hs hD hF hN hV (by decide) ub hub hU) (fun r hr => ?_)
  obtain ⟨hO4, _⟩ := p4_le (wiL_len alev w)
  rcases hr with ⟨r1, r2⟩ | ⟨o, r1, r2, r3⟩
  · exact Par.yes r1 (Par.ret (Or.inr ⟨q1, Or.inl ⟨rfl, r2⟩⟩))
  · refine Par.not ?_ (Par.ret (Or.inr ⟨q1, Or.inr ⟨rfl, FstO_ns r2⟩⟩))
    rw [r1]
    intro e
    have e9 := congrArg Int32.toInt e
    have := r2.1
    rw [ofn_i _ (by omega)] at e9
    simp only [Int32.reduceToInt] at e9
    omega
set_option maxHeartbeats 4000000 in
theorem E_m_pair (K : Nat) (hK : 1000000000 ≤ K) (w tm l3 th : Int32) (imany a1 a2 ip isec heaps : Int32) (alev astm asm avls abke abko abkl acel atap atpl : Nat → Int32) (sen : Nat → Int64) (hpo hpm bgn chn : Nat → Int32) (sgt : Nat → Int64) (D : List SRc) (M N dp : Nat → Nat) (hs : imany.toInt = (D.length : Int)) (hD : D.length ≤ 30) (hF : FRw astm asm D M N) (hN : NsT D M N dp) (hV : VlD D) (ub : List Bool) (hub : ub.length = 6) (hU : UsD D (fun c => ub[c]? = some true)) : Par (F_m_pair K w tm l3 th imany a1 a2 ip isec heaps alev astm asm avls abke abko abkl acel atap atpl sen hpo hpm bgn chn sgt) (fun r => (¬ (AsP w tm ∧ (l3 = 0 ∨ l3 = 1)) ∧ r.1 = -1) ∨ ((AsP w tm ∧ (l3 = 0 ∨ l3 = 1)) ∧ PaiP D M N w tm (wiL alev w) l3 r.1)) := by
  unfold F_m_pair
  obtain ⟨n, rfl⟩ : ∃ n9, K = n9 + 1 := ⟨K - 1, by omega⟩
  rw [L_m_pair_e0]; unfold B_m_pair_0
  generalize hQ : (fun r : R20 => (¬ (AsP w tm ∧ (l3 = 0 ∨ l3 = 1)) ∧ r.1 = -1) ∨ ((AsP w tm ∧ (l3 = 0 ∨ l3 = 1)) ∧ PaiP D M N w tm (wiL alev w) l3 r.1)) = Q
  have one : ¬ (AsP w tm ∧ (l3 = 0 ∨ l3 = 1)) → ∀ (l4 l5 th imany a1 a2 ip isec heaps : Int32) (avls abke abko abkl acel atap atpl : Nat → Int32) (sen : Nat → Int64) (hpo hpm bgn chn : Nat → Int32) (sgt : Nat → Int64), Par (L_m_pair (n + 1) n 1 w tm l3 l4 l5 th imany a1 a2 ip isec heaps alev astm asm avls abke abko abkl acel atap atpl sen hpo hpm bgn chn sgt) Q := by
    intro h
    intros
    cases n with
    | zero => exact Par.no
    | succ n => rw [L_m_pair_e1]; unfold B_m_pair_1; rw [← hQ]; exact Par.ret (Or.inl ⟨h, rfl⟩)
  refine Par.bd (E_m_isAsked _ hK w tm) (fun o1 h1 => ?_)
  rcases h1 with ⟨e1, q1⟩ | ⟨e1, q1⟩
  rotate_left
  · exact Par.yes e1 (one (fun h => q1 h.1) _ _ _ _ _ _ _ _ _ _ _ _ _ _ _ _ _ _ _ _ _ _)
  refine Par.not (by rw [e1]; decide) ?_
  refine Par.bd (E_m_in _ hK l3 0 1) (fun o3 h3 => ?_)
  have c0 : (0 : Int32).toInt = 0 := by decide
  have c1 : (1 : Int32).toInt = 1 := by decide
  rw [c0, c1] at h3
  rcases h3 with ⟨e3, q3⟩ | ⟨e3, q3⟩
  rotate_left
  · exact Par.yes e3 (one (fun h => q3 ((two_i l3).mpr h.2)) _ _ _ _ _ _ _ _ _ _ _ _ _ _ _ _ _ _ _ _ _ _)
  refine Par.not (by rw [e3]; decide) ?_
  have hall : AsP w tm ∧ (l3 = 0 ∨ l3 = 1) := ⟨q1, (two_i l3).mp q3⟩
  refine Par.bd (E_m_pairOf _ hK w tm imany a1 a2 0 isec heaps alev astm asm avls abke abko abkl acel atap atpl sen hpo hpm bgn chn sgt D M N dp hs hD hF hN hV (by decide) ub hub hU) (fun r hr => ?_)
  obtain ⟨hO4, _⟩ := p4_le (wiL_len alev w)
  obtain ⟨hS4, _⟩ := p4_le (ntB_len (wiL_len alev w))
  have two : ∀ (l5 th imany a1 a2 ip isec heaps : Int32) (avls abke abko abkl acel atap atpl : Nat → Int32) (sen : Nat → Int64) (hpo hpm bgn chn : Nat → Int32) (sgt : Nat → Int64), PaiP D M N w tm (wiL alev w) l3 r.1 → Par (L_m_pair (n + 1) n 2 w tm l3 r.1 l5 th imany a1 a2 ip isec heaps alev astm asm avls abke abko abkl acel atap atpl sen hpo hpm bgn chn sgt) Q := by
    intros
    rename_i h
    cases n with
    | zero => exact Par.no
    | succ n => rw [L_m_pair_e2]; unfold B_m_pair_2; rw [← hQ]; exact Par.ret (Or.inr ⟨hall, h⟩)
  rcases hr with ⟨r1, r2⟩ | ⟨o, r1, r2, r3⟩
  · refine Par.br (fun h0 => ?_) (fun h0 => Par.yes r1 ?_)
    · exact two _ _ _ _ _ _ _ _ _ _ _ _ _ _ _ _ _ _ _ _ _ (Or.inl ⟨r1, r2⟩)
    · exact two _ _ _ _ _ _ _ _ _ _ _ _ _ _ _ _ _ _ _ _ _ (Or.inl ⟨r1, r2⟩)
  · refine Par.br (fun h0 => ?_) (fun h0 => Par.not ?_ ?_)
    · exact two _ _ _ _ _ _ _ _ _ _ _ _ _ _ _ _ _ _ _ _ _ (Or.inr ⟨o, r2, Or.inl ⟨h0, r1⟩⟩)
    · rw [r1]
      intro e
      have e9 := congrArg Int32.toInt e
      have := r2.1
      rw [ofn_i _ (by omega)] at e9
      simp only [Int32.reduceToInt] at e9
      omega
    · have hex : ∃ s : Nat, s < 4 ^ cnB (ntB (wiL alev w)) ∧ ¬ HpR D M N 0 w tm (wiL alev w) o 0 s := by
        rcases Classical.em (∃ s : Nat, s < 4 ^ cnB (ntB (wiL alev w)) ∧ ¬ HpR D M N 0 w tm (wiL alev w) o 0 s) with h | h
        · exact h
        · refine absurd (fun s hs9 => ?_) r2.2.1
          rcases Classical.em (HpR D M N 0 w tm (wiL alev w) o 0 s) with h9 | h9
          · exact h9
          · exact absurd ⟨s, hs9, h9⟩ h
      obtain ⟨s1, hs1, hn1⟩ := hex
      have loop : ∀ (q s : Nat) (l5 th imany a1 a2 ip isec heaps : Int32) (avls abke abko abkl acel atap atpl : Nat → Int32) (sen : Nat → Int64) (hpm bgn chn : Nat → Int32) (sgt : Nat → Int64), l5.toInt = (s : Int) → (∀ j : Nat, j < s → HpR D M N 0 w tm (wiL alev w) o 0 j) → Par (L_m_pair (n + 1) q 3 w tm l3 r.1 l5 th imany a1 a2 ip isec heaps alev astm asm avls abke abko abkl acel atap atpl sen r.2.2.2.2.2.2.2.2.2.2.2.2.2.1 hpm bgn chn sgt) Q := by
        intro q
        induction q using Nat.strongRecOn with
        | _ q ih =>
        intro s l5 th imany a1 a2 ip isec heaps avls abke abko abkl acel atap atpl sen hpm bgn chn sgt h5 hpre
        have hss : s ≤ s1 := by
          rcases Nat.lt_or_ge s1 s with c | c
          · exact absurd (hpre s1 c) hn1
          · exact c
        cases q with
        | zero => exact Par.no
        | succ q =>
          rw [L_m_pair_e3]; unfold B_m_pair_3
          refine Par.br (fun _ => ?_) (fun _ => Par.no)
          rw [cl1 l5 s h5]
          refine Par.br (fun hz => ?_) (fun hz => Par.ret ?_)
          · refine ih q (by omega) (s + 1) _ _ _ _ _ _ _ _ _ _ _ _ _ _ _ _ _ _ _ _ (ad1 l5 s h5 (by omega)) (fun j hj => ?_)
            by_cases e : j = s
            · rw [e]; exact (r3 s (by omega)).mp hz
            · exact hpre j (by omega)
          · rw [← hQ]
            refine Or.inr ⟨hall, Or.inr ⟨o, r2, Or.inr ⟨hall.2.resolve_left h0, s, ⟨by omega, fun h9 => hz ((r3 s (by omega)).mpr h9), hpre⟩, ?_⟩⟩⟩
            exact Int32.toInt_inj.mp (by rw [h5, ofn_i s (by omega)])
      exact loop n 0 0 _ _ _ _ _ _ _ _ _ _ _ _ _ _ _ _ _ _ _ rfl (fun j hj => absurd hj (Nat.not_lt_zero _))
