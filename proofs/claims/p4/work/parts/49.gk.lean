/-! p3: the reference's reading of statements goes with the machine -/
abbrev R16 : Type := Int32 × Int32 × Int32 × Int32 × Int32 × Int32 × Int32 × Int32 × Int32 × Int32 × Int32 × (Nat → Int32) × (Nat → Int32) × (Nat → Int32) × (Nat → Int32) × (Nat → Int32)
theorem adC (x c : Int32) (a b : Int) (hx : x.toInt = a) (hc : c.toInt = b) (h0 : -2147483648 ≤ a + b) (h1 : a + b < 2147483648) : (x + c).toInt = a + b := by
  rw [Int32.toInt_add, hx, hc]; exact bmI h0 h1
theorem clN (x : Int32) (a : Nat) (h : x.toInt = (a : Int)) : x.toNatClampNeg = a := cl1 x a h
theorem a8 (x : Int32) (d : Nat) (h : x.toInt = (d : Int)) (hd : d ≤ 60) : (240 + 8 * x).toInt = ((240 + 8 * d : Nat) : Int) := by
  have h8 : (8 * x).toInt = 8 * (d : Int) := by
    rw [Int32.toInt_mul, h]
    simp only [Int32.reduceToInt]
    exact bmI (by omega) (by omega)
  rw [adC 240 (8 * x) 240 (8 * (d : Int)) (by decide) h8 (by omega) (by omega)]
  omega
theorem adN (x c : Int32) (a b : Nat) (hx : x.toInt = (a : Int)) (hc : c.toInt = (b : Int)) (h1 : a + b < 1000000) : (x + c).toNatClampNeg = a + b := by
  refine clN _ _ ?_
  rw [adC x c (a : Int) (b : Int) hx hc (by omega) (by omega)]
  omega
def KDr (D : List Int32) (astm : Nat → Int32) : Prop := ∀ (i : Nat) (x : Int32), D[i]? = some x → astm (240 + 8 * i) = x
theorem KDr.up {D : List Int32} {astm : Nat → Int32} (h : KDr D astm) {p : Nat} (x : Int32) (hp : ∀ i : Nat, i < D.length → p ≠ 240 + 8 * i) : KDr D (upd astm p x) := by
  intro i y hy
  have hi : i < D.length := by
    rcases Nat.lt_or_ge i D.length with h9 | h9
    · exact h9
    · rw [List.getElem?_eq_none h9] at hy; cases hy
  rw [upd_ne astm x (fun e => hp i hi e.symm)]
  exact h i y hy
theorem KDr.snoc {D : List Int32} {astm : Nat → Int32} (h : KDr D astm) (x : Int32) : KDr (D ++ [x]) (upd astm (240 + 8 * D.length) x) := by
  intro i y hy
  rcases Nat.lt_or_ge i D.length with h9 | h9
  · rw [List.getElem?_append_left h9] at hy
    rw [upd_ne astm x (by omega)]
    exact h i y hy
  · rw [List.getElem?_append_right h9] at hy
    have h0 : i = D.length := by
      by_cases h8 : i - D.length = 0
      · omega
      · rw [List.getElem?_eq_none (by simp; omega)] at hy; cases hy
    subst h0
    rw [upd_eq]
    simpa using hy
theorem Rtq.tk {k v tok val : Int32} (h : Rtq k v tok val) : (tok = 0 ↔ k = 0) ∧ (tok = 1 ↔ k = 4) ∧ (tok = 2 ↔ k = 5) ∧ (tok = 3 ↔ k = 6) ∧ (tok = 4 ↔ k = 7) := by
  rcases h with ⟨h9, h8⟩ | ⟨h9, h8⟩ | ⟨h9, h8, h7⟩ | ⟨h9, h8, h7⟩ | ⟨h9, h8⟩ | ⟨h9, h8⟩ | ⟨h9, h8⟩ | ⟨h9, h8⟩ | ⟨h8, h9, h7⟩
  all_goals (try subst h9); (try subst h8)
  all_goals (first | decide | skip)
  refine ⟨?_, ?_, ?_, ?_, ?_⟩ <;> refine ⟨fun h => absurd h (by decide), fun h => ?_⟩ <;> (exfalso; rw [h] at h7; revert h7; unfold sgq; decide)
theorem E_m_begins (K : Nat) (hK : 1000000000 ≤ K) (w num idr : Int32) (astm : Nat → Int32) (D : List Int32) (hd : idr.toInt = (D.length : Int)) (hD : D.length < 30) (hk : KDr D astm) :
    Par (F_m_begins K w num idr astm) (fun r => r.1.toInt = ((240 + 8 * D.length : Nat) : Int) ∧ r.2.1.toInt = ((D ++ [w]).length : Int) ∧ KDr (D ++ [w]) r.2.2) := by
  unfold F_m_begins
  obtain ⟨n, rfl⟩ : ∃ n9, K = n9 + 1 := ⟨K - 1, by omega⟩
  rw [L_m_begins_e0]; unfold B_m_begins_0
  have ha := a8 idr D.length hd (by omega)
  refine Par.br (fun _ => Par.br (fun _ => Par.br (fun _ => Par.br (fun _ => Par.br (fun _ => Par.ret ⟨ha, ?_, ?_⟩) (fun _ => Par.no)) (fun _ => Par.no)) (fun _ => Par.no)) (fun _ => Par.no)) (fun _ => Par.no)
  · show (idr + 1).toInt = _
    rw [ad1 idr D.length hd (by omega), List.length_append, List.length_singleton]
  · show KDr (D ++ [w]) (upd (upd (upd (upd (upd astm (240 + 8 * idr).toNatClampNeg w) (240 + 8 * idr + 1).toNatClampNeg num) (240 + 8 * idr + 3).toNatClampNeg 0) (240 + 8 * idr + 4).toNatClampNeg 0) (240 + 8 * idr + 5).toNatClampNeg 0)
    rw [adN _ 1 _ 1 ha (by decide) (by omega), adN _ 3 _ 3 ha (by decide) (by omega), adN _ 4 _ 4 ha (by decide) (by omega), adN _ 5 _ 5 ha (by decide) (by omega), clN _ _ ha]
    exact ((((hk.snoc w).up num (fun i hi => by omega)).up 0 (fun i hi => by omega)).up 0 (fun i hi => by omega)).up 0 (fun i hi => by omega)
def StkO : List (Nat × Bool) → (Nat → Int32) → (Nat → Int32) → Nat → Nat → Prop
  | [], _, _, _, h => h = 0
  | (i, b) :: S, an, ap, d, h => ∃ h', h = h' + 1 ∧ (an h').toInt = ((240 + 8 * i : Nat) : Int) ∧ (ap h' = if b = true then 1 else 0) ∧ i < d ∧ StkO S an ap d h'
theorem StkO.len : ∀ {S : List (Nat × Bool)} {an ap : Nat → Int32} {d h : Nat}, StkO S an ap d h → h = S.length := by
  intro S
  induction S with
  | nil => intro an ap d h hs; exact hs
  | cons x S ih =>
    intro an ap d h hs
    obtain ⟨h', h1, _, _, _, h3⟩ := hs
    rw [h1, ih h3]; rfl
theorem StkO.ups : ∀ {S : List (Nat × Bool)} {an ap : Nat → Int32} {d e h m : Nat} {y z : Int32}, StkO S an ap d h → h ≤ m → d ≤ e → StkO S (upd an m y) (upd ap m z) e h := by
  intro S
  induction S with
  | nil => intro an ap d e h m y z hs _ _; exact hs
  | cons x S ih =>
    intro an ap d e h m y z hs hm hde
    obtain ⟨h', h1, h2, h3, h4, h5⟩ := hs
    exact ⟨h', h1, by rw [upd_ne an y (by omega)]; exact h2, by rw [upd_ne ap z (by omega)]; exact h3, by omega, ih h5 (by omega) hde⟩
theorem StkO.mono : ∀ {S : List (Nat × Bool)} {an ap : Nat → Int32} {d e h : Nat}, StkO S an ap d h → d ≤ e → StkO S an ap e h := by
  intro S
  induction S with
  | nil => intro an ap d e h hs _; exact hs
  | cons x S ih =>
    intro an ap d e h hs hde
    obtain ⟨h', h1, h2, h3, h4, h5⟩ := hs
    exact ⟨h', h1, h2, h3, by omega, ih h5 hde⟩
theorem StkO.part {S : List (Nat × Bool)} {an ap : Nat → Int32} {d h m : Nat} {z : Int32} (hs : StkO S an ap d h) (hm : h ≤ m) : StkO S an (upd ap m z) d h := by
  have := hs.ups (m := m) (y := an m) (z := z) hm (Nat.le_refl d)
  have he : upd an m (an m) = an := by funext x; unfold upd; split <;> simp_all
  rw [he] at this
  exact this
section TAKES
variable {K E : Nat} {k v nx : Nat → Int32} {ityped inext itoken iplace ivalue ifault : Int32} {atxt : Nat → Int32} {j : Nat}
theorem E_m_takesSign (hK : 1000000000 ≤ K) (hS : STR2 E k v) (hj : j ≤ E) (hR : RStq K E ityped atxt k v nx) (hT : RTk k v nx j inext itoken iplace ivalue) (hw : ifault.toInt < 0) (c : Int32) (hc : sgq c) :
    Par (F_m_takesSign K c ityped inext itoken iplace ivalue ifault atxt) (fun r => (k j = c ∧ RTk k v nx (j + 1) r.1 r.2.1 r.2.2.1 r.2.2.2.1 ∧ r.2.2.2.2 = ifault) ∨ (k j ≠ c ∧ 0 ≤ r.2.2.2.2.toInt ∧ 0 ≤ r.2.2.1.toInt)) := by
  unfold F_m_takesSign
  obtain ⟨n, hn⟩ : ∃ n9, K = n9 + 1 := ⟨K - 1, by omega⟩
  generalize hz : L_m_takesSign K K 0 c ityped inext itoken iplace ivalue ifault atxt = z
  have hz2 : z = L_m_takesSign K (n + 1) 0 c ityped inext itoken iplace ivalue ifault atxt := by rw [← hn, hz]
  rw [hz2, L_m_takesSign_e0]; unfold B_m_takesSign_0
  refine Par.bd (T_m_isSign K hK c itoken ivalue ifault True.intro).pr (fun q hq => ?_)
  rcases hq with ⟨e1, _, e2, e3⟩ | ⟨e1, e2⟩
  · refine Par.not (by rw [e1]; decide) ?_
    have hk := (hT.2.1.sign c hc).mp ⟨e2, e3⟩
    have hk0 : k j ≠ 0 ∧ k j ≠ 1 := by rw [hk]; rcases hc with h | h | h | h | h | h | h | h | h | h | h | h <;> rw [h] <;> decide
    refine Par.bd (hR.adv hS hj hT hk0) (fun p hp => Par.ret (Or.inl ⟨hk, hp, rfl⟩))
  · refine Par.yes e1 ?_
    refine Par.bd (T_m_fails K hK iplace ifault hT.2.2).pr (fun p hp => Par.ret (Or.inr ⟨fun h => ?_, hp, hT.2.2⟩))
    have := (hT.2.1.sign c hc).mpr h
    rcases e2 with e2 | e2 | e2
    · omega
    · exact e2 this.1
    · exact e2 this.2
theorem E_m_failsF (hK : 1000000000 ≤ K) (h : 0 ≤ ifault.toInt ∨ 0 ≤ iplace.toInt) : Par (F_m_fails K iplace ifault) (fun r => 0 ≤ r.toInt) := by
  rcases h with h | h
  · unfold F_m_fails
    obtain ⟨n, hn⟩ : ∃ n9, K = n9 + 1 := ⟨K - 1, by omega⟩
    generalize hz : L_m_fails K K 0 0 iplace ifault = z
    have hz2 : z = L_m_fails K (n + 1) 0 0 iplace ifault := by rw [← hn, hz]
    rw [hz2, L_m_fails_e0]; unfold B_m_fails_0
    refine Par.yes (by rw [Int32.le_iff_toInt_le]; exact h) ?_
    cases n with
    | zero => exact Par.no
    | succ n => rw [L_m_fails_e1]; unfold B_m_fails_1; exact Par.ret h
  · exact (T_m_fails K hK iplace ifault h).pr
theorem E_m_takesSignF (hK : 1000000000 ≤ K) (hw : 0 ≤ ifault.toInt) (c : Int32) :
    Par (F_m_takesSign K c ityped inext itoken iplace ivalue ifault atxt) (fun r => 0 ≤ r.2.2.2.2.toInt) := by
  unfold F_m_takesSign
  obtain ⟨n, hn⟩ : ∃ n9, K = n9 + 1 := ⟨K - 1, by omega⟩
  generalize hz : L_m_takesSign K K 0 c ityped inext itoken iplace ivalue ifault atxt = z
  have hz2 : z = L_m_takesSign K (n + 1) 0 c ityped inext itoken iplace ivalue ifault atxt := by rw [← hn, hz]
  rw [hz2, L_m_takesSign_e0]; unfold B_m_takesSign_0
  refine Par.bd (T_m_isSign K hK c itoken ivalue ifault True.intro).pr (fun q hq => ?_)
  rcases hq with ⟨e1, h9, _, _⟩ | ⟨e1, e2⟩
  · omega
  · refine Par.yes e1 ?_
    exact Par.bd (E_m_failsF hK (Or.inl hw)) (fun p hp2 => Par.ret hp2)
theorem E_m_takesNumber (hK : 1000000000 ≤ K) (hS : STR2 E k v) (hj : j ≤ E) (hR : RStq K E ityped atxt k v nx) (hT : RTk k v nx j inext itoken iplace ivalue) (hw : ifault.toInt < 0) (c : Int32) :
    Par (F_m_takesNumber K c ityped inext itoken iplace ivalue ifault atxt) (fun r => ((k j = 3 ∧ v j ≤ c) ∧ r.1 = v j ∧ RTk k v nx (j + 1) r.2.1 r.2.2.1 r.2.2.2.1 r.2.2.2.2.1 ∧ r.2.2.2.2.2 = ifault) ∨ (¬ (k j = 3 ∧ v j ≤ c) ∧ 0 ≤ r.2.2.2.2.2.toInt ∧ 0 ≤ r.2.2.2.1.toInt)) := by
  unfold F_m_takesNumber
  have h1 : ¬ (k j = 3 ∧ v j ≤ c) → ∀ n, Par (L_m_takesNumber K n 1 c ityped inext itoken iplace ivalue ifault atxt) (fun r => ((k j = 3 ∧ v j ≤ c) ∧ r.1 = v j ∧ RTk k v nx (j + 1) r.2.1 r.2.2.1 r.2.2.2.1 r.2.2.2.2.1 ∧ r.2.2.2.2.2 = ifault) ∨ (¬ (k j = 3 ∧ v j ≤ c) ∧ 0 ≤ r.2.2.2.2.2.toInt ∧ 0 ≤ r.2.2.2.1.toInt)) := by
    intro hno n
    cases n with
    | zero => exact Par.no
    | succ n =>
      rw [L_m_takesNumber_e1]; unfold B_m_takesNumber_1
      exact Par.bd (T_m_fails K hK iplace ifault hT.2.2).pr (fun p hp => Par.ret (Or.inr ⟨hno, hp, hT.2.2⟩))
  obtain ⟨n, hn⟩ : ∃ n9, K = n9 + 1 := ⟨K - 1, by omega⟩
  generalize hz : L_m_takesNumber K K 0 c ityped inext itoken iplace ivalue ifault atxt = z
  have hz2 : z = L_m_takesNumber K (n + 1) 0 c ityped inext itoken iplace ivalue ifault atxt := by rw [← hn, hz]
  rw [hz2, L_m_takesNumber_e0]; unfold B_m_takesNumber_0
  refine Par.bd (T_m_isWell K hK ifault True.intro).pr (fun q hq => ?_)
  rcases hq with ⟨hq, _⟩ | ⟨_, h⟩
  case inr => omega
  refine Par.not (by rw [hq]; decide) ?_
  refine Par.br (fun h6 => ?_) (fun h6 => h1 (fun h => h6 (hT.2.1.num.1.mpr h.1)) n)
  have hk3 := hT.2.1.num.1.mp h6
  have hv := hT.2.1.num.2 hk3
  refine Par.br (fun hle => ?_) (fun hle => h1 (fun h => hle (by rw [hv]; exact h.2)) n)
  refine Par.bd (hR.adv hS hj hT (by rw [hk3]; decide)) (fun p hp => Par.ret (Or.inl ⟨⟨hk3, by rw [← hv]; exact hle⟩, hv, hp, rfl⟩))
end TAKES
section FAILS
variable (K : Nat) (ityped imany : Int32) (atxt : Nat → Int32)
theorem r19 (hK : 1000000000 ≤ K) (n : Nat) (l1 ithrown inext itoken iplace ivalue ifault idrafts isumMany : Int32) (astm asm asgn aopn aopp : Nat → Int32) (hf : 0 ≤ ifault.toInt) :
    Par (L_m_read K n 19 l1 0 0 0 0 0 0 ithrown ityped inext itoken iplace ivalue ifault imany idrafts isumMany atxt astm asm asgn aopn aopp) (fun r => r.2.2.1 = ityped) := by
  cases n with
  | zero => exact Par.no
  | succ n =>
    rw [L_m_read_e19]; unfold B_m_read_19
    refine Par.bd (T_m_isWell K hK ifault True.intro).pr (fun q hq => ?_)
    rcases hq with ⟨_, h⟩ | ⟨hq, _⟩
    · omega
    · exact Par.yes hq (Par.ret rfl)
theorem r1f (hK : 1000000000 ≤ K) (n : Nat) (l1 ithrown inext itoken iplace ivalue ifault idrafts isumMany : Int32) (astm asm asgn aopn aopp : Nat → Int32) (hf : 0 ≤ ifault.toInt) :
    Par (L_m_read K n 1 l1 0 0 0 0 0 0 ithrown ityped inext itoken iplace ivalue ifault imany idrafts isumMany atxt astm asm asgn aopn aopp) (fun r => r.2.2.1 = ityped) := by
  cases n with
  | zero => exact Par.no
  | succ n =>
    rw [L_m_read_e1]; unfold B_m_read_1
    refine Par.bd (T_m_isWell K hK ifault True.intro).pr (fun q hq => ?_)
    rcases hq with ⟨_, h⟩ | ⟨hq, _⟩
    · omega
    · exact Par.yes hq (r19 K ityped imany atxt hK n l1 ithrown inext itoken iplace ivalue ifault idrafts isumMany astm asm asgn aopn aopp hf)
theorem r18f (hK : 1000000000 ≤ K) (n : Nat) (l1 l2 ithrown inext itoken iplace ivalue ifault idrafts isumMany : Int32) (astm asm asgn aopn aopp : Nat → Int32) (hf : 0 ≤ ifault.toInt) :
    Par (L_m_read K n 18 l1 l2 0 0 0 0 0 ithrown ityped inext itoken iplace ivalue ifault imany idrafts isumMany atxt astm asm asgn aopn aopp) (fun r => r.2.2.1 = ityped) := by
  cases n with
  | zero => exact Par.no
  | succ n =>
    rw [L_m_read_e18]; unfold B_m_read_18
    exact r1f K ityped imany atxt hK n l1 ithrown inext itoken iplace ivalue ifault idrafts isumMany astm asm asgn aopn aopp hf
theorem r11f (hK : 1000000000 ≤ K) (n : Nat) (l1 l2 l3 l4 l5 ithrown inext itoken iplace ivalue ifault idrafts isumMany : Int32) (astm asm asgn aopn aopp : Nat → Int32) (hf : 0 ≤ ifault.toInt) :
    Par (L_m_read K n 11 l1 l2 l3 l4 l5 0 0 ithrown ityped inext itoken iplace ivalue ifault imany idrafts isumMany atxt astm asm asgn aopn aopp) (fun r => r.2.2.1 = ityped) := by
  cases n with
  | zero => exact Par.no
  | succ n =>
    rw [L_m_read_e11]; unfold B_m_read_11
    exact r18f K ityped imany atxt hK n l1 l2 ithrown inext itoken iplace ivalue ifault idrafts isumMany astm asm asgn aopn aopp hf
theorem r5f (hK : 1000000000 ≤ K) (n : Nat) (l1 l2 l3 l4 l5 ithrown inext itoken iplace ivalue ifault idrafts isumMany : Int32) (astm asm asgn aopn aopp : Nat → Int32) (hf : 0 ≤ ifault.toInt) :
    Par (L_m_read K n 5 l1 l2 l3 l4 l5 0 0 ithrown ityped inext itoken iplace ivalue ifault imany idrafts isumMany atxt astm asm asgn aopn aopp) (fun r => r.2.2.1 = ityped) := by
  cases n with
  | zero => exact Par.no
  | succ n =>
    rw [L_m_read_e5]; unfold B_m_read_5
    refine Par.bd (E_m_takesSignF hK hf 59) (fun q hq => ?_)
    exact r11f K ityped imany atxt hK n l1 l2 l3 l4 l5 ithrown q.1 q.2.1 q.2.2.1 q.2.2.2.1 q.2.2.2.2 idrafts isumMany astm asm asgn aopn aopp hq
theorem r6f (hK : 1000000000 ≤ K) (n : Nat) (l1 l2 l3 l4 l5 ithrown inext itoken iplace ivalue ifault idrafts isumMany : Int32) (astm asm asgn aopn aopp : Nat → Int32) (hf : 0 ≤ ifault.toInt) :
    Par (L_m_read K n 6 l1 l2 l3 l4 l5 0 0 ithrown ityped inext itoken iplace ivalue ifault imany idrafts isumMany atxt astm asm asgn aopn aopp) (fun r => r.2.2.1 = ityped) := by
  cases n with
  | zero => exact Par.no
  | succ n =>
    rw [L_m_read_e6]; unfold B_m_read_6
    refine Par.bd (E_m_takesSignF hK hf 59) (fun q hq => ?_)
    exact r11f K ityped imany atxt hK n l1 l2 l3 l4 l5 ithrown q.1 q.2.1 q.2.2.1 q.2.2.2.1 q.2.2.2.2 idrafts isumMany astm asm asgn aopn aopp hq
theorem r10f (hK : 1000000000 ≤ K) (n : Nat) (l1 l2 l3 l4 l5 ithrown inext itoken iplace ivalue ifault idrafts isumMany : Int32) (astm asm asgn aopn aopp : Nat → Int32) (hp : 0 ≤ ifault.toInt ∨ 0 ≤ iplace.toInt) :
    Par (L_m_read K n 10 l1 l2 l3 l4 l5 0 0 ithrown ityped inext itoken iplace ivalue ifault imany idrafts isumMany atxt astm asm asgn aopn aopp) (fun r => r.2.2.1 = ityped) := by
  cases n with
  | zero => exact Par.no
  | succ n =>
    rw [L_m_read_e10]; unfold B_m_read_10
    refine Par.bd (E_m_failsF hK hp) (fun q hq => ?_)
    exact r11f K ityped imany atxt hK n l1 l2 l3 l4 l5 ithrown inext itoken iplace ivalue q idrafts isumMany astm asm asgn aopn aopp hq
theorem r17f (hK : 1000000000 ≤ K) (n : Nat) (l1 l2 ithrown inext itoken iplace ivalue ifault idrafts isumMany : Int32) (astm asm asgn aopn aopp : Nat → Int32) (hp : 0 ≤ ifault.toInt ∨ 0 ≤ iplace.toInt) :
    Par (L_m_read K n 17 l1 l2 0 0 0 0 0 ithrown ityped inext itoken iplace ivalue ifault imany idrafts isumMany atxt astm asm asgn aopn aopp) (fun r => r.2.2.1 = ityped) := by
  cases n with
  | zero => exact Par.no
  | succ n =>
    rw [L_m_read_e17]; unfold B_m_read_17
    refine Par.bd (E_m_failsF hK hp) (fun q hq => ?_)
    exact r18f K ityped imany atxt hK n l1 l2 ithrown inext itoken iplace ivalue q idrafts isumMany astm asm asgn aopn aopp hq
theorem r9f (hK : 1000000000 ≤ K) (n : Nat) (l1 l2 l3 l4 l5 ithrown inext itoken iplace ivalue ifault idrafts isumMany : Int32) (astm asm asgn aopn aopp : Nat → Int32) (hf : 0 ≤ ifault.toInt) :
    Par (L_m_read K n 9 l1 l2 l3 l4 l5 0 0 ithrown ityped inext itoken iplace ivalue ifault imany idrafts isumMany atxt astm asm asgn aopn aopp) (fun r => r.2.2.1 = ityped) := by
  cases n with
  | zero => exact Par.no
  | succ n =>
    rw [L_m_read_e9]; unfold B_m_read_9
    refine Par.bd (T_m_isSign K hK 123 itoken ivalue ifault True.intro).pr (fun q hq => ?_)
    rcases hq with ⟨_, h, _, _⟩ | ⟨hq, _⟩
    · omega
    · exact Par.yes hq (r10f K ityped imany atxt hK n l1 l2 l3 l4 l5 ithrown inext itoken iplace ivalue ifault idrafts isumMany astm asm asgn aopn aopp (Or.inl hf))
theorem r21 (n : Nat) (l1 l2 ithrown inext itoken iplace ivalue ifault idrafts isumMany : Int32) (astm asgn aopn aopp : Nat → Int32) : ∀ (l2 : Int32) (asm : Nat → Int32),
    Par (L_m_read K n 21 l1 l2 0 0 0 0 0 ithrown ityped inext itoken iplace ivalue ifault imany idrafts isumMany atxt astm asm asgn aopn aopp) (fun r => r.2.2.1 = 0 ∧ r.2.2.2.2.2.2.2.2.1 = idrafts) := by
  induction n with
  | zero => intro l2 asm; exact Par.no
  | succ n ih =>
    intro l2 asm
    rw [L_m_read_e21]; unfold B_m_read_21
    refine Par.br (fun _ => Par.ret ⟨rfl, rfl⟩) (fun _ => Par.br (fun _ => Par.br (fun _ => ih _ _) (fun _ => Par.no)) (fun _ => Par.no))
theorem r20 (n : Nat) (l1 ithrown inext itoken iplace ivalue ifault idrafts isumMany : Int32) (asm asgn aopn aopp : Nat → Int32) : ∀ (l2 : Int32) (astm : Nat → Int32),
    Par (L_m_read K n 20 l1 l2 0 0 0 0 0 ithrown ityped inext itoken iplace ivalue ifault imany idrafts isumMany atxt astm asm asgn aopn aopp) (fun r => r.2.2.1 = 0 ∧ r.2.2.2.2.2.2.2.2.1 = idrafts) := by
  induction n with
  | zero => intro l2 astm; exact Par.no
  | succ n ih =>
    intro l2 astm
    rw [L_m_read_e20]; unfold B_m_read_20
    refine Par.br (fun _ => r21 K ityped imany atxt n l1 l2 ithrown inext itoken iplace ivalue ifault idrafts isumMany astm asgn aopn aopp _ _) (fun _ => Par.br (fun _ => Par.br (fun _ => ih _ _) (fun _ => Par.no)) (fun _ => Par.no))
end FAILS
