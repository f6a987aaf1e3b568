/-! p3: the reference's reading of statements goes with the machine -/
abbrev R16 : Type := Int32 × Int32 × Int32 × Int32 × Int32 × Int32 × Int32 × Int32 × Int32 × Int32 × Int32 × (Nat → Int32) × (Nat → Int32) × (Nat → Int32) × (Nat → Int32) × (Nat → Int32)
theorem adC (x c : Int32) (a b : Int) (hx : x.toInt = a) (hc : c.toInt = b) (h0 : -2147483648 ≤ a + b) (h1 : a + b < 2147483648) : (x + c).toInt = a + b := by
  rw [Int32.toInt_add, hx, hc]; exact bmI h0 h1
theorem clN (x : Int32) (a : Nat) (h : x.toInt = (a : Int)) : x.toNatClampNeg = a := cl1 x a h
theorem a8 (x : Int32) (d : Nat) (h : x.toInt = (d : Int)) (hd : d ≤ 60) : (240 + 8 * x).toInt = ((240 + 8 * d : Nat) : Int) := by
  have h8 : (8 * x).toInt = 8 * (d : Int) := by
    rw [Int32.toInt_mul, h]
    simp only [Int32.reduceToInt]
    exact bmI (by omega) (by omega)
  rw [adC 240 (8 * x) 240 (8 * (d : Int)) (by decide) h8 (by omega) (by omega)]
  omega
theorem adN (x c : Int32) (a b : Nat) (hx : x.toInt = (a : Int)) (hc : c.toInt = (b : Int)) (h1 : a + b < 1000000) : (x + c).toNatClampNeg = a + b := by
  refine clN _ _ ?_
  rw [adC x c (a : Int) (b : Int) hx hc (by omega) (by omega)]
  omega
/-- row i of the reference's draft -/
def RRow (astm asm : Nat → Int32) (D : List SRc) (M N : Nat → Nat) (sm : Int) (i : Nat) : Prop :=
  ∃ (r : SRc) (cf : Nat), D[i]? = some r ∧ astm (240 + 8 * i) = r.1 ∧ astm (240 + 8 * i + 1) = r.2.1 ∧ (r.1 ≠ 3 → (astm (240 + 8 * i + 2)).toInt = (cf : Int)) ∧ (astm (240 + 8 * i + 3)).toInt = (r.2.2.1.length : Int) ∧ ((cf + r.2.2.1.length : Nat) : Int) ≤ sm ∧ (∀ (t : Nat) (x : Int32), r.2.2.1[t]? = some x → asm (300 + cf + t) = x) ∧ (astm (240 + 8 * i + 4)).toInt = (M i : Int) ∧ (astm (240 + 8 * i + 5)).toInt = (N i : Int)
theorem RRow.lt {astm asm : Nat → Int32} {D : List SRc} {M N : Nat → Nat} {sm : Int} {i : Nat} (h : RRow astm asm D M N sm i) : i < D.length := by
  obtain ⟨r, cf, h1, _⟩ := h
  rcases Nat.lt_or_ge i D.length with h | h
  · exact h
  · rw [List.getElem?_eq_none h] at h1; cases h1
theorem RRow.mono {astm asm astm2 asm2 : Nat → Int32} {D X : List SRc} {M N M2 N2 : Nat → Nat} {sm sm2 : Int} {i : Nat} (h : RRow astm asm D M N sm i) (h1 : ∀ z : Nat, z < 4 → astm2 (240 + 8 * i + z) = astm (240 + 8 * i + z)) (h2 : ∀ p : Nat, (p : Int) < 300 + sm → asm2 p = asm p) (h3 : sm ≤ sm2) (h4 : (astm2 (240 + 8 * i + 4)).toInt = (M2 i : Int)) (h5 : (astm2 (240 + 8 * i + 5)).toInt = (N2 i : Int)) : RRow astm2 asm2 (D ++ X) M2 N2 sm2 i := by
  have hi := h.lt
  obtain ⟨r, cf, a1, a2, a3, a4, a5, a6, a7, a8, a9⟩ := h
  have e0 := h1 0 (by omega)
  rw [Nat.add_zero] at e0
  refine ⟨r, cf, by rw [List.getElem?_append_left hi]; exact a1, by rw [e0]; exact a2, by rw [h1 1 (by omega)]; exact a3, fun h => by rw [h1 2 (by omega)]; exact a4 h, by rw [h1 3 (by omega)]; exact a5, by omega, fun t x hx => ?_, h4, h5⟩
  have ht : t < r.2.2.1.length := by
    rcases Nat.lt_or_ge t r.2.2.1.length with h | h
    · exact h
    · rw [List.getElem?_eq_none h] at hx; cases hx
  rw [h2 _ (by omega)]
  exact a7 t x hx
def RRel (D : List SRc) (M N : Nat → Nat) (astm asm : Nat → Int32) (sm : Int) : Prop :=
  (∀ i : Nat, i < D.length → RRow astm asm D M N sm i) ∧ (∀ i : Nat, D.length ≤ i → M i = 0 ∧ N i = 0)
/-- a draft's head, its sum not read yet -/
def DrH (astm : Nat → Int32) (w num : Int32) (d : Nat) (f : Nat → Int32) : Prop :=
  (∀ p : Nat, p < 240 + 8 * d → f p = astm p) ∧ f (240 + 8 * d) = w ∧ f (240 + 8 * d + 1) = num ∧ f (240 + 8 * d + 3) = 0 ∧ f (240 + 8 * d + 4) = 0 ∧ f (240 + 8 * d + 5) = 0
theorem RRel.loop {D : List SRc} {M N : Nat → Nat} {astm asm f : Nat → Int32} {sm : Int} {num pa : Int32} (h : RRel D M N astm asm sm) (hs : 0 ≤ sm) (hd : DrH astm 3 num D.length f) : RRel (D ++ [(3, num, [], pa)]) M N f asm sm := by
  obtain ⟨d1, d2, d3, d4, d5, d6⟩ := hd
  refine ⟨fun i hi => ?_, fun i hi => h.2 i (by rw [List.length_append, List.length_singleton] at hi; omega)⟩
  rw [List.length_append, List.length_singleton] at hi
  rcases Nat.lt_or_ge i D.length with h9 | h9
  · have hr := h.1 i h9
    obtain ⟨r, cf, a1, a2, a3, a4, a5, a6, a7, a8, a9⟩ := id hr
    exact hr.mono (fun z hz => d1 _ (by omega)) (fun _ _ => rfl) (Int.le_refl _) (by rw [d1 _ (by omega)]; exact a8) (by rw [d1 _ (by omega)]; exact a9)
  · have hi2 : i = D.length := by omega
    subst hi2
    have hz := h.2 D.length (Nat.le_refl _)
    refine ⟨(3, num, [], pa), 0, by simp, d2, d3, fun h => absurd rfl h, by rw [d4]; rfl, by show ((0 + 0 : Nat) : Int) ≤ sm; omega, fun t x hx => by simp at hx, by rw [d5, hz.1]; rfl, by rw [d6, hz.2]; rfl⟩
theorem RRel.sum {D : List SRc} {M N : Nat → Nat} {astm asm f g asm2 : Nat → Int32} {sm s2 at_ w num pa : Int32} {e : List Int32} (h : RRel D M N astm asm sm.toInt) (hs : 0 ≤ sm.toInt) (hD : D.length < 30) (hw : w ≠ 3) (hd : DrH astm w num D.length f) (ha : at_.toInt = ((240 + 8 * D.length : Nat) : Int)) (hE : EMr sm asm s2 asm2 e) (hg : g = upd (upd f (at_ + 2).toNatClampNeg sm) (at_ + 3).toNatClampNeg (s2 - (upd f (at_ + 2).toNatClampNeg sm) (at_ + 2).toNatClampNeg)) : RRel (D ++ [(w, num, e, pa)]) M N g asm2 s2.toInt := by
  obtain ⟨d1, d2, d3, d4, d5, d6⟩ := hd
  obtain ⟨m0, m1, m2, m3, _⟩ := hE
  have e2 : (at_ + 2).toNatClampNeg = 240 + 8 * D.length + 2 := adN _ 2 _ 2 ha (by decide) (by omega)
  have e3 : (at_ + 3).toNatClampNeg = 240 + 8 * D.length + 3 := adN _ 3 _ 3 ha (by decide) (by omega)
  rw [upd_eq, e2, e3] at hg
  have hlow : ∀ p : Nat, p < 240 + 8 * D.length + 2 → g p = f p := fun p hp => by rw [hg, upd_ne _ _ (by omega), upd_ne _ _ (by omega)]
  have h45 : ∀ p : Nat, 240 + 8 * D.length + 3 < p → g p = f p := fun p hp => by rw [hg, upd_ne _ _ (by omega), upd_ne _ _ (by omega)]
  refine ⟨fun i hi => ?_, fun i hi => h.2 i (by rw [List.length_append, List.length_singleton] at hi; omega)⟩
  rw [List.length_append, List.length_singleton] at hi
  rcases Nat.lt_or_ge i D.length with h9 | h9
  · have hr := h.1 i h9
    obtain ⟨r, cf, a1, a2, a3, a4, a5, a6, a7, a8, a9⟩ := id hr
    refine hr.mono (fun z hz => by rw [hlow _ (by omega), d1 _ (by omega)]) (fun p hp => m2 p (by omega)) (by omega) (by rw [hlow _ (by omega), d1 _ (by omega)]; exact a8) (by rw [hlow _ (by omega), d1 _ (by omega)]; exact a9)
  · have hi2 : i = D.length := by omega
    subst hi2
    have hz := h.2 D.length (Nat.le_refl _)
    have hsub : (s2 - sm).toInt = (e.length : Int) := by
      have h1 := i32r s2
      have h2 := i32r sm
      rw [Int32.toInt_sub, m1]
      rw [bmI (by omega) (by omega)]
      omega
    refine ⟨(w, num, e, pa), sm.toInt.toNat, by simp, by rw [hlow _ (by omega)]; exact d2, by rw [hlow _ (by omega)]; exact d3, fun _ => ?_, ?_, ?_, fun t x hx => ?_, by rw [h45 _ (by omega), d5, hz.1]; rfl, by rw [h45 _ (by omega), d6, hz.2]; rfl⟩
    · rw [hg, upd_ne _ _ (by omega), upd_eq]; omega
    · rw [hg, upd_eq]; exact hsub
    · show ((sm.toInt.toNat + e.length : Nat) : Int) ≤ _
      omega
    · exact m3 t x hx
theorem RRel.close {D : List SRc} {M N : Nat → Nat} {astm asm : Nat → Int32} {sm : Int} {i : Nat} {b : Bool} {x idr : Int32} (h : RRel D M N astm asm sm) (hi : i < D.length) (hd : idr.toInt = (D.length : Int)) (hx : x = if b = true then astm (240 + 8 * i + 4) else idr) : RRel D (if b = true then M else upN M i D.length) (upN N i D.length) (upd (upd astm (240 + 8 * i + 4) x) (240 + 8 * i + 5) idr) asm sm := by
  refine ⟨fun j hj => ?_, fun j hj => ?_⟩
  · have hr := h.1 j hj
    obtain ⟨r, cf, a1, a2, a3, a4, a5, a6, a7, a8, a9⟩ := id hr
    have := hr.mono (X := []) (astm2 := upd (upd astm (240 + 8 * i + 4) x) (240 + 8 * i + 5) idr) (asm2 := asm) (M2 := if b = true then M else upN M i D.length) (N2 := upN N i D.length) (sm2 := sm) (fun z hz => by rw [upd_ne _ _ (by omega), upd_ne _ _ (by omega)]) (fun _ _ => rfl) (Int.le_refl _) ?_ ?_
    · rw [List.append_nil] at this; exact this
    · by_cases hji : j = i
      · subst hji
        rw [upd_ne _ _ (by omega), upd_eq, hx]
        cases b with
        | true => exact a8
        | false => show idr.toInt = ((upN M j D.length j : Nat) : Int); rw [upN_eq]; exact hd
      · rw [upd_ne _ _ (by omega), upd_ne _ _ (by omega)]
        cases b with
        | true => exact a8
        | false => show _ = ((upN M i D.length j : Nat) : Int); rw [upN_ne _ _ hji]; exact a8
    · by_cases hji : j = i
      · subst hji
        rw [upd_eq, upN_eq]; exact hd
      · rw [upd_ne _ _ (by omega), upd_ne _ _ (by omega), upN_ne _ _ hji]; exact a9
  · have hz := h.2 j hj
    refine ⟨?_, by rw [upN_ne _ _ (by omega)]; exact hz.2⟩
    cases b with
    | true => exact hz.1
    | false => show upN M i D.length j = 0; rw [upN_ne _ _ (by omega)]; exact hz.1
theorem Rtq.tk {k v tok val : Int32} (h : Rtq k v tok val) : (tok = 0 ↔ k = 0) ∧ (tok = 1 ↔ k = 4) ∧ (tok = 2 ↔ k = 5) ∧ (tok = 3 ↔ k = 6) ∧ (tok = 4 ↔ k = 7) := by
  rcases h with ⟨h9, h8⟩ | ⟨h9, h8⟩ | ⟨h9, h8, h7⟩ | ⟨h9, h8, h7⟩ | ⟨h9, h8⟩ | ⟨h9, h8⟩ | ⟨h9, h8⟩ | ⟨h9, h8⟩ | ⟨h8, h9, h7⟩
  all_goals (try subst h9); (try subst h8)
  all_goals (first | decide | skip)
  refine ⟨?_, ?_, ?_, ?_, ?_⟩ <;> refine ⟨fun h => absurd h (by decide), fun h => ?_⟩ <;> (exfalso; rw [h] at h7; revert h7; unfold sgq; decide)
theorem E_m_begins (K : Nat) (hK : 1000000000 ≤ K) (w num idr : Int32) (astm : Nat → Int32) (d : Nat) (hd : idr.toInt = (d : Int)) (hD : d < 30) :
    Par (F_m_begins K w num idr astm) (fun r => r.1.toInt = ((240 + 8 * d : Nat) : Int) ∧ r.2.1.toInt = ((d + 1 : Nat) : Int) ∧ DrH astm w num d r.2.2) := by
  unfold F_m_begins
  obtain ⟨n, rfl⟩ : ∃ n9, K = n9 + 1 := ⟨K - 1, by omega⟩
  rw [L_m_begins_e0]; unfold B_m_begins_0
  have ha := a8 idr d hd (by omega)
  refine Par.br (fun _ => Par.br (fun _ => Par.br (fun _ => Par.br (fun _ => Par.br (fun _ => Par.ret ⟨ha, ad1 idr d hd (by omega), ?_⟩) (fun _ => Par.no)) (fun _ => Par.no)) (fun _ => Par.no)) (fun _ => Par.no)) (fun _ => Par.no)
  show DrH astm w num d (upd (upd (upd (upd (upd astm (240 + 8 * idr).toNatClampNeg w) (240 + 8 * idr + 1).toNatClampNeg num) (240 + 8 * idr + 3).toNatClampNeg 0) (240 + 8 * idr + 4).toNatClampNeg 0) (240 + 8 * idr + 5).toNatClampNeg 0)
  rw [adN _ 1 _ 1 ha (by decide) (by omega), adN _ 3 _ 3 ha (by decide) (by omega), adN _ 4 _ 4 ha (by decide) (by omega), adN _ 5 _ 5 ha (by decide) (by omega), clN _ _ ha]
  refine ⟨fun p hp => ?_, ?_, ?_, ?_, ?_, ?_⟩
  · rw [upd_ne _ _ (by omega), upd_ne _ _ (by omega), upd_ne _ _ (by omega), upd_ne _ _ (by omega), upd_ne _ _ (by omega)]
  · rw [upd_ne _ _ (by omega), upd_ne _ _ (by omega), upd_ne _ _ (by omega), upd_ne _ _ (by omega), upd_eq]
  · rw [upd_ne _ _ (by omega), upd_ne _ _ (by omega), upd_ne _ _ (by omega), upd_eq]
  · rw [upd_ne _ _ (by omega), upd_ne _ _ (by omega), upd_eq]
  · rw [upd_ne _ _ (by omega), upd_eq]
  · rw [upd_eq]
def StkO : List (Nat × Bool) → (Nat → Int32) → (Nat → Int32) → Nat → Nat → Prop
  | [], _, _, _, h => h = 0
  | (i, b) :: S, an, ap, d, h => ∃ h', h = h' + 1 ∧ (an h').toInt = ((240 + 8 * i : Nat) : Int) ∧ (ap h' = if b = true then 1 else 0) ∧ i < d ∧ StkO S an ap d h'
theorem StkO.len : ∀ {S : List (Nat × Bool)} {an ap : Nat → Int32} {d h : Nat}, StkO S an ap d h → h = S.length := by
  intro S
  induction S with
  | nil => intro an ap d h hs; exact hs
  | cons x S ih =>
    intro an ap d h hs
    obtain ⟨h', h1, _, _, _, h3⟩ := hs
    rw [h1, ih h3]; rfl
theorem StkO.ups : ∀ {S : List (Nat × Bool)} {an ap : Nat → Int32} {d e h m : Nat} {y z : Int32}, StkO S an ap d h → h ≤ m → d ≤ e → StkO S (upd an m y) (upd ap m z) e h := by
  intro S
  induction S with
  | nil => intro an ap d e h m y z hs _ _; exact hs
  | cons x S ih =>
    intro an ap d e h m y z hs hm hde
    obtain ⟨h', h1, h2, h3, h4, h5⟩ := hs
    exact ⟨h', h1, by rw [upd_ne an y (by omega)]; exact h2, by rw [upd_ne ap z (by omega)]; exact h3, by omega, ih h5 (by omega) hde⟩
theorem StkO.mono : ∀ {S : List (Nat × Bool)} {an ap : Nat → Int32} {d e h : Nat}, StkO S an ap d h → d ≤ e → StkO S an ap e h := by
  intro S
  induction S with
  | nil => intro an ap d e h hs _; exact hs
  | cons x S ih =>
    intro an ap d e h hs hde
    obtain ⟨h', h1, h2, h3, h4, h5⟩ := hs
    exact ⟨h', h1, h2, h3, by omega, ih h5 hde⟩
theorem StkO.part {S : List (Nat × Bool)} {an ap : Nat → Int32} {d h m : Nat} {z : Int32} (hs : StkO S an ap d h) (hm : h ≤ m) : StkO S an (upd ap m z) d h := by
  have := hs.ups (m := m) (y := an m) (z := z) hm (Nat.le_refl d)
  have he : upd an m (an m) = an := by funext x; unfold upd; split <;> simp_all
  rw [he] at this
  exact this
section TAKES
variable {K E : Nat} {k v nx : Nat → Int32} {ityped inext itoken iplace ivalue ifault : Int32} {atxt : Nat → Int32} {j : Nat}
theorem E_m_takesSign (hK : 1000000000 ≤ K) (hS : STR2 E k v) (hj : j ≤ E) (hR : RStq K E ityped atxt k v nx) (hT : RTk k v nx j inext itoken iplace ivalue) (hw : ifault.toInt < 0) (c : Int32) (hc : sgq c) :
    Par (F_m_takesSign K c ityped inext itoken iplace ivalue ifault atxt) (fun r => (k j = c ∧ RTk k v nx (j + 1) r.1 r.2.1 r.2.2.1 r.2.2.2.1 ∧ r.2.2.2.2 = ifault) ∨ (k j ≠ c ∧ 0 ≤ r.2.2.2.2.toInt ∧ 0 ≤ r.2.2.1.toInt)) := by
  unfold F_m_takesSign
  obtain ⟨n, hn⟩ : ∃ n9, K = n9 + 1 := ⟨K - 1, by omega⟩
  generalize hz : L_m_takesSign K K 0 c ityped inext itoken iplace ivalue ifault atxt = z
  have hz2 : z = L_m_takesSign K (n + 1) 0 c ityped inext itoken iplace ivalue ifault atxt := by rw [← hn, hz]
  rw [hz2, L_m_takesSign_e0]; unfold B_m_takesSign_0
  refine Par.bd (T_m_isSign K hK c itoken ivalue ifault True.intro).pr (fun q hq => ?_)
  rcases hq with ⟨e1, _, e2, e3⟩ | ⟨e1, e2⟩
  · refine Par.not (by rw [e1]; decide) ?_
    have hk := (hT.2.1.sign c hc).mp ⟨e2, e3⟩
    have hk0 : k j ≠ 0 ∧ k j ≠ 1 := by rw [hk]; rcases hc with h | h | h | h | h | h | h | h | h | h | h | h <;> rw [h] <;> decide
    refine Par.bd (hR.adv hS hj hT hk0) (fun p hp => Par.ret (Or.inl ⟨hk, hp, rfl⟩))
  · refine Par.yes e1 ?_
    refine Par.bd (T_m_fails K hK iplace ifault hT.2.2).pr (fun p hp => Par.ret (Or.inr ⟨fun h => ?_, hp, hT.2.2⟩))
    have := (hT.2.1.sign c hc).mpr h
    rcases e2 with e2 | e2 | e2
    · omega
    · exact e2 this.1
    · exact e2 this.2
theorem E_m_failsF (hK : 1000000000 ≤ K) (h : 0 ≤ ifault.toInt ∨ 0 ≤ iplace.toInt) : Par (F_m_fails K iplace ifault) (fun r => 0 ≤ r.toInt) := by
  rcases h with h | h
  · unfold F_m_fails
    obtain ⟨n, hn⟩ : ∃ n9, K = n9 + 1 := ⟨K - 1, by omega⟩
    generalize hz : L_m_fails K K 0 0 iplace ifault = z
    have hz2 : z = L_m_fails K (n + 1) 0 0 iplace ifault := by rw [← hn, hz]
    rw [hz2, L_m_fails_e0]; unfold B_m_fails_0
    refine Par.yes (by rw [Int32.le_iff_toInt_le]; exact h) ?_
    cases n with
    | zero => exact Par.no
    | succ n => rw [L_m_fails_e1]; unfold B_m_fails_1; exact Par.ret h
  · exact (T_m_fails K hK iplace ifault h).pr
theorem E_m_takesSignF (hK : 1000000000 ≤ K) (hw : 0 ≤ ifault.toInt) (c : Int32) :
    Par (F_m_takesSign K c ityped inext itoken iplace ivalue ifault atxt) (fun r => 0 ≤ r.2.2.2.2.toInt) := by
  unfold F_m_takesSign
  obtain ⟨n, hn⟩ : ∃ n9, K = n9 + 1 := ⟨K - 1, by omega⟩
  generalize hz : L_m_takesSign K K 0 c ityped inext itoken iplace ivalue ifault atxt = z
  have hz2 : z = L_m_takesSign K (n + 1) 0 c ityped inext itoken iplace ivalue ifault atxt := by rw [← hn, hz]
  rw [hz2, L_m_takesSign_e0]; unfold B_m_takesSign_0
  refine Par.bd (T_m_isSign K hK c itoken ivalue ifault True.intro).pr (fun q hq => ?_)
  rcases hq with ⟨e1, h9, _, _⟩ | ⟨e1, e2⟩
  · omega
  · refine Par.yes e1 ?_
    exact Par.bd (E_m_failsF hK (Or.inl hw)) (fun p hp2 => Par.ret hp2)
theorem E_m_takesNumber (hK : 1000000000 ≤ K) (hS : STR2 E k v) (hj : j ≤ E) (hR : RStq K E ityped atxt k v nx) (hT : RTk k v nx j inext itoken iplace ivalue) (hw : ifault.toInt < 0) (c : Int32) :
    Par (F_m_takesNumber K c ityped inext itoken iplace ivalue ifault atxt) (fun r => ((k j = 3 ∧ v j ≤ c) ∧ r.1 = v j ∧ RTk k v nx (j + 1) r.2.1 r.2.2.1 r.2.2.2.1 r.2.2.2.2.1 ∧ r.2.2.2.2.2 = ifault) ∨ (¬ (k j = 3 ∧ v j ≤ c) ∧ 0 ≤ r.2.2.2.2.2.toInt ∧ 0 ≤ r.2.2.2.1.toInt)) := by
  unfold F_m_takesNumber
  have h1 : ¬ (k j = 3 ∧ v j ≤ c) → ∀ n, Par (L_m_takesNumber K n 1 c ityped inext itoken iplace ivalue ifault atxt) (fun r => ((k j = 3 ∧ v j ≤ c) ∧ r.1 = v j ∧ RTk k v nx (j + 1) r.2.1 r.2.2.1 r.2.2.2.1 r.2.2.2.2.1 ∧ r.2.2.2.2.2 = ifault) ∨ (¬ (k j = 3 ∧ v j ≤ c) ∧ 0 ≤ r.2.2.2.2.2.toInt ∧ 0 ≤ r.2.2.2.1.toInt)) := by
    intro hno n
    cases n with
    | zero => exact Par.no
    | succ n =>
      rw [L_m_takesNumber_e1]; unfold B_m_takesNumber_1
      exact Par.bd (T_m_fails K hK iplace ifault hT.2.2).pr (fun p hp => Par.ret (Or.inr ⟨hno, hp, hT.2.2⟩))
  obtain ⟨n, hn⟩ : ∃ n9, K = n9 + 1 := ⟨K - 1, by omega⟩
  generalize hz : L_m_takesNumber K K 0 c ityped inext itoken iplace ivalue ifault atxt = z
  have hz2 : z = L_m_takesNumber K (n + 1) 0 c ityped inext itoken iplace ivalue ifault atxt := by rw [← hn, hz]
  rw [hz2, L_m_takesNumber_e0]; unfold B_m_takesNumber_0
  refine Par.bd (T_m_isWell K hK ifault True.intro).pr (fun q hq => ?_)
  rcases hq with ⟨hq, _⟩ | ⟨_, h⟩
  case inr => omega
  refine Par.not (by rw [hq]; decide) ?_
  refine Par.br (fun h6 => ?_) (fun h6 => h1 (fun h => h6 (hT.2.1.num.1.mpr h.1)) n)
  have hk3 := hT.2.1.num.1.mp h6
  have hv := hT.2.1.num.2 hk3
  refine Par.br (fun hle => ?_) (fun hle => h1 (fun h => hle (by rw [hv]; exact h.2)) n)
  refine Par.bd (hR.adv hS hj hT (by rw [hk3]; decide)) (fun p hp => Par.ret (Or.inl ⟨⟨hk3, by rw [← hv]; exact hle⟩, hv, hp, rfl⟩))
end TAKES
def KpF (ityped imany : Int32) (astm asm : Nat → Int32) (r : R16) : Prop := r.2.2.1 = ityped ∧ r.2.2.2.2.2.2.2.2.1 = imany ∧ r.2.2.2.2.2.2.2.2.2.2.2.1 = astm ∧ r.2.2.2.2.2.2.2.2.2.2.2.2.1 = asm
section FAILS
variable (K : Nat) (ityped imany : Int32) (atxt : Nat → Int32)
theorem r19 (hK : 1000000000 ≤ K) (n : Nat) (l1 ithrown inext itoken iplace ivalue ifault idrafts isumMany : Int32) (astm asm asgn aopn aopp : Nat → Int32) (hf : 0 ≤ ifault.toInt) :
    Par (L_m_read K n 19 l1 0 0 0 0 0 0 ithrown ityped inext itoken iplace ivalue ifault imany idrafts isumMany atxt astm asm asgn aopn aopp) (KpF ityped imany astm asm) := by
  cases n with
  | zero => exact Par.no
  | succ n =>
    rw [L_m_read_e19]; unfold B_m_read_19
    refine Par.bd (T_m_isWell K hK ifault True.intro).pr (fun q hq => ?_)
    rcases hq with ⟨_, h⟩ | ⟨hq, _⟩
    · omega
    · exact Par.yes hq (Par.ret ⟨rfl, rfl, rfl, rfl⟩)
theorem r1f (hK : 1000000000 ≤ K) (n : Nat) (l1 ithrown inext itoken iplace ivalue ifault idrafts isumMany : Int32) (astm asm asgn aopn aopp : Nat → Int32) (hf : 0 ≤ ifault.toInt) :
    Par (L_m_read K n 1 l1 0 0 0 0 0 0 ithrown ityped inext itoken iplace ivalue ifault imany idrafts isumMany atxt astm asm asgn aopn aopp) (KpF ityped imany astm asm) := by
  cases n with
  | zero => exact Par.no
  | succ n =>
    rw [L_m_read_e1]; unfold B_m_read_1
    refine Par.bd (T_m_isWell K hK ifault True.intro).pr (fun q hq => ?_)
    rcases hq with ⟨_, h⟩ | ⟨hq, _⟩
    · omega
    · exact Par.yes hq (r19 K ityped imany atxt hK n l1 ithrown inext itoken iplace ivalue ifault idrafts isumMany astm asm asgn aopn aopp hf)
theorem r18f (hK : 1000000000 ≤ K) (n : Nat) (l1 l2 ithrown inext itoken iplace ivalue ifault idrafts isumMany : Int32) (astm asm asgn aopn aopp : Nat → Int32) (hf : 0 ≤ ifault.toInt) :
    Par (L_m_read K n 18 l1 l2 0 0 0 0 0 ithrown ityped inext itoken iplace ivalue ifault imany idrafts isumMany atxt astm asm asgn aopn aopp) (KpF ityped imany astm asm) := by
  cases n with
  | zero => exact Par.no
  | succ n =>
    rw [L_m_read_e18]; unfold B_m_read_18
    exact r1f K ityped imany atxt hK n l1 ithrown inext itoken iplace ivalue ifault idrafts isumMany astm asm asgn aopn aopp hf
theorem r11f (hK : 1000000000 ≤ K) (n : Nat) (l1 l2 l3 l4 l5 ithrown inext itoken iplace ivalue ifault idrafts isumMany : Int32) (astm asm asgn aopn aopp : Nat → Int32) (hf : 0 ≤ ifault.toInt) :
    Par (L_m_read K n 11 l1 l2 l3 l4 l5 0 0 ithrown ityped inext itoken iplace ivalue ifault imany idrafts isumMany atxt astm asm asgn aopn aopp) (KpF ityped imany astm asm) := by
  cases n with
  | zero => exact Par.no
  | succ n =>
    rw [L_m_read_e11]; unfold B_m_read_11
    exact r18f K ityped imany atxt hK n l1 l2 ithrown inext itoken iplace ivalue ifault idrafts isumMany astm asm asgn aopn aopp hf
theorem r5f (hK : 1000000000 ≤ K) (n : Nat) (l1 l2 l3 l4 l5 ithrown inext itoken iplace ivalue ifault idrafts isumMany : Int32) (astm asm asgn aopn aopp : Nat → Int32) (hf : 0 ≤ ifault.toInt) :
    Par (L_m_read K n 5 l1 l2 l3 l4 l5 0 0 ithrown ityped inext itoken iplace ivalue ifault imany idrafts isumMany atxt astm asm asgn aopn aopp) (KpF ityped imany astm asm) := by
  cases n with
  | zero => exact Par.no
  | succ n =>
    rw [L_m_read_e5]; unfold B_m_read_5
    refine Par.bd (E_m_takesSignF hK hf 59) (fun q hq => ?_)
    exact r11f K ityped imany atxt hK n l1 l2 l3 l4 l5 ithrown q.1 q.2.1 q.2.2.1 q.2.2.2.1 q.2.2.2.2 idrafts isumMany astm asm asgn aopn aopp hq
theorem r6f (hK : 1000000000 ≤ K) (n : Nat) (l1 l2 l3 l4 l5 ithrown inext itoken iplace ivalue ifault idrafts isumMany : Int32) (astm asm asgn aopn aopp : Nat → Int32) (hf : 0 ≤ ifault.toInt) :
    Par (L_m_read K n 6 l1 l2 l3 l4 l5 0 0 ithrown ityped inext itoken iplace ivalue ifault imany idrafts isumMany atxt astm asm asgn aopn aopp) (KpF ityped imany astm asm) := by
  cases n with
  | zero => exact Par.no
  | succ n =>
    rw [L_m_read_e6]; unfold B_m_read_6
    refine Par.bd (E_m_takesSignF hK hf 59) (fun q hq => ?_)
    exact r11f K ityped imany atxt hK n l1 l2 l3 l4 l5 ithrown q.1 q.2.1 q.2.2.1 q.2.2.2.1 q.2.2.2.2 idrafts isumMany astm asm asgn aopn aopp hq
theorem r10f (hK : 1000000000 ≤ K) (n : Nat) (l1 l2 l3 l4 l5 ithrown inext itoken iplace ivalue ifault idrafts isumMany : Int32) (astm asm asgn aopn aopp : Nat → Int32) (hp : 0 ≤ ifault.toInt ∨ 0 ≤ iplace.toInt) :
    Par (L_m_read K n 10 l1 l2 l3 l4 l5 0 0 ithrown ityped inext itoken iplace ivalue ifault imany idrafts isumMany atxt astm asm asgn aopn aopp) (KpF ityped imany astm asm) := by
  cases n with
  | zero => exact Par.no
  | succ n =>
    rw [L_m_read_e10]; unfold B_m_read_10
    refine Par.bd (E_m_failsF hK hp) (fun q hq => ?_)
    exact r11f K ityped imany atxt hK n l1 l2 l3 l4 l5 ithrown inext itoken iplace ivalue q idrafts isumMany astm asm asgn aopn aopp hq
theorem r17f (hK : 1000000000 ≤ K) (n : Nat) (l1 l2 ithrown inext itoken iplace ivalue ifault idrafts isumMany : Int32) (astm asm asgn aopn aopp : Nat → Int32) (hp : 0 ≤ ifault.toInt ∨ 0 ≤ iplace.toInt) :
    Par (L_m_read K n 17 l1 l2 0 0 0 0 0 ithrown ityped inext itoken iplace ivalue ifault imany idrafts isumMany atxt astm asm asgn aopn aopp) (KpF ityped imany astm asm) := by
  cases n with
  | zero => exact Par.no
  | succ n =>
    rw [L_m_read_e17]; unfold B_m_read_17
    refine Par.bd (E_m_failsF hK hp) (fun q hq => ?_)
    exact r18f K ityped imany atxt hK n l1 l2 ithrown inext itoken iplace ivalue q idrafts isumMany astm asm asgn aopn aopp hq
theorem r9f (hK : 1000000000 ≤ K) (n : Nat) (l1 l2 l3 l4 l5 ithrown inext itoken iplace ivalue ifault idrafts isumMany : Int32) (astm asm asgn aopn aopp : Nat → Int32) (hf : 0 ≤ ifault.toInt) :
    Par (L_m_read K n 9 l1 l2 l3 l4 l5 0 0 ithrown ityped inext itoken iplace ivalue ifault imany idrafts isumMany atxt astm asm asgn aopn aopp) (KpF ityped imany astm asm) := by
  cases n with
  | zero => exact Par.no
  | succ n =>
    rw [L_m_read_e9]; unfold B_m_read_9
    refine Par.bd (T_m_isSign K hK 123 itoken ivalue ifault True.intro).pr (fun q hq => ?_)
    rcases hq with ⟨_, h, _, _⟩ | ⟨hq, _⟩
    · omega
    · exact Par.yes hq (r10f K ityped imany atxt hK n l1 l2 l3 l4 l5 ithrown inext itoken iplace ivalue ifault idrafts isumMany astm asm asgn aopn aopp (Or.inl hf))
theorem r21 (n : Nat) (l1 ithrown inext itoken iplace ivalue ifault idrafts isumMany : Int32) (astm asgn aopn aopp asm0 : Nat → Int32) : ∀ (k : Nat) (l2 : Int32) (asm : Nat → Int32), l2.toInt = (k : Int) → k ≤ 300 → (∀ p : Nat, p < k → asm p = asm0 (300 + p)) → (∀ p : Nat, 300 ≤ p → asm p = asm0 p) →
    Par (L_m_read K n 21 l1 l2 0 0 0 0 0 ithrown ityped inext itoken iplace ivalue ifault imany idrafts isumMany atxt astm asm asgn aopn aopp) (fun r => r.2.2.1 = 0 ∧ r.2.2.2.2.2.2.2.2.1 = idrafts ∧ r.2.2.2.2.2.2.2.2.2.2.2.1 = astm ∧ ∀ p : Nat, p < 300 → r.2.2.2.2.2.2.2.2.2.2.2.2.1 p = asm0 (300 + p)) := by
  induction n with
  | zero => intros; exact Par.no
  | succ n ih =>
    intro k l2 asm hk hk3 h1 h2
    rw [L_m_read_e21]; unfold B_m_read_21
    refine Par.br (fun h => ?_) (fun h => Par.br (fun _ => Par.br (fun _ => ?_) (fun _ => Par.no)) (fun _ => Par.no))
    · rw [Int32.le_iff_toInt_le] at h
      simp only [Int32.reduceToInt] at h
      exact Par.ret ⟨rfl, rfl, rfl, fun p hp => h1 p (by omega)⟩
    · rw [Int32.le_iff_toInt_le] at h
      simp only [Int32.reduceToInt] at h
      have e1 : (300 + l2).toNatClampNeg = 300 + k := adN 300 l2 300 k (by decide) hk (by omega)
      have e2 : l2.toNatClampNeg = k := cl1 _ _ hk
      rw [e1, e2]
      refine ih (k + 1) (l2 + 1) _ (ad1 l2 k hk (by omega)) (by omega) (fun p hp => ?_) (fun p hp => ?_)
      · by_cases hpk : p = k
        · rw [hpk, upd_eq, h2 _ (by omega)]
        · rw [upd_ne _ _ hpk]; exact h1 p (by omega)
      · rw [upd_ne _ _ (by omega)]; exact h2 p hp
theorem r20 (n : Nat) (l1 ithrown inext itoken iplace ivalue ifault idrafts isumMany : Int32) (asm asgn aopn aopp astm0 : Nat → Int32) : ∀ (k : Nat) (l2 : Int32) (astm : Nat → Int32), l2.toInt = (k : Int) → k ≤ 240 → (∀ p : Nat, p < k → astm p = astm0 (240 + p)) → (∀ p : Nat, 240 ≤ p → astm p = astm0 p) →
    Par (L_m_read K n 20 l1 l2 0 0 0 0 0 ithrown ityped inext itoken iplace ivalue ifault imany idrafts isumMany atxt astm asm asgn aopn aopp) (fun r => r.2.2.1 = 0 ∧ r.2.2.2.2.2.2.2.2.1 = idrafts ∧ (∀ p : Nat, p < 240 → r.2.2.2.2.2.2.2.2.2.2.2.1 p = astm0 (240 + p)) ∧ ∀ p : Nat, p < 300 → r.2.2.2.2.2.2.2.2.2.2.2.2.1 p = asm (300 + p)) := by
  induction n with
  | zero => intros; exact Par.no
  | succ n ih =>
    intro k l2 astm hk hk3 h1 h2
    rw [L_m_read_e20]; unfold B_m_read_20
    refine Par.br (fun h => ?_) (fun h => Par.br (fun _ => Par.br (fun _ => ?_) (fun _ => Par.no)) (fun _ => Par.no))
    · rw [Int32.le_iff_toInt_le] at h
      simp only [Int32.reduceToInt] at h
      refine (r21 K ityped imany atxt n l1 ithrown inext itoken iplace ivalue ifault idrafts isumMany astm asgn aopn aopp asm 0 0 asm rfl (by omega) (fun p hp => by omega) (fun _ _ => rfl)).mono (fun r hr => ⟨hr.1, hr.2.1, fun p hp => ?_, hr.2.2.2⟩)
      rw [hr.2.2.1]; exact h1 p (by omega)
    · rw [Int32.le_iff_toInt_le] at h
      simp only [Int32.reduceToInt] at h
      have e1 : (240 + l2).toNatClampNeg = 240 + k := adN 240 l2 240 k (by decide) hk (by omega)
      have e2 : l2.toNatClampNeg = k := cl1 _ _ hk
      rw [e1, e2]
      refine ih (k + 1) (l2 + 1) _ (ad1 l2 k hk (by omega)) (by omega) (fun p hp => ?_) (fun p hp => ?_)
      · by_cases hpk : p = k
        · rw [hpk, upd_eq, h2 _ (by omega)]
        · rw [upd_ne _ _ hpk]; exact h1 p (by omega)
      · rw [upd_ne _ _ (by omega)]; exact h2 p hp
end FAILS
