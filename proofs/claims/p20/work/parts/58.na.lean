/-! how the statements of a program that the machine made stand in one another -/
def kf (D : List SRc) (i : Nat) : Int32 := ((D[i]?).map (fun r => r.1)).getD 0
def pf (D : List SRc) (i : Nat) : Int32 := ((D[i]?).map (fun r => r.2.2.2)).getD 0
def bkP (D : List SRc) (i : Nat) : Prop := kf D i = 2 ∨ kf D i = 3
def EnD (D : List SRc) (N : Nat → Nat) (i : Nat) : Nat := if kf D i = 2 ∨ kf D i = 3 then N i else i + 1
def opS (S : List (Nat × Bool)) (i : Nat) : Prop := ∃ b : Bool, (i, b) ∈ S
def HdP (D : List SRc) (N : Nat → Nat) (S : List (Nat × Bool)) (i m L : Nat) : Prop := i + 1 ≤ m ∧ m ≤ L ∧ ∀ j : Nat, i < j → j < m → ¬ opS S j ∧ EnD D N j ≤ m
def dpS (dp : Nat → Nat) : List (Nat × Bool) → Prop
  | [] => True
  | x :: S => dp x.1 = S.length ∧ dpS dp S
def covP (D : List SRc) (N : Nat → Nat) (S : List (Nat × Bool)) (k j : Nat) : Prop := bkP D k ∧ k < j ∧ (opS S k ∨ j < N k)
def parP (D : List SRc) (N : Nat → Nat) (S : List (Nat × Bool)) (j : Nat) : Prop :=
  (pf D j = -1 ∧ ∀ k : Nat, ¬ covP D N S k j) ∨ ∃ p : Nat, pf D j = Int32.ofNat p ∧ covP D N S p j ∧ ∀ k : Nat, covP D N S k j ↔ k = p ∨ covP D N S k p
def MIv (D : List SRc) (M N dp : Nat → Nat) (S : List (Nat × Bool)) : Prop :=
  S.Pairwise (fun x y => y.1 < x.1) ∧
  (∀ x : Nat × Bool, x ∈ S → x.1 < D.length ∧ bkP D x.1 ∧ (x.2 = true → kf D x.1 = 2 ∧ HdP D N S x.1 (M x.1) D.length)) ∧
  (∀ i : Nat, i < D.length → ¬ opS S i → HdP D N S i (EnD D N i) D.length ∧ (kf D i = 2 → HdP D N S i (M i) (N i)) ∧ (kf D i = 3 → M i = N i)) ∧
  (∀ i : Nat, i < D.length → ¬ opS S i → ∀ x : Nat × Bool, x ∈ S → i < x.1 → EnD D N i ≤ x.1) ∧
  dpS dp S ∧ S.length ≤ 6 ∧
  (∀ i : Nat, i < D.length → bkP D i → dp i ≤ 5) ∧
  (∀ i j : Nat, i < j → j < D.length → (opS S i ∨ (¬ opS S i ∧ j < EnD D N i)) → dp i < dp j) ∧
  (∀ j : Nat, j < D.length → parP D N S j) ∧
  (∀ r : SRc, r ∈ D → (r.1 = 0 ∨ r.1 = 1 ∨ r.1 = 2 ∨ r.1 = 3) ∧ (r.1 = 3 → r.2.2.1 = []))
section NEST
variable {D : List SRc} {M N dp : Nat → Nat} {S : List (Nat × Bool)} {r : SRc} {i : Nat} {b : Bool}
theorem kf_lt (h : i < D.length) : kf (D ++ [r]) i = kf D i := by unfold kf; rw [List.getElem?_append_left h]
theorem kf_eq : kf (D ++ [r]) D.length = r.1 := by unfold kf; rw [List.getElem?_append_right (Nat.le_refl _), Nat.sub_self]; rfl
theorem pf_lt (h : i < D.length) : pf (D ++ [r]) i = pf D i := by unfold pf; rw [List.getElem?_append_left h]
theorem pf_eq : pf (D ++ [r]) D.length = r.2.2.2 := by unfold pf; rw [List.getElem?_append_right (Nat.le_refl _), Nat.sub_self]; rfl
theorem kf_no (h : D.length ≤ i) : kf D i = 0 := by unfold kf; rw [List.getElem?_eq_none h]; rfl
theorem bkP.lt (h : bkP D i) : i < D.length := by
  rcases Nat.lt_or_ge i D.length with h9 | h9
  · exact h9
  · exfalso
    unfold bkP at h
    rw [kf_no h9] at h
    rcases h with h | h <;> exact absurd h (by decide)
theorem En_lt (h : i < D.length) : EnD (D ++ [r]) N i = EnD D N i := by unfold EnD; rw [kf_lt h]
theorem En_bk (h : bkP D i) : EnD D N i = N i := by unfold EnD; exact if_pos h
theorem En_up {x j : Nat} (h : j ≠ i) : EnD D (upN N i x) j = EnD D N j := by unfold EnD; rw [upN_ne N x h]
theorem bk_lt (h : i < D.length) : bkP (D ++ [r]) i ↔ bkP D i := by unfold bkP; rw [kf_lt h]
theorem op_cons {x : Nat × Bool} {k : Nat} : opS (x :: S) k ↔ k = x.1 ∨ opS S k := by
  unfold opS
  constructor
  · rintro ⟨c, h⟩
    rcases List.mem_cons.mp h with h | h
    · exact Or.inl (by rw [← h])
    · exact Or.inr ⟨c, h⟩
  · rintro (h | ⟨c, h⟩)
    · exact ⟨x.2, List.mem_cons.mpr (Or.inl (by rw [h]))⟩
    · exact ⟨c, List.mem_cons.mpr (Or.inr h)⟩
theorem op_mem (h : opS S i) : ∃ x : Nat × Bool, x ∈ S ∧ x.1 = i := by
  obtain ⟨c, h⟩ := h
  exact ⟨(i, c), h, rfl⟩
theorem op_of {x : Nat × Bool} (h : x ∈ S) : opS S x.1 := ⟨x.2, h⟩
theorem dpS_mem : ∀ {S : List (Nat × Bool)}, dpS dp S → ∀ x : Nat × Bool, x ∈ S → dp x.1 < S.length := by
  intro S
  induction S with
  | nil => intro _ x h; cases h
  | cons y S ih =>
    intro h x hx
    rcases List.mem_cons.mp hx with e | e
    · rw [e, h.1, List.length_cons]; omega
    · have := ih h.2 x e
      rw [List.length_cons]; omega
theorem dpS_up {z : Nat} : ∀ {S : List (Nat × Bool)}, (∀ x : Nat × Bool, x ∈ S → x.1 ≠ i) → dpS dp S → dpS (upN dp i z) S := by
  intro S
  induction S with
  | nil => intro _ _; exact True.intro
  | cons y S ih =>
    intro h hd
    refine ⟨?_, ih (fun x hx => h x (List.mem_cons.mpr (Or.inr hx))) hd.2⟩
    rw [upN_ne _ _ (h y (List.mem_cons.mpr (Or.inl rfl)))]
    exact hd.1
theorem HdP.app {m L : Nat} {S2 : List (Nat × Bool)} (h : HdP D N S i m L) (hm : m ≤ D.length) {L2 : Nat} (h2 : m ≤ L2) (ho : ∀ j : Nat, j < D.length → opS S2 j → opS S j) : HdP (D ++ [r]) N S2 i m L2 := by
  obtain ⟨a, b, c⟩ := h
  refine ⟨a, h2, fun j h3 h4 => ?_⟩
  obtain ⟨d, e⟩ := c j h3 h4
  exact ⟨fun h9 => d (ho j (by omega) h9), by rw [En_lt (by omega)]; exact e⟩
/-- a new statement; it may be opened -/
theorem MIv.app {S2 : List (Nat × Bool)} (h : MIv D M N dp S) (hk : (r.1 = 0 ∨ r.1 = 1 ∨ r.1 = 2 ∨ r.1 = 3) ∧ (r.1 = 3 → r.2.2.1 = [])) (hp : r.2.2.2 = parO S) (hS : ((r.1 = 0 ∨ r.1 = 1) ∧ S2 = S) ∨ ((r.1 = 2 ∨ r.1 = 3) ∧ S2 = (D.length, false) :: S ∧ S.length < 6)) : ∃ dp2 : Nat → Nat, MIv (D ++ [r]) M N dp2 S2 := by
  obtain ⟨h1, h2, h3, h4, h5, h6, h7, h8, h9, h10⟩ := h
  have hlen : (D ++ [r]).length = D.length + 1 := by rw [List.length_append]; rfl
  have hopL : ∀ k : Nat, opS S k → k < D.length := fun k hk => by
    obtain ⟨x, hx, e⟩ := op_mem hk
    rw [← e]; exact (h2 x hx).1
  have hop : ∀ j : Nat, j < D.length → (opS S2 j ↔ opS S j) := by
    intro j hj
    rcases hS with ⟨_, e⟩ | ⟨_, e, _⟩
    · rw [e]
    · rw [e, op_cons]
      exact ⟨fun h => h.elim (fun h => absurd h (by show j ≠ D.length; omega)) id, Or.inr⟩
  have hbk : ∀ k : Nat, k < D.length → (bkP (D ++ [r]) k ↔ bkP D k) := fun k hk => bk_lt hk
  have hcov : ∀ k j : Nat, j ≤ D.length → (covP (D ++ [r]) N S2 k j ↔ covP D N S k j) := by
    intro k j hj
    unfold covP
    constructor
    · rintro ⟨a, b, c⟩
      exact ⟨(hbk k (by omega)).mp a, b, c.imp (fun c => (hop k (by omega)).mp c) id⟩
    · rintro ⟨a, b, c⟩
      exact ⟨(hbk k (by omega)).mpr a, b, c.imp (fun c => (hop k (by omega)).mpr c) id⟩
  have hncl : ∀ k : Nat, k < D.length → ¬ opS S k → EnD D N k ≤ D.length := fun k hk hn => (h3 k hk hn).1.2.1
  have hcovL : ∀ k : Nat, covP D N S k D.length ↔ opS S k := by
    intro k
    constructor
    · rintro ⟨a, b, c⟩
      rcases c with c | c
      · exact c
      · rcases Classical.em (opS S k) with h | h
        · exact h
        · have := hncl k b h
          rw [En_bk a] at this
          omega
    · intro h
      obtain ⟨x, hx, e⟩ := op_mem h
      refine ⟨?_, hopL k h, Or.inl h⟩
      rw [← e]; exact (h2 x hx).2.1
  refine ⟨upN dp D.length S.length, ?_, ?_, ?_, ?_, ?_, ?_, ?_, ?_, ?_, ?_⟩
  · rcases hS with ⟨_, e⟩ | ⟨_, e, _⟩
    · rw [e]; exact h1
    · rw [e, List.pairwise_cons]
      exact ⟨fun x hx => (h2 x hx).1, h1⟩
  · intro x hx
    have old : ∀ x : Nat × Bool, x ∈ S → x.1 < (D ++ [r]).length ∧ bkP (D ++ [r]) x.1 ∧ (x.2 = true → kf (D ++ [r]) x.1 = 2 ∧ HdP (D ++ [r]) N S2 x.1 (M x.1) (D ++ [r]).length) := by
      intro x hx
      obtain ⟨a, b, c⟩ := h2 x hx
      refine ⟨by omega, (hbk _ a).mpr b, fun h => ?_⟩
      obtain ⟨d, e⟩ := c h
      exact ⟨by rw [kf_lt a]; exact d, e.app e.2.1 (by have := e.2.1; omega) (fun j hj h => (hop j hj).mp h)⟩
    rcases hS with ⟨_, e⟩ | ⟨hk2, e, _⟩
    · rw [e] at hx; exact old x hx
    · rw [e] at hx
      rcases List.mem_cons.mp hx with e2 | e2
      · rw [e2]
        refine ⟨by show D.length < _; omega, ?_, fun h => by cases h⟩
        show bkP (D ++ [r]) D.length
        unfold bkP; rw [kf_eq]; exact hk2
      · exact old x e2
  · intro i hi hn
    rcases Nat.lt_or_ge i D.length with hl | hl
    · obtain ⟨a, b, c⟩ := h3 i hl (fun h => hn ((hop i hl).mpr h))
      refine ⟨?_, fun h => ?_, fun h => ?_⟩
      · rw [En_lt hl]
        exact a.app a.2.1 (by have := a.2.1; omega) (fun j hj h => (hop j hj).mp h)
      · rw [kf_lt hl] at h
        have q := b h
        have q2 := a.2.1
        rw [En_bk (Or.inl h)] at q2
        exact q.app (by have := q.2.1; omega) q.2.1 (fun j hj h => (hop j hj).mp h)
      · rw [kf_lt hl] at h; exact c h
    · have e : i = D.length := by omega
      subst e
      rcases hS with ⟨hk2, e⟩ | ⟨hk2, e, _⟩
      · have hnb : ¬ (kf (D ++ [r]) D.length = 2 ∨ kf (D ++ [r]) D.length = 3) := by
          rw [kf_eq]
          rcases hk2 with h | h <;> rw [h] <;> decide
        refine ⟨?_, fun h => absurd (Or.inl h) hnb, fun h => absurd (Or.inr h) hnb⟩
        have : EnD (D ++ [r]) N D.length = D.length + 1 := by unfold EnD; exact if_neg hnb
        rw [this]
        exact ⟨Nat.le_refl _, by omega, fun j a b => by omega⟩
      · exfalso
        exact hn (by rw [e]; exact op_cons.mpr (Or.inl rfl))
  · intro i hi hn x hx hix
    rcases Nat.lt_or_ge i D.length with hl | hl
    · have hn2 : ¬ opS S i := fun h => hn ((hop i hl).mpr h)
      rw [En_lt hl]
      rcases hS with ⟨_, e⟩ | ⟨hk2, e, _⟩
      · rw [e] at hx; exact h4 i hl hn2 x hx hix
      · rw [e] at hx
        rcases List.mem_cons.mp hx with e2 | e2
        · rw [e2]; exact hncl i hl hn2
        · exact h4 i hl hn2 x e2 hix
    · exfalso
      have hx2 : x.1 ≤ D.length := by
        rcases hS with ⟨_, e⟩ | ⟨hk2, e, _⟩
        · rw [e] at hx; have := (h2 x hx).1; omega
        · rw [e] at hx
          rcases List.mem_cons.mp hx with e2 | e2
          · rw [e2]; exact Nat.le_refl _
          · have := (h2 x e2).1; omega
      omega
  · have hd : dpS (upN dp D.length S.length) S := dpS_up (fun x hx => by have := (h2 x hx).1; omega) h5
    rcases hS with ⟨_, e⟩ | ⟨hk2, e, _⟩
    · rw [e]; exact hd
    · rw [e]; exact ⟨upN_eq _ _ _, hd⟩
  · rcases hS with ⟨_, e⟩ | ⟨hk2, e, h⟩
    · rw [e]; exact h6
    · rw [e, List.length_cons]; omega
  · intro i hi hb
    rcases Nat.lt_or_ge i D.length with hl | hl
    · rw [upN_ne _ _ (by omega)]
      exact h7 i hl ((hbk i hl).mp hb)
    · have e : i = D.length := by omega
      subst e
      rw [upN_eq]
      rcases hS with ⟨hk2, e⟩ | ⟨hk2, e, h⟩
      · exfalso
        unfold bkP at hb
        rw [kf_eq] at hb
        revert hb
        rcases hk2 with h | h <;> rw [h] <;> decide
      · omega
  · intro i j hij hj hc
    have hil : i < D.length := by omega
    rw [upN_ne dp _ (show i ≠ D.length by omega)]
    have hc2 : opS S i ∨ (¬ opS S i ∧ j < EnD D N i) := by
      rcases hc with h | ⟨h, h9⟩
      · exact Or.inl ((hop i hil).mp h)
      · rw [En_lt hil] at h9
        exact Or.inr ⟨fun h8 => h ((hop i hil).mpr h8), h9⟩
    rcases Nat.lt_or_ge j D.length with hl | hl
    · rw [upN_ne dp _ (show j ≠ D.length by omega)]
      exact h8 i j hij hl hc2
    · have e : j = D.length := by omega
      subst e
      rw [upN_eq]
      rcases hc2 with h | ⟨h, h9⟩
      · obtain ⟨x, hx, e⟩ := op_mem h
        rw [← e]; exact dpS_mem h5 x hx
      · have := hncl i hil h
        omega
  · intro j hj
    rcases Nat.lt_or_ge j D.length with hl | hl
    · have := h9 j hl
      unfold parP
      rw [pf_lt hl]
      rcases this with ⟨a, b⟩ | ⟨p, a, b, c⟩
      · exact Or.inl ⟨a, fun k h => b k ((hcov k j (by omega)).mp h)⟩
      · have hpj : p < j := b.2.1
        exact Or.inr ⟨p, a, (hcov p j (by omega)).mpr b, fun k => by rw [hcov k j (by omega), hcov k p (by omega)]; exact c k⟩
    · have e : j = D.length := by omega
      subst e
      unfold parP
      rw [pf_eq, hp]
      cases S with
      | nil =>
        refine Or.inl ⟨rfl, fun k h => ?_⟩
        have := (hcovL k).mp ((hcov k _ (Nat.le_refl _)).mp h)
        obtain ⟨x, hx, _⟩ := op_mem this
        cases hx
      | cons x S =>
        have hxl : x.1 < D.length := (h2 x (List.mem_cons.mpr (Or.inl rfl))).1
        refine Or.inr ⟨x.1, rfl, (hcov _ _ (Nat.le_refl _)).mpr ((hcovL _).mpr (op_cons.mpr (Or.inl rfl))), fun k => ?_⟩
        rw [hcov k _ (Nat.le_refl _), hcov k x.1 (by omega), hcovL k, op_cons]
        constructor
        · rintro (h | h)
          · exact Or.inl h
          · obtain ⟨y, hy, e⟩ := op_mem h
            refine Or.inr ⟨?_, ?_, Or.inl (op_cons.mpr (Or.inr h))⟩
            · rw [← e]; exact (h2 y (List.mem_cons.mpr (Or.inr hy))).2.1
            · rw [← e]; exact (List.pairwise_cons.mp h1).1 y hy
        · rintro (h | ⟨h, ha, hb⟩)
          · exact Or.inl h
          · rcases Classical.em (opS (x :: S) k) with h9 | h9
            · exact op_cons.mp h9
            · exfalso
              have q := h4 k (by omega) h9 x (List.mem_cons.mpr (Or.inl rfl)) ha
              rw [En_bk h] at q
              rcases hb with hb | hb
              · exact h9 hb
              · omega
  · intro r2 hr
    rcases List.mem_append.mp hr with h | h
    · exact h10 r2 h
    · rw [List.mem_singleton.mp h]; exact hk
/-- the top block's end: it is closed, or its second part begins -/
theorem MIv.cls {S2 : List (Nat × Bool)} (h : MIv D M N dp ((i, b) :: S)) (hS : S2 = S ∨ (S2 = (i, true) :: S ∧ b = false ∧ kf D i = 2)) : MIv D (if b = true then M else upN M i D.length) (upN N i D.length) dp S2 := by
  obtain ⟨h1, h2, h3, h4, h5, h6, h7, h8, h9, h10⟩ := h
  obtain ⟨h1a, h1b⟩ := List.pairwise_cons.mp h1
  obtain ⟨hi, hib, hit⟩ := h2 (i, b) (List.mem_cons.mpr (Or.inl rfl))
  have hi : i < D.length := hi
  have hib : bkP D i := hib
  have hiS : ¬ opS S i := fun h => by
    obtain ⟨x, hx, e⟩ := op_mem h
    have := h1a x hx
    have : x.1 < i := this
    omega
  have hgt : ∀ j : Nat, i < j → ¬ opS ((i, b) :: S) j := fun j hj h => by
    rcases op_cons.mp h with e | e
    · have : j = i := e
      omega
    · obtain ⟨x, hx, e⟩ := op_mem e
      have : x.1 < i := h1a x hx
      omega
  have hop : ∀ j : Nat, opS S2 j → opS ((i, b) :: S) j := by
    intro j hj
    rcases hS with e | ⟨e, _⟩
    · rw [e] at hj; exact op_cons.mpr (Or.inr hj)
    · rw [e] at hj
      exact op_cons.mpr ((op_cons.mp hj).imp id id)
  have hop2 : ∀ j : Nat, j ≠ i → opS ((i, b) :: S) j → opS S2 j := by
    intro j hne hj
    have hj2 : opS S j := (op_cons.mp hj).elim (fun h => absurd h hne) id
    rcases hS with e | ⟨e, _⟩
    · rw [e]; exact hj2
    · rw [e]; exact op_cons.mpr (Or.inr hj2)
  have hMne : ∀ j : Nat, j ≠ i → (if b = true then M else upN M i D.length) j = M j := by
    intro j hj
    split
    · rfl
    · exact upN_ne M _ hj
  have hfull : HdP D (upN N i D.length) S2 i D.length D.length := by
    refine ⟨by omega, Nat.le_refl _, fun j ha hb => ⟨fun h => hgt j ha (hop j h), ?_⟩⟩
    rw [En_up (by omega)]
    exact (h3 j hb (hgt j ha)).1.2.1
  have hmv : ∀ (k m L : Nat), HdP D N ((i, b) :: S) k m L → HdP D (upN N i D.length) S2 k m L := by
    rintro k m L ⟨a, b9, c⟩
    refine ⟨a, b9, fun j ha hb => ?_⟩
    obtain ⟨d, e⟩ := c j ha hb
    have hne : j ≠ i := fun h => d (op_cons.mpr (Or.inl h))
    exact ⟨fun h => d (hop j h), by rw [En_up hne]; exact e⟩
  have hcov : ∀ k j : Nat, j < D.length → (covP D (upN N i D.length) S2 k j ↔ covP D N ((i, b) :: S) k j) := by
    intro k j hj
    unfold covP
    constructor
    · rintro ⟨a, b9, c⟩
      refine ⟨a, b9, ?_⟩
      by_cases hk : k = i
      · exact Or.inl (op_cons.mpr (Or.inl hk))
      · rw [upN_ne N _ hk] at c
        exact c.imp (hop k) id
    · rintro ⟨a, b9, c⟩
      refine ⟨a, b9, ?_⟩
      by_cases hk : k = i
      · rw [hk, upN_eq]; exact Or.inr hj
      · rw [upN_ne N _ hk]
        exact c.imp (hop2 k hk) id
  refine ⟨?_, ?_, ?_, ?_, ?_, ?_, h7, ?_, ?_, h10⟩
  · rcases hS with e | ⟨e, _⟩
    · rw [e]; exact h1b
    · rw [e]; exact List.pairwise_cons.mpr ⟨h1a, h1b⟩
  · intro x hx
    have old : ∀ x : Nat × Bool, x ∈ S → x.1 < D.length ∧ bkP D x.1 ∧ (x.2 = true → kf D x.1 = 2 ∧ HdP D (upN N i D.length) S2 x.1 ((if b = true then M else upN M i D.length) x.1) D.length) := by
      intro x hx
      obtain ⟨a, b9, c⟩ := h2 x (List.mem_cons.mpr (Or.inr hx))
      have hne : x.1 ≠ i := by have : x.1 < i := h1a x hx; omega
      refine ⟨a, b9, fun h => ?_⟩
      obtain ⟨d, e⟩ := c h
      rw [hMne _ hne]
      exact ⟨d, hmv _ _ _ e⟩
    rcases hS with e | ⟨e, hb, hk⟩
    · rw [e] at hx; exact old x hx
    · have hx2 := hx
      rw [e] at hx2
      rcases List.mem_cons.mp hx2 with e2 | e2
      · rw [e2]
        refine ⟨hi, hib, fun _ => ⟨hk, ?_⟩⟩
        show HdP D (upN N i D.length) S2 i ((if b = true then M else upN M i D.length) i) D.length
        rw [hb, if_neg (by decide), upN_eq]
        exact hfull
      · exact old x e2
  · intro k hk hn
    by_cases hki : k = i
    · subst hki
      have hS2 : S2 = S := by
        rcases hS with e | ⟨e, _⟩
        · exact e
        · exact absurd (by rw [e]; exact op_cons.mpr (Or.inl rfl)) hn
      refine ⟨?_, fun h => ?_, fun h => ?_⟩
      · rw [En_bk hib, upN_eq]; exact hfull
      · rw [upN_eq]
        cases hb : b with
        | true => rw [if_pos rfl]; exact hmv _ _ _ (hit hb).2
        | false => rw [if_neg (by decide), upN_eq]; exact hfull
      · rw [upN_eq]
        cases hb : b with
        | true =>
          have := (hit hb).1
          exfalso
          have h2 : kf D k = 2 := this
          rw [h] at h2
          exact absurd h2 (by decide)
        | false => rw [if_neg (by decide), upN_eq]
    · have hn2 : ¬ opS ((i, b) :: S) k := fun h => hn (hop2 k hki h)
      obtain ⟨a, b9, c⟩ := h3 k hk hn2
      rw [En_up hki, hMne k hki, upN_ne N _ hki]
      exact ⟨hmv _ _ _ a, fun h => hmv _ _ _ (b9 h), c⟩
  · intro k hk hn x hx hkx
    have hx2 : x.1 = i ∨ x ∈ S := by
      rcases hS with e | ⟨e, _⟩
      · rw [e] at hx; exact Or.inr hx
      · rw [e] at hx
        rcases List.mem_cons.mp hx with e2 | e2
        · exact Or.inl (by rw [e2])
        · exact Or.inr e2
    by_cases hki : k = i
    · exfalso
      rcases hx2 with h | h
      · omega
      · have : x.1 < i := h1a x h
        omega
    · have hn2 : ¬ opS ((i, b) :: S) k := fun h => hn (hop2 k hki h)
      rw [En_up hki]
      rcases hx2 with h | h
      · rw [h] at hkx ⊢
        exact h4 k hk hn2 (i, b) (List.mem_cons.mpr (Or.inl rfl)) hkx
      · exact h4 k hk hn2 x (List.mem_cons.mpr (Or.inr h)) hkx
  · rcases hS with e | ⟨e, _⟩
    · rw [e]; exact h5.2
    · rw [e]; exact ⟨h5.1, h5.2⟩
  · rcases hS with e | ⟨e, _⟩
    · rw [e]; rw [List.length_cons] at h6; omega
    · rw [e]; rw [List.length_cons] at h6 ⊢; omega
  · intro k j hkj hj hc
    refine h8 k j hkj hj ?_
    by_cases hki : k = i
    · exact Or.inl (op_cons.mpr (Or.inl hki))
    · rw [En_up hki] at hc
      rcases hc with h | ⟨h, h9⟩
      · exact Or.inl (hop k h)
      · exact Or.inr ⟨fun h8 => h (hop2 k hki h8), h9⟩
  · intro j hj
    unfold parP
    rcases h9 j hj with ⟨a, b9⟩ | ⟨p, a, b9, c⟩
    · exact Or.inl ⟨a, fun k h => b9 k ((hcov k j hj).mp h)⟩
    · have hpj : p < j := b9.2.1
      exact Or.inr ⟨p, a, (hcov p j hj).mpr b9, fun k => by rw [hcov k j hj, hcov k p (by omega)]; exact c k⟩
end NEST
theorem MIv.nil : MIv [] (fun _ => 0) (fun _ => 0) (fun _ => 0) [] := by
  refine ⟨List.Pairwise.nil, fun x h => (by cases h), fun i h => absurd h (Nat.not_lt_zero _), fun i h => absurd h (Nat.not_lt_zero _), True.intro, Nat.zero_le _, fun i h => absurd h (Nat.not_lt_zero _), fun i j _ h => absurd h (Nat.not_lt_zero _), fun i h => absurd h (Nat.not_lt_zero _), fun r h => (by cases h)⟩
theorem smT_some {k v : Nat → Int32} {n j : Nat} {f : Nat → List Int32 → TRs} {r : TRt} (h : smT k v n j f = some (some r)) : ∃ (j' : Nat) (e : List Int32), f j' e = some (some r) := by
  unfold smT at h
  split at h
  · cases h
  · cases h
  · exact ⟨_, _, h⟩
theorem st_inv (k v : Nat → Int32) : ∀ (n : Nat) (D : List SRc) (M N dp : Nat → Nat) (S : List (Nat × Bool)) (j : Nat) (r : TRt), MIv D M N dp S → stB k v n (D, M, N, S, j) = some (some r) → ∃ dp2 : Nat → Nat, MIv r.1 r.2.1 r.2.2.1 dp2 [] := by
  intro n
  induction n with
  | zero => intro D M N dp S j r _ h; cases h
  | succ n ih =>
    intro D M N dp S j r hI h
    have hgo : ∀ (x : SRc) (S2 : List (Nat × Bool)) (j2 : Nat), ((x.1 = 0 ∨ x.1 = 1 ∨ x.1 = 2 ∨ x.1 = 3) ∧ (x.1 = 3 → x.2.2.1 = [])) → x.2.2.2 = parO S → (((x.1 = 0 ∨ x.1 = 1) ∧ S2 = S) ∨ ((x.1 = 2 ∨ x.1 = 3) ∧ S2 = (D.length, false) :: S ∧ S.length < 6)) → stB k v n (D ++ [x], M, N, S2, j2) = some (some r) → ∃ dp2 : Nat → Nat, MIv r.1 r.2.1 r.2.2.1 dp2 [] := by
      intro x S2 j2 a b c d
      obtain ⟨dp2, hI2⟩ := hI.app a b c
      exact ih _ _ _ _ _ _ _ hI2 d
    rw [stB] at h
    split at h
    · split at h
      · split at h
        · split at h
          · obtain ⟨j', e, h⟩ := smT_some h
            split at h
            · exact hgo _ _ _ ⟨Or.inl rfl, fun h => absurd (show (0 : Int32) = 3 from h) (by decide)⟩ rfl (Or.inl ⟨Or.inl rfl, rfl⟩) h
            · cases h
          · cases h
        · split at h
          · split at h
            · obtain ⟨j', e, h⟩ := smT_some h
              split at h
              · exact hgo _ _ _ ⟨Or.inr (Or.inl rfl), fun h => absurd (show (1 : Int32) = 3 from h) (by decide)⟩ rfl (Or.inl ⟨Or.inr rfl, rfl⟩) h
              · cases h
            · cases h
          · split at h
            · obtain ⟨j', e, h⟩ := smT_some h
              split at h
              · rename_i h9
                exact hgo _ _ _ ⟨Or.inr (Or.inr (Or.inl rfl)), fun h => absurd (show (2 : Int32) = 3 from h) (by decide)⟩ rfl (Or.inr ⟨Or.inl rfl, rfl, h9.2⟩) h
              · cases h
            · split at h
              · split at h
                · rename_i h9
                  exact hgo _ _ _ ⟨Or.inr (Or.inr (Or.inr rfl)), fun _ => rfl⟩ rfl (Or.inr ⟨Or.inr rfl, rfl, h9.2⟩) h
                · cases h
              · cases h
      · cases h
    · cases S with
      | nil =>
        simp only [stC] at h
        split at h
        · cases h; exact ⟨dp, hI⟩
        · cases h
      | cons x S =>
        obtain ⟨i, b⟩ := x
        simp only [stC] at h
        split at h
        · split at h
          · rename_i h9
            split at h
            · refine ih _ _ _ _ _ _ _ (hI.cls (Or.inr ⟨rfl, h9.1, ?_⟩)) h
              have := h9.2.1
              unfold kdO at this
              unfold kf
              rw [this]; rfl
            · cases h
          · exact ih _ _ _ _ _ _ _ (hI.cls (Or.inl rfl)) h
        · cases h
/-- what is known of the program's places -/
def NsT (D : List SRc) (M N dp : Nat → Nat) : Prop :=
  (∀ i : Nat, i < D.length → i + 1 ≤ EnD D N i ∧ EnD D N i ≤ D.length ∧ ∀ j : Nat, i < j → j < EnD D N i → EnD D N j ≤ EnD D N i ∧ dp i < dp j) ∧
  (∀ i : Nat, i < D.length → kf D i = 2 → i + 1 ≤ M i ∧ M i ≤ N i ∧ ∀ j : Nat, i < j → j < M i → EnD D N j ≤ M i) ∧
  (∀ i : Nat, i < D.length → kf D i = 3 → M i = N i) ∧
  (∀ i : Nat, i < D.length → bkP D i → dp i ≤ 5) ∧
  (∀ j : Nat, j < D.length → (pf D j = -1 ∧ ∀ k : Nat, k < j → bkP D k → N k ≤ j) ∨ ∃ p : Nat, pf D j = Int32.ofNat p ∧ p < j ∧ bkP D p ∧ j < N p ∧ ∀ k : Nat, k < j → bkP D k → (j < N k ↔ k = p ∨ (k < p ∧ p < N k))) ∧
  (∀ r : SRc, r ∈ D → (r.1 = 0 ∨ r.1 = 1 ∨ r.1 = 2 ∨ r.1 = 3) ∧ (r.1 = 3 → r.2.2.1 = []))
theorem Hl2.ns {k v : Nat → Int32} {D : List SRc} {M N : Nat → Nat} {j : Nat} (h : Hl2 k v ([], fun _ => 0, fun _ => 0, [], 0) (D, M, N, j)) : ∃ dp : Nat → Nat, NsT D M N dp := by
  obtain ⟨m, h⟩ := h
  obtain ⟨dp, hI⟩ := st_inv k v (0 + m) [] _ _ _ [] 0 _ MIv.nil (h 0)
  obtain ⟨h1, h2, h3, h4, h5, h6, h7, h8, h9, h10⟩ := hI
  have hno : ∀ i : Nat, ¬ opS [] i := fun i h => by
    obtain ⟨x, hx, _⟩ := op_mem h
    cases hx
  refine ⟨dp, fun i hi => ?_, fun i hi hk => ?_, fun i hi => (h3 i hi (hno i)).2.2, h7, fun j hj => ?_, h10⟩
  · obtain ⟨a, b, c⟩ := (h3 i hi (hno i)).1
    exact ⟨a, b, fun j h h9 => ⟨(c j h h9).2, h8 i j h (Nat.lt_of_lt_of_le h9 b) (Or.inr ⟨hno i, h9⟩)⟩⟩
  · obtain ⟨a, b, c⟩ := (h3 i hi (hno i)).2.1 hk
    exact ⟨a, b, fun j h h9 => (c j h h9).2⟩
  · rcases h9 j hj with ⟨a, b⟩ | ⟨p, a, b, c⟩
    · refine Or.inl ⟨a, fun k hk hb => ?_⟩
      rcases Nat.lt_or_ge j (N k) with h | h
      · exact absurd ⟨hb, hk, Or.inr h⟩ (b k)
      · exact h
    · obtain ⟨b1, b2, b3⟩ := b
      refine Or.inr ⟨p, a, b2, b1, b3.elim (fun h => absurd h (hno p)) id, fun k hk hb => ?_⟩
      constructor
      · intro h
        rcases (c k).mp ⟨hb, hk, Or.inr h⟩ with e | ⟨e1, e2, e3⟩
        · exact Or.inl e
        · exact Or.inr ⟨e2, e3.elim (fun h => absurd h (hno k)) id⟩
      · intro h
        obtain ⟨_, _, e3⟩ := (c k).mpr (h.imp id (fun h => ⟨hb, h.1, Or.inr h.2⟩))
        exact e3.elim (fun h => absurd h (hno k)) id
