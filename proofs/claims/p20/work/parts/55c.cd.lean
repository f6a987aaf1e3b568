/-! which codes a sum has -/
def sgC (x : Int32) : Prop := x = 33 ∨ x = 43 ∨ x = 45 ∨ x = 42 ∨ x = 38 ∨ x = 60 ∨ x = 61
def CdO (x : Int32) : Prop := (0 ≤ x.toInt ∧ x.toInt < 4) ∨ (10 ≤ x.toInt ∧ x.toInt ≤ 15) ∨ sgC x
def GdE (e : List Int32) : Prop := ∀ x : Int32, x ∈ e → CdO x
theorem GdE.app {e f : List Int32} (h1 : GdE e) (h2 : GdE f) : GdE (e ++ f) := fun x hx => (List.mem_append.mp hx).elim (h1 x) (h2 x)
theorem GdE.one {x : Int32} (h : CdO x) : GdE [x] := fun y hy => by rw [List.mem_singleton.mp hy]; exact h
theorem GdE.nil : GdE [] := fun x hx => by cases hx
def GdS (S : List Int32) : Prop := ∀ x : Int32, x ∈ S → x = 40 ∨ sgC x
theorem clo_sg {x : Int32} (h : 1 ≤ clo x) : sgC x := by
  unfold clo at h
  unfold sgC
  split at h
  · rename_i h1
    rcases h1 with h1 | h1 <;> simp [h1]
  · split at h
    · rename_i h1
      rcases h1 with h1 | h1 <;> simp [h1]
    · split at h
      · rename_i h1
        rcases h1 with h1 | h1 <;> simp [h1]
      · omega
theorem popGe_g (c : Nat) : ∀ (S out : List Int32), GdS S → GdE out → GdS (popGe c S out).1 ∧ (1 ≤ c → GdE (popGe c S out).2) := by
  intro S
  induction S with
  | nil => intro out h1 h2; exact ⟨h1, fun _ => h2⟩
  | cons x S ih =>
    intro out h1 h2
    unfold popGe
    by_cases hc : c ≤ clo x
    · rw [if_pos hc]
      have hS : GdS S := fun y hy => h1 y (List.mem_cons_of_mem _ hy)
      refine ⟨?_, fun h => ?_⟩
      · by_cases h9 : 1 ≤ c
        · exact (ih _ hS (h2.app (GdE.one (Or.inr (Or.inr (clo_sg (by omega))))))).1
        · have gen : ∀ (S o : List Int32), GdS S → GdS (popGe c S o).1 := by
            intro S
            induction S with
            | nil => intro o h; exact h
            | cons y S ih2 =>
              intro o h
              unfold popGe
              split
              · exact ih2 _ (fun z hz => h z (List.mem_cons_of_mem _ hz))
              · exact h
          exact gen S _ hS
      · exact (ih _ hS (h2.app (GdE.one (Or.inr (Or.inr (clo_sg (by omega))))))).2 h
    · rw [if_neg hc]
      exact ⟨h1, fun _ => h2⟩
theorem popTo_g : ∀ (S out : List Int32), GdS S → GdE out → GdS (popTo S out).1 ∧ GdE (popTo S out).2 := by
  intro S
  induction S with
  | nil => intro out h1 h2; exact ⟨h1, h2⟩
  | cons x S ih =>
    intro out h1 h2
    have hS : GdS S := fun y hy => h1 y (List.mem_cons_of_mem _ hy)
    unfold popTo
    by_cases hx : x = 40
    · rw [if_pos hx]; exact ⟨hS, h2⟩
    · rw [if_neg hx]
      exact ih _ hS (h2.app (GdE.one (Or.inr (Or.inr ((h1 x List.mem_cons_self).elim (fun h => absurd h hx) id)))))
theorem popNq_g : ∀ (S : List Int32) (o : Int) (out : List Int32), GdS S → GdE out → GdS (popNq S o out).1 ∧ GdE (popNq S o out).2.2 := by
  intro S
  induction S with
  | nil => intro o out h1 h2; exact ⟨h1, h2⟩
  | cons x S ih =>
    intro o out h1 h2
    have hS : GdS S := fun y hy => h1 y (List.mem_cons_of_mem _ hy)
    unfold popNq
    by_cases hx : x = 33
    · rw [if_pos hx]
      exact ih _ _ hS (h2.app (GdE.one (Or.inr (Or.inr (Or.inl rfl)))))
    · rw [if_neg hx]; exact ⟨h1, h2⟩
theorem hasO_g : ∀ (S : List Int32), GdS S → hasO S = false → GdE S := by
  intro S
  induction S with
  | nil => intro _ _; exact GdE.nil
  | cons x S ih =>
    intro h1 h2
    unfold hasO at h2
    have h3 := Bool.or_eq_false_iff.mp h2
    have hx : x ≠ 40 := of_decide_eq_false h3.1
    intro y hy
    rcases List.mem_cons.mp hy with e | e
    · rw [e]; exact Or.inr (Or.inr ((h1 x List.mem_cons_self).elim (fun h => absurd h hx) id))
    · exact ih (fun z hz => h1 z (List.mem_cons_of_mem _ hz)) h3.2 y e
theorem STR2.g1 {E : Nat} {k v : Nat → Int32} (h : STR2 E k v) {j : Nat} (hj : j ≤ E) (hk : k j ≠ 0) : j + 1 ≤ E := by
  rcases Nat.lt_or_ge j E with h1 | h1
  · exact h1
  · have : j = E := Nat.le_antisymm hj h1
    subst this
    exact absurd h.2.1 hk
theorem sum_cd {E : Nat} {k v : Nat → Int32} (hS : STR2 E k v) : ∀ (n : Nat) (w : Bool) (S : List Int32) (o : Int) (lv j : Nat) (out : List Int32) (r : Nat × List Int32), j ≤ E → GdS S → GdE out → sumBq k v n (w, S, o, lv, j, out) = some (some r) → r.1 ≤ E ∧ GdE r.2 := by
  intro n
  induction n with
  | zero => intro w S o lv j out r _ _ _ h; cases h
  | succ n ih =>
    intro w S o lv j out r hj h1 h2 h
    have hpn : ∀ (S : List Int32) (o : Int) (lv j : Nat) (out : List Int32), j ≤ E → GdS S → GdE out → sumBq k v n (pnC S o lv j out) = some (some r) → r.1 ≤ E ∧ GdE r.2 := by
      intro S o lv j out a b c h
      unfold pnC at h
      obtain ⟨d, e⟩ := popNq_g S o out b c
      exact ih _ _ _ _ _ _ _ a d e h
    rw [sumBq] at h
    split at h
    · split at h
      · rename_i hk
        have hk0 : k j ≠ 0 := by rcases hk.1 with h | h <;> rw [h] <;> decide
        refine ih _ _ _ _ _ _ _ (hS.g1 hj hk0) (fun x hx => ?_) h2 h
        rcases List.mem_cons.mp hx with e | e
        · rw [e]; rcases hk.1 with h | h
          · rw [h]; exact Or.inr (Or.inl rfl)
          · exact Or.inl h
        · exact h1 x e
      · split at h
        · rename_i hk
          have hk0 : k j ≠ 0 := by rcases hk.1 with h | ⟨h, _⟩ <;> rw [h] <;> decide
          refine hpn _ _ _ _ _ (hS.g1 hj hk0) h1 (h2.app (GdE.one ?_)) h
          obtain ⟨b1, b2, b3⟩ := hS.2.2.2 j hj
          unfold lfc
          rcases hk.1 with e | ⟨e, e2⟩
          · rw [if_pos e]
            have hv := b3 e
            have hs : (10 + v j).toInt = 10 + (v j).toInt := by
              rw [Int32.toInt_add]
              simp only [Int32.reduceToInt]
              exact bmI (by omega) (by omega)
            exact Or.inr (Or.inl ⟨by omega, by omega⟩)
          · rw [if_neg (by rw [e]; decide)]
            rw [Int32.lt_iff_toInt_lt] at e2
            simp only [Int32.reduceToInt] at e2
            exact Or.inl ⟨b1, e2⟩
        · cases h
    · split at h
      · rename_i hk
        have hc1 : 1 ≤ clo (k j) := by rcases hk with h | ⟨h, _⟩ <;> omega
        have hk0 : k j ≠ 0 := by
          intro h9
          rw [h9] at hc1
          exact absurd hc1 (by decide)
        obtain ⟨d, e⟩ := popGe_g (clo (k j)) S out h1 h2
        refine ih _ _ _ _ _ _ _ (hS.g1 hj hk0) (fun x hx => ?_) (e hc1) h
        rcases List.mem_cons.mp hx with e | e
        · rw [e]; exact Or.inr (clo_sg hc1)
        · exact d x e
      · split at h
        · rename_i hk
          obtain ⟨d, e⟩ := popTo_g S out h1 h2
          exact hpn _ _ _ _ _ (hS.g1 hj (by rw [hk.1]; decide)) d e h
        · split at h
          · cases h
          · rename_i hO
            cases h
            refine ⟨hj, h2.app (hasO_g S h1 ?_)⟩
            cases hh : hasO S with
            | true => exact absurd hh hO
            | false => rfl
theorem smT_cd {E : Nat} {k v : Nat → Int32} (hS : STR2 E k v) {n j : Nat} (hj : j ≤ E) {f : Nat → List Int32 → TRs} {r : TRt} (h : smT k v n j f = some (some r)) : ∃ (j' : Nat) (e : List Int32), j' ≤ E ∧ GdE e ∧ f j' e = some (some r) := by
  unfold smT at h
  split at h
  · cases h
  · cases h
  · rename_i r9 h9
    obtain ⟨a, b⟩ := sum_cd hS n true [] 0 0 j [] r9 hj (fun x hx => by cases hx) GdE.nil h9
    exact ⟨_, _, a, b, h⟩
theorem st_cd {E : Nat} {k v : Nat → Int32} (hS : STR2 E k v) : ∀ (n : Nat) (D : List SRc) (M N : Nat → Nat) (S : List (Nat × Bool)) (j : Nat) (r : TRt), j ≤ E → (∀ x : SRc, x ∈ D → GdE x.2.2.1) → stB k v n (D, M, N, S, j) = some (some r) → ∀ x : SRc, x ∈ r.1 → GdE x.2.2.1 := by
  intro n
  induction n with
  | zero => intro D M N S j r _ _ h; cases h
  | succ n ih =>
    intro D M N S j r hj hD h
    have hgo : ∀ (x : SRc) (S2 : List (Nat × Bool)) (j2 : Nat), j2 ≤ E → GdE x.2.2.1 → stB k v n (D ++ [x], M, N, S2, j2) = some (some r) → ∀ x : SRc, x ∈ r.1 → GdE x.2.2.1 := by
      intro x S2 j2 a b h
      refine ih _ _ _ _ _ _ a (fun y hy => ?_) h
      rcases List.mem_append.mp hy with e | e
      · exact hD y e
      · rw [List.mem_singleton.mp e]; exact b
    rw [stB] at h
    split at h
    · split at h
      · split at h
        · rename_i hk
          have hj1 := hS.g1 hj (by rw [hk]; decide)
          split at h
          · rename_i hk1
            have hj2 := hS.g1 hj1 (by rw [hk1]; decide)
            obtain ⟨j', e, a, b, h⟩ := smT_cd hS hj2 h
            split at h
            · rename_i hk2
              exact hgo _ _ _ (hS.g1 a (by rw [hk2]; decide)) b h
            · cases h
          · cases h
        · split at h
          · rename_i hk
            have hj1 := hS.g1 hj (by rw [hk]; decide)
            split at h
            · rename_i hk1
              have hj2 := hS.g1 hj1 (by rw [hk1.1]; decide)
              obtain ⟨j', e, a, b, h⟩ := smT_cd hS hj2 h
              split at h
              · rename_i hk2
                exact hgo _ _ _ (hS.g1 a (by rw [hk2]; decide)) b h
              · cases h
            · cases h
          · split at h
            · rename_i hk
              have hj1 := hS.g1 hj (by rw [hk]; decide)
              obtain ⟨j', e, a, b, h⟩ := smT_cd hS hj1 h
              split at h
              · rename_i h9
                exact hgo _ _ _ (hS.g1 a (by rw [h9.1]; decide)) b h
              · cases h
            · rename_i hb _ h2 h4 h5
              have hk : k j = 7 := by
                rcases hb with e | e | e | e
                · exact absurd e h2
                · exact absurd e h4
                · exact absurd e h5
                · exact e
              have hj1 := hS.g1 hj (by rw [hk]; decide)
              split at h
              · rename_i hk1
                have hj2 := hS.g1 hj1 (by rw [hk1.1]; decide)
                split at h
                · rename_i h9
                  exact hgo _ _ _ (hS.g1 hj2 (by rw [h9.1]; decide)) GdE.nil h
                · cases h
              · cases h
      · cases h
    · cases S with
      | nil =>
        simp only [stC] at h
        split at h
        · cases h; exact hD
        · cases h
      | cons x S =>
        obtain ⟨i, b⟩ := x
        simp only [stC] at h
        split at h
        · rename_i hk
          have hj1 := hS.g1 hj (by rw [hk]; decide)
          split at h
          · rename_i h9
            have hj2 := hS.g1 hj1 (by rw [h9.2.2]; decide)
            split at h
            · rename_i hk2
              exact ih _ _ _ _ _ _ (hS.g1 hj2 (by rw [hk2]; decide)) hD h
            · cases h
          · exact ih _ _ _ _ _ _ hj1 hD h
        · cases h
theorem Hl2.cd {E : Nat} {k v : Nat → Int32} (hS : STR2 E k v) {D : List SRc} {M N : Nat → Nat} {j : Nat} (h : Hl2 k v ([], fun _ => 0, fun _ => 0, [], 0) (D, M, N, j)) : ∀ x : SRc, x ∈ D → GdE x.2.2.1 := by
  obtain ⟨m, h⟩ := h
  exact st_cd hS (0 + m) [] _ _ [] 0 _ (Nat.zero_le _) (fun x hx => by cases hx) (h 0)
