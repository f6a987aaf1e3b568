/-! the machine of statements over a stream of tokens, with what each statement is -/
def begK (x : Int32) : Prop := x = 2 ∨ x = 4 ∨ x = 5 ∨ x = 7
theorem begK_ne {x : Int32} (h : begK x) : x ≠ 0 ∧ x ≠ 125 := by
  rcases h with rfl | rfl | rfl | rfl <;> decide
/-- kind, number, code, the statement above -/
abbrev SRc : Type := Int32 × Int32 × List Int32 × Int32
abbrev TCg : Type := List SRc × (Nat → Nat) × (Nat → Nat) × List (Nat × Bool) × Nat
abbrev TRt : Type := List SRc × (Nat → Nat) × (Nat → Nat) × Nat
abbrev TRs : Type := Option (Option TRt)
def parO : List (Nat × Bool) → Int32
  | [] => -1
  | x :: _ => Int32.ofNat x.1
def upN (f : Nat → Nat) (i x : Nat) : Nat → Nat := fun j => if j = i then x else f j
theorem upN_eq (f : Nat → Nat) (i x : Nat) : upN f i x i = x := by simp [upN]
theorem upN_ne (f : Nat → Nat) {i j : Nat} (x : Nat) (h : j ≠ i) : upN f i x j = f j := by simp [upN, h]
def kdO (D : List SRc) (i : Nat) : Option Int32 := (D[i]?).map (fun r => r.1)
def smT (k v : Nat → Int32) (n j : Nat) (f : Nat → List Int32 → TRs) : TRs :=
  match sumBq k v n (true, [], 0, 0, j, []) with
  | none => none
  | some none => some none
  | some (some r) => f r.1 r.2
def stC (k : Nat → Int32) (f : TCg → TRs) (D : List SRc) (M N : Nat → Nat) : List (Nat × Bool) → Nat → TRs
  | [], j => if k j = 0 then some (some (D, M, N, j)) else some none
  | (i, b) :: S', j =>
    if k j = 125 then
      if b = false ∧ kdO D i = some 2 ∧ k (j + 1) = 6 then (if k (j + 2) = 123 then f (D, (if b = true then M else upN M i D.length), upN N i D.length, (i, true) :: S', j + 3) else some none)
      else f (D, (if b = true then M else upN M i D.length), upN N i D.length, S', j + 1)
    else some none
def stB (k v : Nat → Int32) : Nat → TCg → TRs
  | 0, _ => none
  | n + 1, (D, M, N, S, j) =>
    if k j = 2 ∨ k j = 4 ∨ k j = 5 ∨ k j = 7 then
      if D.length < 30 then
        if k j = 2 then
          if k (j + 1) = 61 then smT k v n (j + 2) (fun j' e => if k j' = 59 then stB k v n (D ++ [(0, v j, e, parO S)], M, N, S, j' + 1) else some none) else some none
        else if k j = 4 then
          if k (j + 1) = 3 ∧ v (j + 1) ≤ 3 then smT k v n (j + 2) (fun j' e => if k j' = 59 then stB k v n (D ++ [(1, v (j + 1), e, parO S)], M, N, S, j' + 1) else some none) else some none
        else if k j = 5 then
          smT k v n (j + 1) (fun j' e => if k j' = 123 ∧ S.length < 6 then stB k v n (D ++ [(2, 0, e, parO S)], M, N, (D.length, false) :: S, j' + 1) else some none)
        else
          if k (j + 1) = 3 ∧ v (j + 1) ≤ 8 then (if k (j + 2) = 123 ∧ S.length < 6 then stB k v n (D ++ [(3, v (j + 1), [], parO S)], M, N, (D.length, false) :: S, j + 3) else some none) else some none
      else some none
    else stC k (stB k v n) D M N S j
def Rc2 (k v : Nat → Int32) (c d : TCg) : Prop := ∃ m m' : Nat, ∀ n : Nat, stB k v (n + m) c = stB k v (n + m') d
def Fl2 (k v : Nat → Int32) (c : TCg) : Prop := ∃ m : Nat, ∀ n : Nat, stB k v (n + m) c = some none
def Hl2 (k v : Nat → Int32) (c : TCg) (r : TRt) : Prop := ∃ m : Nat, ∀ n : Nat, stB k v (n + m) c = some (some r)
theorem Rc2.rf {k v : Nat → Int32} {c : TCg} : Rc2 k v c c := ⟨0, 0, fun _ => rfl⟩
theorem Rc2.tr {k v : Nat → Int32} {a b c : TCg} (h1 : Rc2 k v a b) (h2 : Rc2 k v b c) : Rc2 k v a c := by
  obtain ⟨m1, p1, h1⟩ := h1
  obtain ⟨m2, p2, h2⟩ := h2
  refine ⟨m2 + m1, p1 + p2, fun n => ?_⟩
  rw [← Nat.add_assoc, h1 (n + m2), Nat.add_right_comm, h2 (n + p1), Nat.add_assoc]
theorem Rc2.fl {k v : Nat → Int32} {a b : TCg} (h1 : Rc2 k v a b) (h2 : Fl2 k v b) : Fl2 k v a := by
  obtain ⟨m1, p1, h1⟩ := h1
  obtain ⟨m2, h2⟩ := h2
  refine ⟨m2 + m1, fun n => ?_⟩
  rw [← Nat.add_assoc, h1 (n + m2), Nat.add_right_comm, h2 (n + p1)]
theorem Rc2.hl {k v : Nat → Int32} {a b : TCg} {r : TRt} (h1 : Rc2 k v a b) (h2 : Hl2 k v b r) : Hl2 k v a r := by
  obtain ⟨m1, p1, h1⟩ := h1
  obtain ⟨m2, h2⟩ := h2
  refine ⟨m2 + m1, fun n => ?_⟩
  rw [← Nat.add_assoc, h1 (n + m2), Nat.add_right_comm, h2 (n + p1)]
theorem Fl2.hl {k v : Nat → Int32} {c : TCg} {r : TRt} (h1 : Fl2 k v c) (h2 : Hl2 k v c r) : False := by
  obtain ⟨m1, h1⟩ := h1
  obtain ⟨m2, h2⟩ := h2
  have e1 := h1 m2
  have e2 := h2 m1
  rw [Nat.add_comm, e2] at e1
  cases e1
theorem smT_ok {k v : Nat → Int32} {n j j' : Nat} {e : List Int32} {f : Nat → List Int32 → TRs} (h : sumBq k v n (true, [], 0, 0, j, []) = some (some (j', e))) : smT k v n j f = f j' e := by unfold smT; rw [h]
theorem smT_no {k v : Nat → Int32} {n j : Nat} {f : Nat → List Int32 → TRs} (h : sumBq k v n (true, [], 0, 0, j, []) = some none) : smT k v n j f = some none := by unfold smT; rw [h]
section STEPS
variable {k v : Nat → Int32} {M N : Nat → Nat} {D : List SRc} {S : List (Nat × Bool)} {j j' : Nat} {e : List Int32}
theorem s_set (h : k j = 2) (hd : D.length < 30) (h1 : k (j + 1) = 61) (h2 : Hlt k v (true, [], 0, 0, j + 2, []) (j', e)) (h3 : k j' = 59) : Rc2 k v (D, M, N, S, j) (D ++ [(0, v j, e, parO S)], M, N, S, j' + 1) := by
  obtain ⟨m, hm⟩ := h2
  refine ⟨m + 1, m, fun n => ?_⟩
  rw [← Nat.add_assoc, stB, if_pos (Or.inl h), if_pos hd, if_pos h, if_pos h1, smT_ok (hm n), if_pos h3]
theorem s_set3 (h : k j = 2) (hd : D.length < 30) (h1 : k (j + 1) = 61) (h2 : Hlt k v (true, [], 0, 0, j + 2, []) (j', e)) (h3 : k j' ≠ 59) : Fl2 k v (D, M, N, S, j) := by
  obtain ⟨m, hm⟩ := h2
  refine ⟨m + 1, fun n => ?_⟩
  rw [← Nat.add_assoc, stB, if_pos (Or.inl h), if_pos hd, if_pos h, if_pos h1, smT_ok (hm n), if_neg h3]
theorem s_set2 (h : k j = 2) (hd : D.length < 30) (h1 : k (j + 1) = 61) (h2 : Fls k v (true, [], 0, 0, j + 2, [])) : Fl2 k v (D, M, N, S, j) := by
  obtain ⟨m, hm⟩ := h2
  refine ⟨m + 1, fun n => ?_⟩
  rw [← Nat.add_assoc, stB, if_pos (Or.inl h), if_pos hd, if_pos h, if_pos h1, smT_no (hm n)]
theorem s_set1 (h : k j = 2) (hd : D.length < 30) (h1 : k (j + 1) ≠ 61) : Fl2 k v (D, M, N, S, j) :=
  ⟨1, fun n => by rw [stB, if_pos (Or.inl h), if_pos hd, if_pos h, if_neg h1]⟩
theorem n42 (h : k j = 4) : ¬ k j = 2 := by rw [h]; decide
theorem n52 (h : k j = 5) : ¬ k j = 2 := by rw [h]; decide
theorem n54 (h : k j = 5) : ¬ k j = 4 := by rw [h]; decide
theorem n72 (h : k j = 7) : ¬ k j = 2 := by rw [h]; decide
theorem n74 (h : k j = 7) : ¬ k j = 4 := by rw [h]; decide
theorem n75 (h : k j = 7) : ¬ k j = 5 := by rw [h]; decide
theorem s_out (h : k j = 4) (hd : D.length < 30) (h1 : k (j + 1) = 3 ∧ v (j + 1) ≤ 3) (h2 : Hlt k v (true, [], 0, 0, j + 2, []) (j', e)) (h3 : k j' = 59) : Rc2 k v (D, M, N, S, j) (D ++ [(1, v (j + 1), e, parO S)], M, N, S, j' + 1) := by
  obtain ⟨m, hm⟩ := h2
  refine ⟨m + 1, m, fun n => ?_⟩
  rw [← Nat.add_assoc, stB, if_pos (Or.inr (Or.inl h)), if_pos hd, if_neg (n42 h), if_pos h, if_pos h1, smT_ok (hm n), if_pos h3]
theorem s_out3 (h : k j = 4) (hd : D.length < 30) (h1 : k (j + 1) = 3 ∧ v (j + 1) ≤ 3) (h2 : Hlt k v (true, [], 0, 0, j + 2, []) (j', e)) (h3 : k j' ≠ 59) : Fl2 k v (D, M, N, S, j) := by
  obtain ⟨m, hm⟩ := h2
  refine ⟨m + 1, fun n => ?_⟩
  rw [← Nat.add_assoc, stB, if_pos (Or.inr (Or.inl h)), if_pos hd, if_neg (n42 h), if_pos h, if_pos h1, smT_ok (hm n), if_neg h3]
theorem s_out2 (h : k j = 4) (hd : D.length < 30) (h1 : k (j + 1) = 3 ∧ v (j + 1) ≤ 3) (h2 : Fls k v (true, [], 0, 0, j + 2, [])) : Fl2 k v (D, M, N, S, j) := by
  obtain ⟨m, hm⟩ := h2
  refine ⟨m + 1, fun n => ?_⟩
  rw [← Nat.add_assoc, stB, if_pos (Or.inr (Or.inl h)), if_pos hd, if_neg (n42 h), if_pos h, if_pos h1, smT_no (hm n)]
theorem s_out1 (h : k j = 4) (hd : D.length < 30) (h1 : ¬ (k (j + 1) = 3 ∧ v (j + 1) ≤ 3)) : Fl2 k v (D, M, N, S, j) :=
  ⟨1, fun n => by rw [stB, if_pos (Or.inr (Or.inl h)), if_pos hd, if_neg (n42 h), if_pos h, if_neg h1]⟩
theorem s_if (h : k j = 5) (hd : D.length < 30) (h2 : Hlt k v (true, [], 0, 0, j + 1, []) (j', e)) (h3 : k j' = 123 ∧ S.length < 6) : Rc2 k v (D, M, N, S, j) (D ++ [(2, 0, e, parO S)], M, N, (D.length, false) :: S, j' + 1) := by
  obtain ⟨m, hm⟩ := h2
  refine ⟨m + 1, m, fun n => ?_⟩
  rw [← Nat.add_assoc, stB, if_pos (Or.inr (Or.inr (Or.inl h))), if_pos hd, if_neg (n52 h), if_neg (n54 h), if_pos h, smT_ok (hm n), if_pos h3]
theorem s_if3 (h : k j = 5) (hd : D.length < 30) (h2 : Hlt k v (true, [], 0, 0, j + 1, []) (j', e)) (h3 : ¬ (k j' = 123 ∧ S.length < 6)) : Fl2 k v (D, M, N, S, j) := by
  obtain ⟨m, hm⟩ := h2
  refine ⟨m + 1, fun n => ?_⟩
  rw [← Nat.add_assoc, stB, if_pos (Or.inr (Or.inr (Or.inl h))), if_pos hd, if_neg (n52 h), if_neg (n54 h), if_pos h, smT_ok (hm n), if_neg h3]
theorem s_if2 (h : k j = 5) (hd : D.length < 30) (h2 : Fls k v (true, [], 0, 0, j + 1, [])) : Fl2 k v (D, M, N, S, j) := by
  obtain ⟨m, hm⟩ := h2
  refine ⟨m + 1, fun n => ?_⟩
  rw [← Nat.add_assoc, stB, if_pos (Or.inr (Or.inr (Or.inl h))), if_pos hd, if_neg (n52 h), if_neg (n54 h), if_pos h, smT_no (hm n)]
theorem s_loop (h : k j = 7) (hd : D.length < 30) (h1 : k (j + 1) = 3 ∧ v (j + 1) ≤ 8) (h3 : k (j + 2) = 123 ∧ S.length < 6) : Rc2 k v (D, M, N, S, j) (D ++ [(3, v (j + 1), [], parO S)], M, N, (D.length, false) :: S, j + 3) :=
  ⟨1, 0, fun n => by rw [stB, if_pos (Or.inr (Or.inr (Or.inr h))), if_pos hd, if_neg (n72 h), if_neg (n74 h), if_neg (n75 h), if_pos h1, if_pos h3]; rfl⟩
theorem s_loop3 (h : k j = 7) (hd : D.length < 30) (h1 : k (j + 1) = 3 ∧ v (j + 1) ≤ 8) (h3 : ¬ (k (j + 2) = 123 ∧ S.length < 6)) : Fl2 k v (D, M, N, S, j) :=
  ⟨1, fun n => by rw [stB, if_pos (Or.inr (Or.inr (Or.inr h))), if_pos hd, if_neg (n72 h), if_neg (n74 h), if_neg (n75 h), if_pos h1, if_neg h3]⟩
theorem s_loop1 (h : k j = 7) (hd : D.length < 30) (h1 : ¬ (k (j + 1) = 3 ∧ v (j + 1) ≤ 8)) : Fl2 k v (D, M, N, S, j) :=
  ⟨1, fun n => by rw [stB, if_pos (Or.inr (Or.inr (Or.inr h))), if_pos hd, if_neg (n72 h), if_neg (n74 h), if_neg (n75 h), if_neg h1]⟩
theorem s_full (h : begK (k j)) (hd : ¬ D.length < 30) : Fl2 k v (D, M, N, S, j) := by
  unfold begK at h
  exact ⟨1, fun n => by rw [stB, if_pos h, if_neg hd]⟩
theorem s_end (h : k j = 0) : Hl2 k v (D, M, N, [], j) (D, M, N, j) :=
  ⟨1, fun n => by rw [stB, if_neg (by rw [h]; decide)]; simp only [stC, if_pos h]⟩
theorem s_none (h : ¬ begK (k j)) (h0 : k j ≠ 0) : Fl2 k v (D, M, N, [], j) := by
  unfold begK at h
  exact ⟨1, fun n => by rw [stB, if_neg h]; simp only [stC, if_neg h0]⟩
theorem s_ncl {i : Nat} {b : Bool} (h : ¬ begK (k j)) (h0 : k j ≠ 125) : Fl2 k v (D, M, N, (i, b) :: S, j) := by
  unfold begK at h
  exact ⟨1, fun n => by rw [stB, if_neg h]; simp only [stC, if_neg h0]⟩
theorem s_cl {i : Nat} {b : Bool} (h : k j = 125) (h0 : ¬ (b = false ∧ kdO D i = some 2 ∧ k (j + 1) = 6)) : Rc2 k v (D, M, N, (i, b) :: S, j) (D, (if b = true then M else upN M i D.length), upN N i D.length, S, j + 1) :=
  ⟨1, 0, fun n => by rw [stB, if_neg (by rw [h]; decide)]; simp only [stC, if_pos h, if_neg h0]; rfl⟩
theorem s_else {i : Nat} {b : Bool} (h : k j = 125) (h0 : b = false ∧ kdO D i = some 2 ∧ k (j + 1) = 6) (h1 : k (j + 2) = 123) : Rc2 k v (D, M, N, (i, b) :: S, j) (D, (if b = true then M else upN M i D.length), upN N i D.length, (i, true) :: S, j + 3) :=
  ⟨1, 0, fun n => by rw [stB, if_neg (by rw [h]; decide)]; simp only [stC, if_pos h, if_pos h0, if_pos h1]; rfl⟩
theorem s_else1 {i : Nat} {b : Bool} (h : k j = 125) (h0 : b = false ∧ kdO D i = some 2 ∧ k (j + 1) = 6) (h1 : k (j + 2) ≠ 123) : Fl2 k v (D, M, N, (i, b) :: S, j) :=
  ⟨1, fun n => by rw [stB, if_neg (by rw [h]; decide)]; simp only [stC, if_pos h, if_pos h0, if_neg h1]⟩
end STEPS
