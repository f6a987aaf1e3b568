/-! p3: rows of partial runs; the machine of sums over a stream of tokens -/
def Par {α : Type} (o : Option α) (Q : α → Prop) : Prop := ∀ a, o = some a → Q a
theorem Par.ret {α : Type} {Q : α → Prop} {a : α} (h : Q a) : Par (some a) Q := by intro b hb; cases hb; exact h
theorem Par.no {α : Type} {Q : α → Prop} : Par (none : Option α) Q := by intro b hb; cases hb
theorem Par.br {α : Type} {Q : α → Prop} {c : Prop} [Decidable c] {x y : Option α} (h1 : c → Par x Q) (h2 : ¬ c → Par y Q) : Par (if c then x else y) Q := by
  by_cases h : c
  · rw [if_pos h]; exact h1 h
  · rw [if_neg h]; exact h2 h
theorem Par.yes {α : Type} {Q : α → Prop} {c : Prop} [Decidable c] {x y : Option α} (h : c) (k : Par x Q) : Par (if c then x else y) Q := by
  rw [if_pos h]; exact k
theorem Par.not {α : Type} {Q : α → Prop} {c : Prop} [Decidable c] {x y : Option α} (h : ¬ c) (k : Par y Q) : Par (if c then x else y) Q := by
  rw [if_neg h]; exact k
theorem Par.bd {α β : Type} {P : α → Prop} {Q : β → Prop} {x : Option α} {f : α → Option β} (h : Par x P) (k : ∀ a, P a → Par (f a) Q) : Par (x.bind f) Q := by
  intro b hb
  cases hx : x with
  | none => rw [hx] at hb; cases hb
  | some a => rw [hx] at hb; exact k a (h a hx) b hb
theorem Par.mono {α : Type} {P Q : α → Prop} {x : Option α} (h : Par x P) (k : ∀ a, P a → Q a) : Par x Q := fun a ha => k a (h a ha)
theorem Tot.par {α : Type} {P Q : α → Prop} {x : Option α} (t : Tot x P) (h : Par x Q) : Tot x (fun a => P a ∧ Q a) := by
  obtain ⟨a, ha, hp⟩ := t
  exact ⟨a, ha, hp, h a ha⟩
theorem ad1 (a : Int32) (j : Nat) (h : a.toInt = (j : Int)) (hj : j < 1000000) : (a + 1).toInt = ((j + 1 : Nat) : Int) := by
  simp only [Int32.toInt_add, Int32.reduceToInt, h]
  rw [bmI (by omega) (by omega)]
  omega
theorem adI (a : Int32) (o : Int) (h : a.toInt = o) (h0 : 0 ≤ o) (h1 : o < 1000000) : (a + 1).toInt = o + 1 := by
  simp only [Int32.toInt_add, Int32.reduceToInt, h]
  rw [bmI (by omega) (by omega)]
theorem cl1 (a : Int32) (j : Nat) (h : a.toInt = (j : Int)) : a.toNatClampNeg = j := by
  have : a.toNatClampNeg = a.toInt.toNat := rfl
  rw [this, h]
  exact Int.toNat_natCast j
def clo (c : Int32) : Nat := if c = 42 ∨ c = 38 then 3 else if c = 43 ∨ c = 45 then 2 else if c = 60 ∨ c = 61 then 1 else 0
def mayC : List Int32 → Bool
  | [] => false
  | x :: S => if 1 < clo x then mayC S else decide (x = 40)
def hasO : List Int32 → Bool
  | [] => false
  | x :: S => decide (x = 40) || hasO S
def popGe (c : Nat) : List Int32 → List Int32 → List Int32 × List Int32
  | [], out => ([], out)
  | x :: S, out => if c ≤ clo x then popGe c S (out ++ [x]) else (x :: S, out)
def popTo : List Int32 → List Int32 → List Int32 × List Int32
  | [], out => ([], out)
  | x :: S, out => if x = 40 then (S, out) else popTo S (out ++ [x])
def popNq : List Int32 → Int → List Int32 → List Int32 × Int × List Int32
  | [], o, out => ([], o, out)
  | x :: S, o, out => if x = 33 then popNq S (o - 1) (out ++ [33]) else (x :: S, o, out)
def lfc (k v : Int32) : Int32 := if k = 2 then 10 + v else v
abbrev SCg : Type := Bool × List Int32 × Int × Nat × Nat × List Int32
def pnC (S : List Int32) (o : Int) (lv j : Nat) (out : List Int32) : SCg := (false, (popNq S o out).1, (popNq S o out).2.1, lv, j, (popNq S o out).2.2)
def sumBq (k v : Nat → Int32) : Nat → SCg → Option (Option (Nat × List Int32))
  | 0, _ => none
  | n + 1, (w, S, o, lv, j, out) =>
    if w = true then
      if (k j = 33 ∨ k j = 40) ∧ o < 8 then sumBq k v n (true, k j :: S, o + 1, lv, j + 1, out)
      else if (k j = 2 ∨ (k j = 3 ∧ v j < 4)) ∧ lv < 24 then sumBq k v n (pnC S o (lv + 1) (j + 1) (out ++ [lfc (k j) (v j)]))
      else some none
    else
      if 1 < clo (k j) ∨ (clo (k j) = 1 ∧ mayC S = true) then sumBq k v n (true, k j :: (popGe (clo (k j)) S out).1, o, lv, j + 1, (popGe (clo (k j)) S out).2)
      else if k j = 41 ∧ hasO S = true then sumBq k v n (pnC (popTo S out).1 (o - 1) lv (j + 1) (popTo S out).2)
      else if hasO S = true then some none else some (some (j, out ++ S))
def Rch (k v : Nat → Int32) (c d : SCg) : Prop := ∃ m : Nat, ∀ n : Nat, sumBq k v (n + m) c = sumBq k v n d
def Fls (k v : Nat → Int32) (c : SCg) : Prop := ∃ m : Nat, ∀ n : Nat, sumBq k v (n + m) c = some none
def Hlt (k v : Nat → Int32) (c : SCg) (r : Nat × List Int32) : Prop := ∃ m : Nat, ∀ n : Nat, sumBq k v (n + m) c = some (some r)
theorem Rch.rf {k v : Nat → Int32} {c : SCg} : Rch k v c c := ⟨0, fun _ => rfl⟩
theorem Rch.tr {k v : Nat → Int32} {a b c : SCg} (h1 : Rch k v a b) (h2 : Rch k v b c) : Rch k v a c := by
  obtain ⟨m1, h1⟩ := h1
  obtain ⟨m2, h2⟩ := h2
  exact ⟨m2 + m1, fun n => by rw [← Nat.add_assoc, h1, h2]⟩
theorem Rch.fl {k v : Nat → Int32} {a b : SCg} (h1 : Rch k v a b) (h2 : Fls k v b) : Fls k v a := by
  obtain ⟨m1, h1⟩ := h1
  obtain ⟨m2, h2⟩ := h2
  exact ⟨m2 + m1, fun n => by rw [← Nat.add_assoc, h1, h2]⟩
theorem Rch.hl {k v : Nat → Int32} {a b : SCg} {r : Nat × List Int32} (h1 : Rch k v a b) (h2 : Hlt k v b r) : Hlt k v a r := by
  obtain ⟨m1, h1⟩ := h1
  obtain ⟨m2, h2⟩ := h2
  exact ⟨m2 + m1, fun n => by rw [← Nat.add_assoc, h1, h2]⟩
theorem sb_open {k v : Nat → Int32} {S : List Int32} {o : Int} {lv j : Nat} {out : List Int32} (h : k j = 33 ∨ k j = 40) (ho : o < 8) : Rch k v (true, S, o, lv, j, out) (true, k j :: S, o + 1, lv, j + 1, out) :=
  ⟨1, fun n => by rw [sumBq, if_pos rfl, if_pos ⟨h, ho⟩]⟩
theorem sb_leaf {k v : Nat → Int32} {S : List Int32} {o : Int} {lv j : Nat} {out : List Int32} (h : k j = 2 ∨ (k j = 3 ∧ v j < 4)) (hl : lv < 24) : Rch k v (true, S, o, lv, j, out) (pnC S o (lv + 1) (j + 1) (out ++ [lfc (k j) (v j)])) :=
  ⟨1, fun n => by
    rw [sumBq, if_pos rfl, if_neg, if_pos ⟨h, hl⟩]
    rintro ⟨h2 | h2, _⟩ <;> rw [h2] at h <;> rcases h with h | ⟨h, _⟩ <;> revert h <;> decide⟩
theorem sb_wfl {k v : Nat → Int32} {S : List Int32} {o : Int} {lv j : Nat} {out : List Int32} (h1 : ¬ ((k j = 33 ∨ k j = 40) ∧ o < 8)) (h2 : ¬ ((k j = 2 ∨ (k j = 3 ∧ v j < 4)) ∧ lv < 24)) : Fls k v (true, S, o, lv, j, out) :=
  ⟨1, fun n => by rw [sumBq, if_pos rfl, if_neg h1, if_neg h2]⟩
theorem sb_op {k v : Nat → Int32} {S : List Int32} {o : Int} {lv j : Nat} {out : List Int32} (h : 1 < clo (k j) ∨ (clo (k j) = 1 ∧ mayC S = true)) : Rch k v (false, S, o, lv, j, out) (true, k j :: (popGe (clo (k j)) S out).1, o, lv, j + 1, (popGe (clo (k j)) S out).2) :=
  ⟨1, fun n => by rw [sumBq, if_neg (by decide), if_pos h]⟩
theorem sb_close {k v : Nat → Int32} {S : List Int32} {o : Int} {lv j : Nat} {out : List Int32} (h : k j = 41) (ho : hasO S = true) : Rch k v (false, S, o, lv, j, out) (pnC (popTo S out).1 (o - 1) lv (j + 1) (popTo S out).2) :=
  ⟨1, fun n => by rw [sumBq, if_neg (by decide), if_neg (by rw [h]; rintro (h | ⟨h, _⟩) <;> revert h <;> decide), if_pos ⟨h, ho⟩]⟩
theorem sb_efl {k v : Nat → Int32} {S : List Int32} {o : Int} {lv j : Nat} {out : List Int32} (h1 : ¬ (1 < clo (k j) ∨ (clo (k j) = 1 ∧ mayC S = true))) (h2 : k j ≠ 41) (ho : hasO S = true) : Fls k v (false, S, o, lv, j, out) :=
  ⟨1, fun n => by rw [sumBq, if_neg (by decide), if_neg h1, if_neg (fun h => h2 h.1), if_pos ho]⟩
theorem sb_end {k v : Nat → Int32} {S : List Int32} {o : Int} {lv j : Nat} {out : List Int32} (h1 : ¬ (1 < clo (k j) ∨ (clo (k j) = 1 ∧ mayC S = true))) (ho : hasO S = false) : Hlt k v (false, S, o, lv, j, out) (j, out ++ S) :=
  ⟨1, fun n => by rw [sumBq, if_neg (by decide), if_neg h1, if_neg (by rw [ho]; intro h; cases h.2), if_neg (by rw [ho]; decide)]⟩
def TopLt (c : Nat) : List Int32 → Prop
  | [] => True
  | x :: _ => clo x < c ∧ x ≠ 33
theorem popGe_all {c : Nat} {S : List Int32} (hS : TopLt c S) : ∀ (Q out : List Int32), (∀ x ∈ Q, c ≤ clo x) → popGe c (Q ++ S) out = (S, out ++ Q) := by
  intro Q
  induction Q with
  | nil =>
    intro out _
    cases S with
    | nil => simp [popGe]
    | cons x S =>
      have h : ¬ c ≤ clo x := by have := hS.1; omega
      simp [popGe, h]
  | cons x Q ih =>
    intro out h
    have h1 : c ≤ clo x := h x List.mem_cons_self
    simp only [List.cons_append, popGe, if_pos h1]
    rw [ih _ (fun y hy => h y (List.mem_cons_of_mem _ hy))]
    simp
theorem popNq_top {c : Nat} {S : List Int32} (hS : TopLt c S) (o : Int) (out : List Int32) : popNq S o out = (S, o, out) := by
  cases S with
  | nil => rfl
  | cons x S => simp only [popNq, if_neg hS.2]
theorem pnC_top {c : Nat} {S : List Int32} (hS : TopLt c S) (o : Int) (lv j : Nat) (out : List Int32) : pnC S o lv j out = (false, S, o, lv, j, out) := by
  unfold pnC; rw [popNq_top hS]
theorem pnC_not {S : List Int32} {o : Int} {lv j : Nat} {out : List Int32} : pnC (33 :: S) (o + 1) lv j out = pnC S o lv j (out ++ [33]) := by
  unfold pnC
  simp only [popNq, ↓reduceIte, Int.add_sub_cancel]
theorem clo40 : clo 40 = 0 := by decide
theorem clo33 : clo 33 = 0 := by decide
theorem clo_ne {x : Int32} (h : 0 < clo x) : x ≠ 40 := by rintro rfl; rw [clo40] at h; omega
theorem mayC_q : ∀ (Q S : List Int32), (∀ x ∈ Q, 1 < clo x) → mayC (Q ++ 40 :: S) = true := by
  intro Q S
  induction Q with
  | nil => intro _; simp [mayC, clo40]
  | cons x Q ih => intro h; simp only [List.cons_append, mayC, if_pos (h x List.mem_cons_self)]; exact ih (fun y hy => h y (List.mem_cons_of_mem _ hy))
theorem mayC_n : ∀ (Q : List Int32) (y : Int32) (S : List Int32), (∀ x ∈ Q, 1 < clo x) → clo y = 1 → mayC (Q ++ y :: S) = false := by
  intro Q y S
  induction Q with
  | nil =>
    intro _ hy
    have h1 : ¬ 1 < clo y := by omega
    have h2 : y ≠ 40 := clo_ne (by omega)
    simp [mayC, h1, h2]
  | cons x Q ih => intro h hy; simp only [List.cons_append, mayC, if_pos (h x List.mem_cons_self)]; exact ih (fun z hz => h z (List.mem_cons_of_mem _ hz)) hy
theorem mayC_e : ∀ (Q : List Int32), (∀ x ∈ Q, 1 < clo x) → mayC Q = false := by
  intro Q
  induction Q with
  | nil => intro _; rfl
  | cons x Q ih => intro h; simp only [mayC, if_pos (h x List.mem_cons_self)]; exact ih (fun z hz => h z (List.mem_cons_of_mem _ hz))
theorem hasO_q : ∀ (Q S : List Int32), hasO (Q ++ 40 :: S) = true := by
  intro Q S
  induction Q with
  | nil => simp [hasO]
  | cons x Q ih => simp only [List.cons_append, hasO, ih, Bool.or_true]
theorem hasO_e : ∀ (Q : List Int32), (∀ x ∈ Q, 0 < clo x) → hasO Q = false := by
  intro Q
  induction Q with
  | nil => intro _; rfl
  | cons x Q ih =>
    intro h
    have h1 : x ≠ 40 := clo_ne (h x List.mem_cons_self)
    simp [hasO, h1, ih (fun y hy => h y (List.mem_cons_of_mem _ hy))]
theorem popTo_q : ∀ (Q S out : List Int32), (∀ x ∈ Q, 0 < clo x) → popTo (Q ++ 40 :: S) out = (S, out ++ Q) := by
  intro Q S
  induction Q with
  | nil => intro out _; simp [popTo]
  | cons x Q ih =>
    intro out h
    have h1 : x ≠ 40 := clo_ne (h x List.mem_cons_self)
    simp only [List.cons_append, popTo, if_neg h1]
    rw [ih _ (fun y hy => h y (List.mem_cons_of_mem _ hy))]
    simp
/-! what the class's rows of code hold -/
def encc (x : Int32) : Int32 := if x = 43 then 16 else if x = 45 then 17 else if x = 42 then 18 else if x = 38 then 19 else if x = 33 then 20 else if x = 60 then 21 else if x = 61 then 22 else if x < 4 then x else 4 + 2 * (x - 10)
def EMt (cs : Int32) (f : Nat → Int32) (ds : Int32) (g : Nat → Int32) (e : List Int32) : Prop :=
  ds.toInt = cs.toInt + (e.length : Int) ∧ (∀ i : Nat, (i : Int) < cs.toInt → g i = f i) ∧ (∀ (i : Nat) (x : Int32), e[i]? = some x → g (cs.toInt.toNat + i) = encc x)
theorem EMt.rf {cs : Int32} {f : Nat → Int32} : EMt cs f cs f [] := ⟨by simp, fun _ _ => rfl, fun i x h => by simp at h⟩
theorem EMt.tr {a b c : Int32} {f g h : Nat → Int32} {e1 e2 : List Int32} (ha : 0 ≤ a.toInt) (h1 : EMt a f b g e1) (h2 : EMt b g c h e2) : EMt a f c h (e1 ++ e2) := by
  obtain ⟨p1, q1, r1⟩ := h1
  obtain ⟨p2, q2, r2⟩ := h2
  refine ⟨by rw [p2, p1, List.length_append]; omega, fun i hi => by rw [q2 i (by omega), q1 i hi], fun i x hx => ?_⟩
  by_cases hi : i < e1.length
  · rw [List.getElem?_append_left hi] at hx
    rw [q2 _ (by omega)]
    exact r1 i x hx
  · rw [List.getElem?_append_right (by omega)] at hx
    have := r2 _ x hx
    rw [← this]
    congr 1
    omega
theorem EMt.one {cs ds : Int32} {f : Nat → Int32} {x op : Int32} (h0 : 0 ≤ cs.toInt) (hd : ds.toInt = cs.toInt + 1) (ho : op = encc x) : EMt cs f ds (upd f cs.toNatClampNeg op) [x] := by
  have hn : cs.toNatClampNeg = cs.toInt.toNat := rfl
  refine ⟨by rw [hd]; simp, fun i hi => ?_, fun i y hy => ?_⟩
  · have : i ≠ cs.toNatClampNeg := by omega
    simp [upd, this]
  · cases i with
    | zero =>
      simp at hy
      subst hy
      rw [ho, Nat.add_zero, ← hn]
      simp [upd]
    | succ i => simp at hy
def CMk (e : List Int32) (c : Int32) : Int32 := e.foldl (fun a x => if 10 ≤ x ∧ x ≤ 15 then a ||| ((3 : Int32) <<< ((2 * (x - 10)) &&& 31)) else a) c
theorem CMk_app (e1 e2 : List Int32) (c : Int32) : CMk (e1 ++ e2) c = CMk e2 (CMk e1 c) := by unfold CMk; rw [List.foldl_append]
theorem CMk_nil (c : Int32) : CMk [] c = c := rfl
