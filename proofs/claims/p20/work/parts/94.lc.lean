/-! how many heaps: carried over by a map, counted block by block -/
theorem nd_drop {Q : Nat → Nat → Prop} (hr : ∀ a : Nat, Q a a) (m : Nat) : ∀ l : List Nat, l.Pairwise (fun a b => ¬ Q a b) → l.length ≤ (l.filter (fun x => decide (x ≠ m))).length + 1 := by
  intro l
  induction l with
  | nil => intro _; exact Nat.zero_le _
  | cons x l ih =>
    intro h
    obtain ⟨h1, h2⟩ := List.pairwise_cons.mp h
    by_cases hx : x = m
    · have e : l.filter (fun y => decide (y ≠ m)) = l := List.filter_eq_self.mpr (fun y hy => decide_eq_true (fun e => h1 y hy (by rw [hx, e]; exact hr m)))
      rw [List.filter_cons_of_neg (by simp [hx]), e, List.length_cons]
      exact Nat.le_refl _
    · rw [List.filter_cons_of_pos (by simp [hx]), List.length_cons, List.length_cons]
      have := ih h2
      omega
theorem nd_ls {Q : Nat → Nat → Prop} (hr : ∀ a : Nat, Q a a) (hs : ∀ a b : Nat, Q a b → Q b a) (ht : ∀ a b c : Nat, Q a b → Q b c → Q a c) : ∀ (m : Nat) (l : List Nat), (∀ x : Nat, x ∈ l → x < m) → l.Pairwise (fun a b => ¬ Q a b) → l.length ≤ ndQ Q m := by
  intro m
  induction m with
  | zero =>
    intro l h _
    cases l with
    | nil => exact Nat.zero_le _
    | cons x l => exact absurd (h x List.mem_cons_self) (Nat.not_lt_zero _)
  | succ m ih =>
    intro l h hp
    by_cases hnew : ∀ j : Nat, j < m → ¬ Q j m
    · have e : ndQ Q (m + 1) = ndQ Q m + 1 := cntQ_y (P := fun s => ∀ j : Nat, j < s → ¬ Q j s) hnew
      have h1 := ih (l.filter (fun x => decide (x ≠ m))) (fun x hx => by
        obtain ⟨a, b⟩ := List.mem_filter.mp hx
        have h8 := h x a
        have h9 : x ≠ m := of_decide_eq_true b
        omega) (hp.filter _)
      have h2 := nd_drop hr m l hp
      omega
    · obtain ⟨j, hj⟩ := Classical.not_forall.mp hnew
      obtain ⟨hjm, hq⟩ := Classical.not_imp.mp hj
      have hq := Classical.not_not.mp hq
      have e : ndQ Q (m + 1) = ndQ Q m := cntQ_n (P := fun s => ∀ j : Nat, j < s → ¬ Q j s) (fun h9 => h9 j hjm hq)
      have hf : ∀ x : Nat, Q (if x = m then j else x) x := by
        intro x
        split
        · rename_i e9; rw [e9]; exact hq
        · exact hr x
      have h1 := ih (l.map (fun x => if x = m then j else x)) (fun x hx => by
        obtain ⟨y, hy, e9⟩ := List.mem_map.mp hx
        have h8 := h y hy
        rw [← e9]
        split <;> omega) (List.pairwise_map.mpr (hp.imp (fun {a b} h9 h8 => h9 (ht _ _ _ (hs _ _ (hf a)) (ht _ _ _ h8 (hf b))))))
      rw [List.length_map] at h1
      omega
theorem nd_rep {R : Nat → Nat → Prop} (hs : ∀ a b : Nat, R a b → R b a) : ∀ n : Nat, ∃ l : List Nat, l.length = ndQ R n ∧ (∀ x : Nat, x ∈ l → x < n) ∧ l.Pairwise (fun a b => ¬ R a b) := by
  intro n
  induction n with
  | zero => exact ⟨[], rfl, fun x hx => (by cases hx), List.Pairwise.nil⟩
  | succ n ih =>
    obtain ⟨l, h1, h2, h3⟩ := ih
    by_cases hnew : ∀ j : Nat, j < n → ¬ R j n
    · refine ⟨n :: l, ?_, fun x hx => ?_, List.pairwise_cons.mpr ⟨fun y hy h9 => hnew y (h2 y hy) (hs _ _ h9), h3⟩⟩
      · rw [List.length_cons, h1]; exact (cntQ_y (P := fun s => ∀ j : Nat, j < s → ¬ R j s) hnew).symm
      · rcases List.mem_cons.mp hx with e | e
        · omega
        · have := h2 x e; omega
    · refine ⟨l, ?_, fun x hx => (by have := h2 x hx; omega), h3⟩
      rw [h1]; exact (cntQ_n (P := fun s => ∀ j : Nat, j < s → ¬ R j s) hnew).symm
theorem nd_le {R Q : Nat → Nat → Prop} (hsR : ∀ a b : Nat, R a b → R b a) (hr : ∀ a : Nat, Q a a) (hs : ∀ a b : Nat, Q a b → Q b a) (ht : ∀ a b c : Nat, Q a b → Q b c → Q a c) {n m : Nat} (f : Nat → Nat) (hf : ∀ s : Nat, s < n → f s < m) (hi : ∀ a b : Nat, a < n → b < n → Q (f a) (f b) → R a b) : ndQ R n ≤ ndQ Q m := by
  obtain ⟨l, h1, h2, h3⟩ := nd_rep hsR n
  have h9 := nd_ls hr hs ht m (l.map f) (fun x hx => by
    obtain ⟨y, hy, e9⟩ := List.mem_map.mp hx
    rw [← e9]; exact hf y (h2 y hy)) (List.pairwise_map.mpr (h3.imp_of_mem (fun {a b} ha hb h9 h8 => h9 (hi a b (h2 a ha) (h2 b hb) h8))))
  rw [List.length_map, h1] at h9
  exact h9
theorem nd_map {R Q : Nat → Nat → Prop} (hrR : ∀ a : Nat, R a a) (hsR : ∀ a b : Nat, R a b → R b a) (htR : ∀ a b c : Nat, R a b → R b c → R a c) (hr : ∀ a : Nat, Q a a) (hs : ∀ a b : Nat, Q a b → Q b a) (ht : ∀ a b c : Nat, Q a b → Q b c → Q a c) {n m : Nat} (f : Nat → Nat) (hf : ∀ s : Nat, s < n → f s < m) (hi : ∀ a b : Nat, a < n → b < n → (R a b ↔ Q (f a) (f b))) (hsur : ∀ k : Nat, k < m → ∃ s : Nat, s < n ∧ f s = k) : ndQ R n = ndQ Q m := by
  refine Nat.le_antisymm (nd_le hsR hr hs ht f hf (fun a b ha hb h => (hi a b ha hb).mpr h)) ?_
  have hch : ∀ k : Nat, ∃ s : Nat, k < m → s < n ∧ f s = k := by
    intro k
    by_cases hk : k < m
    · obtain ⟨s, a, b⟩ := hsur k hk; exact ⟨s, fun _ => ⟨a, b⟩⟩
    · exact ⟨0, fun h => absurd h hk⟩
  have hg : ∀ k : Nat, k < m → Classical.choose (hch k) < n ∧ f (Classical.choose (hch k)) = k := fun k => Classical.choose_spec (hch k)
  refine nd_le hs hrR hsR htR (fun k => Classical.choose (hch k)) (fun k hk => (hg k hk).1) (fun a b ha hb h => ?_)
  have h1 := (hi _ _ (hg a ha).1 (hg b hb).1).mp h
  rw [(hg a ha).2, (hg b hb).2] at h1
  exact h1
theorem cnt_add (P : Nat → Prop) (a : Nat) : ∀ b : Nat, cntQ P (a + b) = cntQ P a + cntQ (fun i => P (a + i)) b := by
  intro b
  induction b with
  | zero => rfl
  | succ b ih =>
    by_cases h : P (a + b)
    · rw [← Nat.add_assoc, cntQ_y h, cntQ_y (P := fun i => P (a + i)) h, ih, Nat.add_assoc]
    · rw [← Nat.add_assoc, cntQ_n h, cntQ_n (P := fun i => P (a + i)) h, ih]
def smN (f : Nat → Nat) : Nat → Nat
  | 0 => 0
  | k + 1 => smN f k + f k
theorem smN_cg {f g : Nat → Nat} : ∀ n : Nat, (∀ i : Nat, i < n → f i = g i) → smN f n = smN g n := by
  intro n
  induction n with
  | zero => intro _; rfl
  | succ n ih =>
    intro h
    show smN f n + f n = smN g n + g n
    rw [ih (fun i hi => h i (by omega)), h n (by omega)]
theorem smN_add (f : Nat → Nat) (a : Nat) : ∀ b : Nat, smN f (a + b) = smN f a + smN (fun i => f (a + i)) b := by
  intro b
  induction b with
  | zero => rfl
  | succ b ih =>
    show smN f (a + b) + f (a + b) = smN f a + (smN (fun i => f (a + i)) b + f (a + b))
    rw [ih, Nat.add_assoc]
theorem smN_le {f : Nat → Nat} {m : Nat} (h : ∀ i : Nat, f i ≤ m) : ∀ n : Nat, smN f n ≤ n * m := by
  intro n
  induction n with
  | zero => rw [Nat.zero_mul]; exact Nat.le_refl _
  | succ n ih =>
    have h9 := h n
    have e := Nat.succ_mul n m
    show smN f n + f n ≤ (n + 1) * m
    rw [e]
    omega
theorem dm1 {m : Nat} (hm : 0 < m) (k i : Nat) (hi : i < m) : (k * m + i) / m = k ∧ (k * m + i) % m = i := by
  refine ⟨?_, ?_⟩
  · rw [Nat.mul_comm, Nat.mul_add_div hm, Nat.div_eq_of_lt hi, Nat.add_zero]
  · rw [Nat.mul_comm, Nat.mul_add_mod, Nat.mod_eq_of_lt hi]
theorem smN_mod {A : Nat} (hA : 0 < A) (f : Nat → Nat) : ∀ B : Nat, smN (fun x => f (x % A)) (B * A) = B * smN f A := by
  intro B
  induction B with
  | zero => rw [Nat.zero_mul, Nat.zero_mul]; rfl
  | succ B ih =>
    rw [Nat.succ_mul, smN_add, ih, Nat.succ_mul]
    have e : smN (fun i => f ((B * A + i) % A)) A = smN f A := smN_cg A (fun i hi => by rw [(dm1 hA B i hi).2])
    exact congrArg (fun z => B * smN f A + z) e
def BkQ (m : Nat) (R : Nat → Nat → Nat → Prop) (x y : Nat) : Prop := x / m = y / m ∧ R (x / m) (x % m) (y % m)
theorem nd_blk {m : Nat} (hm : 0 < m) (R : Nat → Nat → Nat → Prop) : ∀ k : Nat, ndQ (BkQ m R) (k * m) = smN (fun i => ndQ (R i) m) k := by
  intro k
  induction k with
  | zero => rw [Nat.zero_mul]; rfl
  | succ k ih =>
    have ih : cntQ (fun s => ∀ j : Nat, j < s → ¬ BkQ m R j s) (k * m) = smN (fun i => ndQ (R i) m) k := ih
    rw [Nat.succ_mul]
    show cntQ (fun s => ∀ j : Nat, j < s → ¬ BkQ m R j s) (k * m + m) = smN (fun i => ndQ (R i) m) k + cntQ (fun s => ∀ j : Nat, j < s → ¬ R k j s) m
    rw [cnt_add, ih]
    refine congrArg (fun z => smN (fun i => ndQ (R i) m) k + z) ?_
    refine cntQ_congr (fun i hi => ?_)
    obtain ⟨e1, e2⟩ := dm1 hm k i hi
    constructor
    · intro h j hj h9
      obtain ⟨f1, f2⟩ := dm1 hm k j (by omega)
      refine h (k * m + j) (by omega) ?_
      unfold BkQ
      rw [e1, e2, f1, f2]
      exact ⟨rfl, h9⟩
    · intro h j hj h9
      obtain ⟨h8, h7⟩ := h9
      rw [e1] at h8
      rw [h8, e2] at h7
      have h6 := Nat.div_add_mod j m
      rw [h8, Nat.mul_comm] at h6
      exact h (j % m) (by omega) h7
theorem BkQ_rf {m : Nat} {R : Nat → Nat → Nat → Prop} (h : ∀ k a : Nat, R k a a) (x : Nat) : BkQ m R x x := ⟨rfl, h _ _⟩
theorem BkQ_sy {m : Nat} {R : Nat → Nat → Nat → Prop} (h : ∀ k a b : Nat, R k a b → R k b a) (x y : Nat) (h9 : BkQ m R x y) : BkQ m R y x := ⟨h9.1.symm, by rw [← h9.1]; exact h _ _ _ h9.2⟩
theorem BkQ_tr {m : Nat} {R : Nat → Nat → Nat → Prop} (h : ∀ k a b c : Nat, R k a b → R k b c → R k a c) (x y z : Nat) (h9 : BkQ m R x y) (h8 : BkQ m R y z) : BkQ m R x z := ⟨h9.1.trans h8.1, h _ _ _ _ h9.2 (by rw [h9.1]; exact h8.2)⟩
/-! numbers in some places, read off and put there -/
theorem ga_cg : ∀ (bs : List Bool) (x y : Nat), (∀ c : Nat, bs[c]? = some true → dgN x c = dgN y c) → gaB bs x = gaB bs y := by
  intro bs
  induction bs with
  | nil => intro x y _; rfl
  | cons b bs ih =>
    intro x y h
    have h2 := ih (x / 4) (y / 4) (fun c hc => by
      have h9 := h (c + 1) (by rw [List.getElem?_cons_succ]; exact hc)
      rw [dgN_s, dgN_s] at h9
      exact h9)
    unfold gaB
    by_cases hb : b = true
    · have h0 := h 0 (by rw [List.getElem?_cons_zero, hb])
      rw [dgN_0, dgN_0] at h0
      rw [if_pos hb, if_pos hb, h0, h2]
    · rw [if_neg hb, if_neg hb, h2]
theorem dg_spga : ∀ (bs : List Bool) (x c : Nat), bs[c]? = some true → dgN (spB bs (gaB bs x)) c = dgN x c := by
  intro bs
  induction bs with
  | nil => intro x c h; rw [List.getElem?_nil] at h; cases h
  | cons b bs ih =>
    intro x c h
    have es : ∀ k : Nat, spB (b :: bs) k = if b = true then k % 4 + 4 * spB bs (k / 4) else 4 * spB bs k := fun _ => rfl
    have eg : gaB (b :: bs) x = if b = true then x % 4 + 4 * gaB bs (x / 4) else gaB bs (x / 4) := rfl
    cases c with
    | zero =>
      rw [List.getElem?_cons_zero] at h
      have hb : b = true := Option.some.inj h
      rw [es, eg, if_pos hb, if_pos hb, dgN_0, dgN_0]
      omega
    | succ c =>
      rw [List.getElem?_cons_succ] at h
      have h9 := ih (x / 4) c h
      rw [dgN_s, dgN_s, ← h9, es, eg]
      by_cases hb : b = true
      · rw [if_pos hb, if_pos hb]
        have e1 : (x % 4 + 4 * gaB bs (x / 4)) / 4 = gaB bs (x / 4) := by omega
        have e2 : ((x % 4 + 4 * gaB bs (x / 4)) % 4 + 4 * spB bs ((x % 4 + 4 * gaB bs (x / 4)) / 4)) / 4 = spB bs (gaB bs (x / 4)) := by rw [e1]; omega
        rw [e2]
      · rw [if_neg hb, if_neg hb]
        have e1 : 4 * spB bs (gaB bs (x / 4)) / 4 = spB bs (gaB bs (x / 4)) := by omega
        rw [e1]
/-! both watchers: the relation, and how the class counts it -/
def shB (lv : Nat → Int32) : List Bool := anB (orB (wiL lv 1) (wiL lv 2)) (ntB (wiL lv 0))
def BtR (D : List SRc) (M N : Nat → Nat) (t : Int32) (lv : Nat → Int32) (o s s2 : Nat) : Prop :=
  (∀ c : Nat, c < 6 → (shB lv)[c]? = some true → dgN (xOS (wiL lv 0) o s) c = dgN (xOS (wiL lv 0) o s2) c) ∧ SAl 1 t (wiL lv 1) (FnR D M N 0 (xOS (wiL lv 0) o s)) (FnR D M N 0 (xOS (wiL lv 0) o s2)) ∧ SAl 2 t (wiL lv 2) (FnR D M N 0 (xOS (wiL lv 0) o s)) (FnR D M N 0 (xOS (wiL lv 0) o s2))
theorem BtR_rf {D : List SRc} {M N : Nat → Nat} {t : Int32} {lv : Nat → Int32} {o : Nat} (a : Nat) : BtR D M N t lv o a a := ⟨fun _ _ _ => rfl, SAl_rf _, SAl_rf _⟩
theorem BtR_sy {D : List SRc} {M N : Nat → Nat} {t : Int32} {lv : Nat → Int32} {o : Nat} (a b : Nat) (h : BtR D M N t lv o a b) : BtR D M N t lv o b a := ⟨fun c hc hs => (h.1 c hc hs).symm, SAl_sy h.2.1, SAl_sy h.2.2⟩
theorem BtR_tr {D : List SRc} {M N : Nat → Nat} {t : Int32} {lv : Nat → Int32} {o : Nat} (a b c : Nat) (h : BtR D M N t lv o a b) (k : BtR D M N t lv o b c) : BtR D M N t lv o a c := ⟨fun c hc hs => (h.1 c hc hs).trans (k.1 c hc hs), SAl_tr h.2.1 k.2.1, SAl_tr h.2.2 k.2.2⟩
def sA9 (lv : Nat → Int32) (ub : List Bool) : List Bool := anB (shB lv) ub
def sB9 (lv : Nat → Int32) (ub : List Bool) : List Bool := anB (shB lv) (ntB ub)
def sC9 (lv : Nat → Int32) (ub : List Bool) : List Bool := anB (anB (ntB (wiL lv 0)) ub) (ntB (orB (wiL lv 1) (wiL lv 2)))
theorem shB_len (lv : Nat → Int32) : (shB lv).length = 6 := anB_len (orB_len (wiL_len lv 1) (wiL_len lv 2)) (ntB_len (wiL_len lv 0))
section BOTHW
variable {D : List SRc} {M N dp : Nat → Nat} {t : Int32} {lv : Nat → Int32} {ub : List Bool}
theorem sA9_len (hu : ub.length = 6) : (sA9 lv ub).length = 6 := anB_len (shB_len lv) hu
theorem sB9_len (hu : ub.length = 6) : (sB9 lv ub).length = 6 := anB_len (shB_len lv) (ntB_len hu)
theorem sC9_len (hu : ub.length = 6) : (sC9 lv ub).length = 6 := anB_len (anB_len (ntB_len (wiL_len lv 0)) hu) (ntB_len (orB_len (wiL_len lv 1) (wiL_len lv 2)))
theorem shB_at {c : Nat} (hc : c < 6) : (shB lv)[c]? = some true ↔ ((wiL lv 1)[c]? = some true ∨ (wiL lv 2)[c]? = some true) ∧ (wiL lv 0)[c]? ≠ some true := by
  unfold shB
  rw [anB_at (orB_len (wiL_len lv 1) (wiL_len lv 2)) (ntB_len (wiL_len lv 0)), orB_at (wiL_len lv 1) (wiL_len lv 2), ntB_at (wiL_len lv 0) c hc]
theorem sA9_at (hu : ub.length = 6) (c : Nat) : (sA9 lv ub)[c]? = some true ↔ (shB lv)[c]? = some true ∧ ub[c]? = some true := anB_at (shB_len lv) hu c
theorem sB9_at (hu : ub.length = 6) {c : Nat} (hc : c < 6) : (sB9 lv ub)[c]? = some true ↔ (shB lv)[c]? = some true ∧ ub[c]? ≠ some true := by
  unfold sB9
  rw [anB_at (shB_len lv) (ntB_len hu), ntB_at hu c hc]
theorem sC9_at (hu : ub.length = 6) {c : Nat} (hc : c < 6) : (sC9 lv ub)[c]? = some true ↔ ((wiL lv 0)[c]? ≠ some true ∧ ub[c]? = some true) ∧ ¬ ((wiL lv 1)[c]? = some true ∨ (wiL lv 2)[c]? = some true) := by
  unfold sC9
  rw [anB_at (anB_len (ntB_len (wiL_len lv 0)) hu) (ntB_len (orB_len (wiL_len lv 1) (wiL_len lv 2))), anB_at (ntB_len (wiL_len lv 0)) hu, ntB_at (wiL_len lv 0) c hc, ntB_at (orB_len (wiL_len lv 1) (wiL_len lv 2)) c hc, ← orB_at (wiL_len lv 1) (wiL_len lv 2)]
/-- numbers of the class's key: open ones o, shown and tried k, tried and unshown c -/
theorem kX_bt (hu : ub.length = 6) (o s : Nat) : xOS (wiL lv 0) o s &&& mkB ub = kX (spB (wiL lv 0) o ||| spB (sA9 lv ub) (gaB (sA9 lv ub) (spB (ntB (wiL lv 0)) s))) (sC9 lv ub) ub (gaB (sC9 lv ub) (spB (ntB (wiL lv 0)) s)) := by
  have hm : ∀ x : Nat, (x &&& mkB ub) < 4 ^ 6 := by
    intro x
    have hmk : mkB ub < 2 ^ 12 := (coP ub hu).2.2
    have h9 : (x &&& mkB ub) < 2 ^ 12 := Nat.and_lt_two_pow _ hmk
    exact h9
  refine dg_ext 6 _ _ (hm _) (hm _) (fun c hc => ?_)
  unfold kX
  rw [mk_dg, mk_dg]
  by_cases hub : ub[c]? = some true
  · rw [if_pos hub, if_pos hub, dg_or, dg_or, xOS_dg (wiL_len lv 0) _ _ c hc]
    by_cases hbo : (wiL lv 0)[c]? = some true
    · rw [if_pos hbo, dg_sp (sA9 lv ub) _ c (fun h => ((shB_at hc).mp ((sA9_at hu c).mp h).1).2 hbo), dg_sp (sC9 lv ub) _ c (fun h => ((sC9_at hu hc).mp h).1.1 hbo), Nat.or_zero, Nat.or_zero]
    · rw [if_neg hbo, dg_sp (wiL lv 0) o c hbo, Nat.zero_or]
      by_cases h12 : (wiL lv 1)[c]? = some true ∨ (wiL lv 2)[c]? = some true
      · rw [dg_spga (sA9 lv ub) _ c ((sA9_at hu c).mpr ⟨(shB_at hc).mpr ⟨h12, hbo⟩, hub⟩), dg_sp (sC9 lv ub) _ c (fun h => ((sC9_at hu hc).mp h).2 h12), Nat.or_zero]
      · rw [dg_sp (sA9 lv ub) _ c (fun h => h12 ((shB_at hc).mp ((sA9_at hu c).mp h).1).1), dg_spga (sC9 lv ub) _ c ((sC9_at hu hc).mpr ⟨⟨hbo, hub⟩, h12⟩), Nat.zero_or]
  · rw [if_neg hub, if_neg hub]
def UnR (D : List SRc) (M N : Nat → Nat) (t : Int32) (lv : Nat → Int32) (ub : List Bool) (o k c c2 : Nat) : Prop :=
  SAl 1 t (wiL lv 1) (FnR D M N 0 (kX (spB (wiL lv 0) o ||| spB (sA9 lv ub) k) (sC9 lv ub) ub c)) (FnR D M N 0 (kX (spB (wiL lv 0) o ||| spB (sA9 lv ub) k) (sC9 lv ub) ub c2)) ∧ SAl 2 t (wiL lv 2) (FnR D M N 0 (kX (spB (wiL lv 0) o ||| spB (sA9 lv ub) k) (sC9 lv ub) ub c)) (FnR D M N 0 (kX (spB (wiL lv 0) o ||| spB (sA9 lv ub) k) (sC9 lv ub) ub c2))
def ftB (lv : Nat → Int32) (ub : List Bool) (s : Nat) : Nat := (gaB (sB9 lv ub) (spB (ntB (wiL lv 0)) s) * 4 ^ cnB (sA9 lv ub) + gaB (sA9 lv ub) (spB (ntB (wiL lv 0)) s)) * 4 ^ cnB (sC9 lv ub) + gaB (sC9 lv ub) (spB (ntB (wiL lv 0)) s)
theorem ftB_dm (s : Nat) : ftB lv ub s / 4 ^ cnB (sC9 lv ub) = gaB (sB9 lv ub) (spB (ntB (wiL lv 0)) s) * 4 ^ cnB (sA9 lv ub) + gaB (sA9 lv ub) (spB (ntB (wiL lv 0)) s) ∧ ftB lv ub s % 4 ^ cnB (sC9 lv ub) = gaB (sC9 lv ub) (spB (ntB (wiL lv 0)) s) ∧ (gaB (sB9 lv ub) (spB (ntB (wiL lv 0)) s) * 4 ^ cnB (sA9 lv ub) + gaB (sA9 lv ub) (spB (ntB (wiL lv 0)) s)) % 4 ^ cnB (sA9 lv ub) = gaB (sA9 lv ub) (spB (ntB (wiL lv 0)) s) ∧ (gaB (sB9 lv ub) (spB (ntB (wiL lv 0)) s) * 4 ^ cnB (sA9 lv ub) + gaB (sA9 lv ub) (spB (ntB (wiL lv 0)) s)) / 4 ^ cnB (sA9 lv ub) = gaB (sB9 lv ub) (spB (ntB (wiL lv 0)) s) := by
  obtain ⟨a1, a2⟩ := dm1 (Nat.pow_pos (n := cnB (sC9 lv ub)) (show 0 < 4 by omega)) (gaB (sB9 lv ub) (spB (ntB (wiL lv 0)) s) * 4 ^ cnB (sA9 lv ub) + gaB (sA9 lv ub) (spB (ntB (wiL lv 0)) s)) _ (gaB_lt (sC9 lv ub) (spB (ntB (wiL lv 0)) s))
  obtain ⟨b1, b2⟩ := dm1 (Nat.pow_pos (n := cnB (sA9 lv ub)) (show 0 < 4 by omega)) (gaB (sB9 lv ub) (spB (ntB (wiL lv 0)) s)) _ (gaB_lt (sA9 lv ub) (spB (ntB (wiL lv 0)) s))
  exact ⟨a1, a2, b2, b1⟩
theorem bt_map (hN : NsT D M N dp) (hU : UsD D (fun c => ub[c]? = some true)) (hu : ub.length = 6) (o s s2 : Nat) : BtR D M N t lv o s s2 ↔ BkQ (4 ^ cnB (sC9 lv ub)) (fun y => UnR D M N t lv ub o (y % 4 ^ cnB (sA9 lv ub))) (ftB lv ub s) (ftB lv ub s2) := by
  have hdg : ∀ (s c : Nat), c < 6 → (wiL lv 0)[c]? ≠ some true → dgN (xOS (wiL lv 0) o s) c = dgN (spB (ntB (wiL lv 0)) s) c := fun s c hc hb => by rw [xOS_dg (wiL_len lv 0) _ _ c hc, if_neg hb]
  have hview : (∀ c : Nat, c < 6 → (shB lv)[c]? = some true → dgN (xOS (wiL lv 0) o s) c = dgN (xOS (wiL lv 0) o s2) c) → gaB (sA9 lv ub) (spB (ntB (wiL lv 0)) s) = gaB (sA9 lv ub) (spB (ntB (wiL lv 0)) s2) → ((SAl 1 t (wiL lv 1) (FnR D M N 0 (xOS (wiL lv 0) o s)) (FnR D M N 0 (xOS (wiL lv 0) o s2)) ∧ SAl 2 t (wiL lv 2) (FnR D M N 0 (xOS (wiL lv 0) o s)) (FnR D M N 0 (xOS (wiL lv 0) o s2))) ↔ UnR D M N t lv ub o (gaB (sA9 lv ub) (spB (ntB (wiL lv 0)) s)) (gaB (sC9 lv ub) (spB (ntB (wiL lv 0)) s)) (gaB (sC9 lv ub) (spB (ntB (wiL lv 0)) s2))) := by
    intro hsh hA
    have hv : ∀ c : Nat, c < 6 → ((wiL lv 1)[c]? = some true ∨ (wiL lv 2)[c]? = some true) → dgN (xOS (wiL lv 0) o s) c = dgN (xOS (wiL lv 0) o s2) c := by
      intro c hc h12
      by_cases hbo : (wiL lv 0)[c]? = some true
      · rw [xOS_dg (wiL_len lv 0) _ _ c hc, xOS_dg (wiL_len lv 0) _ _ c hc, if_pos hbo, if_pos hbo]
      · exact hsh c hc ((shB_at hc).mpr ⟨h12, hbo⟩)
    have k1 := kX_bt (lv := lv) hu o s
    have k2 := kX_bt (lv := lv) hu o s2
    rw [← hA] at k2
    unfold UnR
    rw [← k1, ← k2]
    exact and_congr (sal_mask hN hU (fun c hc h => hv c hc (Or.inl h))) (sal_mask hN hU (fun c hc h => hv c hc (Or.inr h)))
  obtain ⟨d1, d2, d3, d4⟩ := ftB_dm (lv := lv) (ub := ub) s
  obtain ⟨e1, e2, e3, e4⟩ := ftB_dm (lv := lv) (ub := ub) s2
  unfold BkQ
  try dsimp only
  rw [d1, d2, e1, e2, d3]
  have c6 : ∀ (bs : List Bool) (c : Nat), bs.length = 6 → bs[c]? = some true → c < 6 := by
    intro bs c h1 h2
    obtain ⟨h3, _⟩ := List.getElem?_eq_some_iff.mp h2
    omega
  constructor
  · rintro ⟨h1, h2⟩
    have hA : gaB (sA9 lv ub) (spB (ntB (wiL lv 0)) s) = gaB (sA9 lv ub) (spB (ntB (wiL lv 0)) s2) := ga_cg _ _ _ (fun c h => by
      have hc := c6 _ c (sA9_len hu) h
      have hs := ((sA9_at hu c).mp h).1
      rw [← hdg s c hc ((shB_at hc).mp hs).2, ← hdg s2 c hc ((shB_at hc).mp hs).2]
      exact h1 c hc hs)
    have hB : gaB (sB9 lv ub) (spB (ntB (wiL lv 0)) s) = gaB (sB9 lv ub) (spB (ntB (wiL lv 0)) s2) := ga_cg _ _ _ (fun c h => by
      have hc := c6 _ c (sB9_len hu) h
      have hs := ((sB9_at hu hc).mp h).1
      rw [← hdg s c hc ((shB_at hc).mp hs).2, ← hdg s2 c hc ((shB_at hc).mp hs).2]
      exact h1 c hc hs)
    exact ⟨by rw [hA, hB], (hview h1 hA).mp h2⟩
  · rintro ⟨h1, h2⟩
    have hA : gaB (sA9 lv ub) (spB (ntB (wiL lv 0)) s) = gaB (sA9 lv ub) (spB (ntB (wiL lv 0)) s2) := by rw [← d3, ← e3, h1]
    have hB : gaB (sB9 lv ub) (spB (ntB (wiL lv 0)) s) = gaB (sB9 lv ub) (spB (ntB (wiL lv 0)) s2) := by rw [← d4, ← e4, h1]
    have hsh : ∀ c : Nat, c < 6 → (shB lv)[c]? = some true → dgN (xOS (wiL lv 0) o s) c = dgN (xOS (wiL lv 0) o s2) c := by
      intro c hc hs
      rw [hdg s c hc ((shB_at hc).mp hs).2, hdg s2 c hc ((shB_at hc).mp hs).2]
      by_cases hub : ub[c]? = some true
      · have hm := (sA9_at hu c).mpr ⟨hs, hub⟩
        rw [← dg_spga (sA9 lv ub) (spB (ntB (wiL lv 0)) s) c hm, ← dg_spga (sA9 lv ub) (spB (ntB (wiL lv 0)) s2) c hm, hA]
      · have hm := (sB9_at hu hc).mpr ⟨hs, hub⟩
        rw [← dg_spga (sB9 lv ub) (spB (ntB (wiL lv 0)) s) c hm, ← dg_spga (sB9 lv ub) (spB (ntB (wiL lv 0)) s2) c hm, hB]
    exact ⟨hsh, (hview hsh hA).mpr h2⟩
theorem UnR_rf (o k a : Nat) : UnR D M N t lv ub o k a a := ⟨SAl_rf _, SAl_rf _⟩
theorem UnR_sy (o k a b : Nat) (h : UnR D M N t lv ub o k a b) : UnR D M N t lv ub o k b a := ⟨SAl_sy h.1, SAl_sy h.2⟩
theorem UnR_tr (o k a b c : Nat) (h : UnR D M N t lv ub o k a b) (h2 : UnR D M N t lv ub o k b c) : UnR D M N t lv ub o k a c := ⟨SAl_tr h.1 h2.1, SAl_tr h.2 h2.2⟩
theorem bt_sur (hu : ub.length = 6) (z : Nat) (hz : z < 4 ^ cnB (sB9 lv ub) * 4 ^ cnB (sA9 lv ub) * 4 ^ cnB (sC9 lv ub)) : ∃ s : Nat, s < 4 ^ cnB (ntB (wiL lv 0)) ∧ ftB lv ub s = z := by
  have pA : 0 < 4 ^ cnB (sA9 lv ub) := Nat.pow_pos (by omega)
  have pC : 0 < 4 ^ cnB (sC9 lv ub) := Nat.pow_pos (by omega)
  have hc9 : z % 4 ^ cnB (sC9 lv ub) < 4 ^ cnB (sC9 lv ub) := Nat.mod_lt _ pC
  have ha9 : z / 4 ^ cnB (sC9 lv ub) % 4 ^ cnB (sA9 lv ub) < 4 ^ cnB (sA9 lv ub) := Nat.mod_lt _ pA
  have hb9 : z / 4 ^ cnB (sC9 lv ub) / 4 ^ cnB (sA9 lv ub) < 4 ^ cnB (sB9 lv ub) := by
    rw [Nat.div_lt_iff_lt_mul pA, Nat.div_lt_iff_lt_mul pC]
    exact hz
  generalize hkc : z % 4 ^ cnB (sC9 lv ub) = kc at hc9
  generalize hka : z / 4 ^ cnB (sC9 lv ub) % 4 ^ cnB (sA9 lv ub) = ka at ha9
  generalize hkb : z / 4 ^ cnB (sC9 lv ub) / 4 ^ cnB (sA9 lv ub) = kb at hb9
  have c6 : ∀ (bs : List Bool) (c : Nat), bs.length = 6 → bs[c]? = some true → c < 6 := by
    intro bs c h1 h2
    obtain ⟨h3, _⟩ := List.getElem?_eq_some_iff.mp h2
    omega
  have hx : ∀ c : Nat, dgN (spB (sA9 lv ub) ka ||| spB (sB9 lv ub) kb ||| spB (sC9 lv ub) kc) c = dgN (spB (sA9 lv ub) ka) c ||| dgN (spB (sB9 lv ub) kb) c ||| dgN (spB (sC9 lv ub) kc) c := by
    intro c
    rw [dg_or, dg_or]
  refine ⟨gaB (ntB (wiL lv 0)) (spB (sA9 lv ub) ka ||| spB (sB9 lv ub) kb ||| spB (sC9 lv ub) kc), gaB_lt _ _, ?_⟩
  have hd : ∀ c : Nat, c < 6 → (wiL lv 0)[c]? ≠ some true → dgN (spB (ntB (wiL lv 0)) (gaB (ntB (wiL lv 0)) (spB (sA9 lv ub) ka ||| spB (sB9 lv ub) kb ||| spB (sC9 lv ub) kc))) c = dgN (spB (sA9 lv ub) ka) c ||| dgN (spB (sB9 lv ub) kb) c ||| dgN (spB (sC9 lv ub) kc) c := by
    intro c hc hb
    rw [dg_spga _ _ c ((ntB_at (wiL_len lv 0) c hc).mpr hb), hx]
  have gA : gaB (sA9 lv ub) (spB (ntB (wiL lv 0)) (gaB (ntB (wiL lv 0)) (spB (sA9 lv ub) ka ||| spB (sB9 lv ub) kb ||| spB (sC9 lv ub) kc))) = ka := by
    refine (ga_cg (sA9 lv ub) _ (spB (sA9 lv ub) ka) (fun c h => ?_)).trans (ga_sp _ _ ha9)
    have hc := c6 _ c (sA9_len hu) h
    obtain ⟨h1, h2⟩ := (sA9_at hu c).mp h
    obtain ⟨h3, h4⟩ := (shB_at hc).mp h1
    rw [hd c hc h4, dg_sp (sB9 lv ub) _ c (fun h9 => ((sB9_at hu hc).mp h9).2 h2), dg_sp (sC9 lv ub) _ c (fun h9 => ((sC9_at hu hc).mp h9).2 h3), Nat.or_zero, Nat.or_zero]
  have gB : gaB (sB9 lv ub) (spB (ntB (wiL lv 0)) (gaB (ntB (wiL lv 0)) (spB (sA9 lv ub) ka ||| spB (sB9 lv ub) kb ||| spB (sC9 lv ub) kc))) = kb := by
    refine (ga_cg (sB9 lv ub) _ (spB (sB9 lv ub) kb) (fun c h => ?_)).trans (ga_sp _ _ hb9)
    have hc := c6 _ c (sB9_len hu) h
    obtain ⟨h1, h2⟩ := (sB9_at hu hc).mp h
    obtain ⟨h3, h4⟩ := (shB_at hc).mp h1
    rw [hd c hc h4, dg_sp (sA9 lv ub) _ c (fun h9 => h2 ((sA9_at hu c).mp h9).2), dg_sp (sC9 lv ub) _ c (fun h9 => ((sC9_at hu hc).mp h9).2 h3), Nat.or_zero, Nat.zero_or]
  have gC : gaB (sC9 lv ub) (spB (ntB (wiL lv 0)) (gaB (ntB (wiL lv 0)) (spB (sA9 lv ub) ka ||| spB (sB9 lv ub) kb ||| spB (sC9 lv ub) kc))) = kc := by
    refine (ga_cg (sC9 lv ub) _ (spB (sC9 lv ub) kc) (fun c h => ?_)).trans (ga_sp _ _ hc9)
    have hc := c6 _ c (sC9_len hu) h
    obtain ⟨⟨h1, h2⟩, h3⟩ := (sC9_at hu hc).mp h
    rw [hd c hc h1, dg_sp (sA9 lv ub) _ c (fun h9 => h3 ((shB_at hc).mp ((sA9_at hu c).mp h9).1).1), dg_sp (sB9 lv ub) _ c (fun h9 => h3 ((shB_at hc).mp ((sB9_at hu hc).mp h9).1).1), Nat.or_zero, Nat.zero_or]
  unfold ftB
  rw [gA, gB, gC, ← hkc, ← hka, ← hkb]
  have e1 := Nat.div_add_mod (z / 4 ^ cnB (sC9 lv ub)) (4 ^ cnB (sA9 lv ub))
  have e2 := Nat.div_add_mod z (4 ^ cnB (sC9 lv ub))
  rw [Nat.mul_comm] at e1 e2
  rw [e1, e2]
theorem nd_bt (hN : NsT D M N dp) (hU : UsD D (fun c => ub[c]? = some true)) (hu : ub.length = 6) (o : Nat) : ndQ (BtR D M N t lv o) (4 ^ cnB (ntB (wiL lv 0))) = 4 ^ cnB (sB9 lv ub) * smN (fun k => ndQ (UnR D M N t lv ub o k) (4 ^ cnB (sC9 lv ub))) (4 ^ cnB (sA9 lv ub)) := by
  have pA : 0 < 4 ^ cnB (sA9 lv ub) := Nat.pow_pos (by omega)
  have pC : 0 < 4 ^ cnB (sC9 lv ub) := Nat.pow_pos (by omega)
  have hf : ∀ s : Nat, s < 4 ^ cnB (ntB (wiL lv 0)) → ftB lv ub s < 4 ^ cnB (sB9 lv ub) * 4 ^ cnB (sA9 lv ub) * 4 ^ cnB (sC9 lv ub) := by
    intro s _
    obtain ⟨d1, d2, d3, d4⟩ := ftB_dm (lv := lv) (ub := ub) s
    rw [← Nat.div_lt_iff_lt_mul pC, d1, ← Nat.div_lt_iff_lt_mul pA, d4]
    exact gaB_lt _ _
  have h := nd_map (R := BtR D M N t lv o) (Q := BkQ (4 ^ cnB (sC9 lv ub)) (fun y => UnR D M N t lv ub o (y % 4 ^ cnB (sA9 lv ub)))) BtR_rf BtR_sy BtR_tr (BkQ_rf (fun k a => UnR_rf o _ a)) (BkQ_sy (fun k a b h => UnR_sy o _ a b h)) (BkQ_tr (fun k a b c h h2 => UnR_tr o _ a b c h h2)) (n := 4 ^ cnB (ntB (wiL lv 0))) (m := 4 ^ cnB (sB9 lv ub) * 4 ^ cnB (sA9 lv ub) * 4 ^ cnB (sC9 lv ub)) (ftB lv ub) hf (fun a b _ _ => bt_map hN hU hu o a b) (fun k hk => bt_sur hu k hk)
  rw [h, nd_blk pC]
  exact smN_mod pA (fun k => ndQ (UnR D M N t lv ub o k) (4 ^ cnB (sC9 lv ub))) _
end BOTHW
