/-! tables, stacks, heaps -/
/-! postfix code: its depth is one, and goes on code by code -/
theorem stepc_det {c : Int32} {d0 d d' : Nat} (h : stepc c d0 d) (h' : stepc c d0 d') : d = d' := by
  unfold stepc at h h'; omega
theorem okc.det {f : Nat → Int32} {a : Nat} : ∀ {n d d' : Nat}, okc f a n d → okc f a n d' → d = d'
  | 0, _, _, h, h' => Eq.trans h (Eq.symm h')
  | _ + 1, _, _, ⟨_, h1, h2⟩, ⟨_, h1', h2'⟩ => by
    have := okc.det h1 h1'; subst this; exact stepc_det h2 h2'
theorem okc.pre {f : Nat → Int32} {a : Nat} : ∀ {m n d : Nat}, okc f a (n + m) d → ∃ d', okc f a n d'
  | 0, _, d, h => ⟨d, h⟩
  | _ + 1, _, _, ⟨_, h1, _⟩ => okc.pre h1
theorem okc.next {f : Nat → Int32} {a N D n d : Nat} (h : okc f a N D) (hn : n < N) (h1 : okc f a n d) : ∃ d2, stepc (f (a + n)) d d2 ∧ okc f a (n + 1) d2 := by
  obtain ⟨m, rfl⟩ : ∃ m, N = (n + 1) + m := ⟨N - (n + 1), by omega⟩
  obtain ⟨d2, d0, h2, h3⟩ := h.pre (n := n + 1)
  have := h1.det h2; subst this
  exact ⟨d2, h3, d, h1, h3⟩
theorem okc.le {f : Nat → Int32} {a : Nat} : ∀ {n d : Nat}, okc f a n d → d ≤ 24
  | 0, _, h => by have : _ = 0 := h; omega
  | _ + 1, _, ⟨_, h1, h2⟩ => by
    have := okc.le h1; unfold stepc at h2; omega
/-- one code on, told with places as Int32 -/
theorem okc.go {f : Nat → Int32} {F N l : Int} {D d : Nat} (hF : 0 ≤ F) (h : okc f F.toNat N.toNat D) (h0 : F ≤ l) (h1 : okc f F.toNat (l - F).toNat d) : ∃ d2 : Nat, l < F + N → stepc (f l.toNat) d d2 ∧ okc f F.toNat (l + 1 - F).toNat d2 := by
  by_cases hl : l < F + N
  · obtain ⟨d2, a, b⟩ := h.next (n := (l - F).toNat) (by omega) h1
    refine ⟨d2, fun _ => ⟨?_, ?_⟩⟩
    · rw [show l.toNat = F.toNat + (l - F).toNat by omega]; exact a
    · rw [show (l + 1 - F).toNat = (l - F).toNat + 1 by omega]; exact b
  · exact ⟨0, fun h => absurd h hl⟩
/-! the table of statements -/
def tkd (f : Nat → Int32) (i : Nat) : Int := (f (8 * i)).toInt
def tnm (f : Nat → Int32) (i : Nat) : Int := (f (8 * i + 1)).toInt
def tfr (f : Nat → Int32) (i : Nat) : Int := (f (8 * i + 2)).toInt
def tlh (f : Nat → Int32) (i : Nat) : Int := (f (8 * i + 3)).toInt
def tmd (f : Nat → Int32) (i : Nat) : Int := (f (8 * i + 4)).toInt
def ten (f : Nat → Int32) (i : Nat) : Int := (f (8 * i + 5)).toInt
/-- kind, number and sum of a statement -/
def okB (sl : Int) (f sm : Nat → Int32) (i : Nat) : Prop :=
  (0 ≤ tkd f i ∧ tkd f i ≤ 3) ∧ (tkd f i = 0 → 0 ≤ tnm f i ∧ tnm f i ≤ 5) ∧ (tkd f i = 3 → 0 ≤ tnm f i ∧ tnm f i ≤ 8) ∧
  (tkd f i ≠ 3 → 0 ≤ tfr f i ∧ 0 ≤ tlh f i ∧ tfr f i + tlh f i ≤ sl ∧ okc sm (tfr f i).toNat (tlh f i).toNat 1)
/-- a block that is closed -/
def okC (n : Int) (f : Nat → Int32) (dp : Nat → Nat) (i : Nat) : Prop :=
  (i : Int) < tmd f i ∧ tmd f i ≤ ten f i ∧ ten f i ≤ n ∧ dp i ≤ 5 ∧ ∀ j : Nat, i < j → (j : Int) < tmd f i → dp i < dp j ∧ (2 ≤ tkd f j → ten f j ≤ tmd f i)
def okT (mn : Int32) (f sm : Nat → Int32) : Prop :=
  0 ≤ mn.toInt ∧ mn.toInt ≤ 30 ∧ ∃ dp : Nat → Nat, ∀ i : Nat, (i : Int) < mn.toInt → okB 300 f sm i ∧ (2 ≤ tkd f i → okC mn.toInt f dp i)
theorem ix8 {i : Int32} (h0 : 0 ≤ i.toInt) (h1 : i.toInt < 60) : (8 * i).toNatClampNeg = 8 * i.toNatClampNeg := by
  have e : (8 * i).toInt = 8 * i.toInt := by simp only [Int32.toInt_mul, Int32.reduceToInt, Int.bmod]; omega
  have a := clampI h0
  have b := clampI (i := 8 * i) (by omega)
  omega
theorem ix8c {i : Int32} (c : Int32) (h0 : 0 ≤ i.toInt) (h1 : i.toInt < 60) (c0 : 0 ≤ c.toInt) (c1 : c.toInt < 8) : (8 * i + c).toNatClampNeg = 8 * i.toNatClampNeg + c.toNatClampNeg := by
  have e : (8 * i + c).toInt = 8 * i.toInt + c.toInt := by simp only [Int32.toInt_mul, Int32.toInt_add, Int32.reduceToInt, Int.bmod]; omega
  have a := clampI h0
  have a2 := clampI c0
  have b := clampI (i := 8 * i + c) (by omega)
  omega
theorem tkd_at (f : Nat → Int32) {i : Int32} (h0 : 0 ≤ i.toInt) (h1 : i.toInt < 60) : tkd f i.toNatClampNeg = (f (8 * i).toNatClampNeg).toInt := by unfold tkd; rw [ix8 h0 h1]
theorem tnm_at (f : Nat → Int32) {i : Int32} (h0 : 0 ≤ i.toInt) (h1 : i.toInt < 60) : tnm f i.toNatClampNeg = (f (8 * i + 1).toNatClampNeg).toInt := by unfold tnm; rw [ix8c 1 h0 h1 (by decide) (by decide)]; rfl
theorem tfr_at (f : Nat → Int32) {i : Int32} (h0 : 0 ≤ i.toInt) (h1 : i.toInt < 60) : tfr f i.toNatClampNeg = (f (8 * i + 2).toNatClampNeg).toInt := by unfold tfr; rw [ix8c 2 h0 h1 (by decide) (by decide)]; rfl
theorem tlh_at (f : Nat → Int32) {i : Int32} (h0 : 0 ≤ i.toInt) (h1 : i.toInt < 60) : tlh f i.toNatClampNeg = (f (8 * i + 3).toNatClampNeg).toInt := by unfold tlh; rw [ix8c 3 h0 h1 (by decide) (by decide)]; rfl
theorem tmd_at (f : Nat → Int32) {i : Int32} (h0 : 0 ≤ i.toInt) (h1 : i.toInt < 60) : tmd f i.toNatClampNeg = (f (8 * i + 4).toNatClampNeg).toInt := by unfold tmd; rw [ix8c 4 h0 h1 (by decide) (by decide)]; rfl
theorem ten_at (f : Nat → Int32) {i : Int32} (h0 : 0 ≤ i.toInt) (h1 : i.toInt < 60) : ten f i.toNatClampNeg = (f (8 * i + 5).toNatClampNeg).toInt := by unfold ten; rw [ix8c 5 h0 h1 (by decide) (by decide)]; rfl
/-- what is known of statement l, told with the places as the code has them -/
def okI (mn : Int32) (f sm : Nat → Int32) (l : Int32) : Prop :=
  (0 ≤ (f (8 * l).toNatClampNeg).toInt ∧ (f (8 * l).toNatClampNeg).toInt ≤ 3) ∧
  ((f (8 * l).toNatClampNeg).toInt = 0 → 0 ≤ (f (8 * l + 1).toNatClampNeg).toInt ∧ (f (8 * l + 1).toNatClampNeg).toInt ≤ 5) ∧
  ((f (8 * l).toNatClampNeg).toInt = 3 → 0 ≤ (f (8 * l + 1).toNatClampNeg).toInt ∧ (f (8 * l + 1).toNatClampNeg).toInt ≤ 8) ∧
  ((f (8 * l).toNatClampNeg).toInt ≠ 3 → 0 ≤ (f (8 * l + 2).toNatClampNeg).toInt ∧ 0 ≤ (f (8 * l + 3).toNatClampNeg).toInt ∧ (f (8 * l + 2).toNatClampNeg).toInt + (f (8 * l + 3).toNatClampNeg).toInt ≤ 300) ∧
  (2 ≤ (f (8 * l).toNatClampNeg).toInt → l.toInt < (f (8 * l + 4).toNatClampNeg).toInt ∧ (f (8 * l + 4).toNatClampNeg).toInt ≤ (f (8 * l + 5).toNatClampNeg).toInt ∧ (f (8 * l + 5).toNatClampNeg).toInt ≤ mn.toInt)
theorem okT.at {mn : Int32} {f sm : Nat → Int32} (h : okT mn f sm) {l : Int32} (h0 : 0 ≤ l.toInt) (h1 : l.toInt < mn.toInt) : okI mn f sm l := by
  obtain ⟨a, b, dp, hp⟩ := h
  have c := clampI h0
  obtain ⟨⟨p1, p2, p3, p4⟩, p5⟩ := hp l.toNatClampNeg (by omega)
  have h60 : l.toInt < 60 := by omega
  rw [tkd_at f h0 h60] at p1 p2 p3 p4 p5
  rw [tnm_at f h0 h60] at p2 p3
  rw [tfr_at f h0 h60, tlh_at f h0 h60] at p4
  unfold okC at p5
  rw [tmd_at f h0 h60, ten_at f h0 h60] at p5
  refine ⟨p1, p2, p3, fun q => ?_, fun q => ?_⟩
  · obtain ⟨q1, q2, q3, -⟩ := p4 q; exact ⟨q1, q2, q3⟩
  · obtain ⟨q1, q2, q3, -⟩ := p5 q; exact ⟨by omega, q2, q3⟩
theorem okT.code {mn : Int32} {f sm : Nat → Int32} (h : okT mn f sm) {l : Int32} (h0 : 0 ≤ l.toInt) (h1 : l.toInt < mn.toInt) (hk : (f (8 * l).toNatClampNeg).toInt ≠ 3) : okc sm (f (8 * l + 2).toNatClampNeg).toInt.toNat (f (8 * l + 3).toNatClampNeg).toInt.toNat 1 := by
  obtain ⟨a, b, dp, hp⟩ := h
  have c := clampI h0
  obtain ⟨⟨p1, p2, p3, p4⟩, p5⟩ := hp l.toNatClampNeg (by omega)
  have h60 : l.toInt < 60 := by omega
  rw [tkd_at f h0 h60, tfr_at f h0 h60, tlh_at f h0 h60] at p4
  exact (p4 hk).2.2.2
/-- a statement whose sum is to be worked out -/
def okV (f sm : Nat → Int32) (l : Int32) : Prop :=
  0 ≤ l.toInt ∧ l.toInt < 30 ∧ 0 ≤ (f (8 * l + 2).toNatClampNeg).toInt ∧ 0 ≤ (f (8 * l + 3).toNatClampNeg).toInt ∧ (f (8 * l + 2).toNatClampNeg).toInt + (f (8 * l + 3).toNatClampNeg).toInt ≤ 300 ∧ okc sm (f (8 * l + 2).toNatClampNeg).toInt.toNat (f (8 * l + 3).toNatClampNeg).toInt.toNat 1
theorem okT.val {mn : Int32} {f sm : Nat → Int32} (h : okT mn f sm) {l : Int32} (h0 : 0 ≤ l.toInt) (h1 : l.toInt < mn.toInt) (hk : (f (8 * l).toNatClampNeg).toInt ≠ 3) : okV f sm l := by
  have a := h.at h0 h1
  obtain ⟨q1, q2, q3⟩ := a.2.2.2.1 hk
  have b : mn.toInt ≤ 30 := h.2.1
  exact ⟨h0, by omega, q1, q2, q3, h.code h0 h1 hk⟩
/-! the stack of blocks of a run -/
def wgt (g : Nat → Int32) : Nat → Nat
  | 0 => 0
  | n + 1 => wgt g n + (g n).toInt.toNat
theorem wgt_upd (g : Nat → Int32) (v : Int32) (m : Nat) : ∀ n, n ≤ m → wgt (upd g m v) n = wgt g n
  | 0, _ => rfl
  | n + 1, h => by
    simp only [wgt]; rw [wgt_upd g v m n (by omega), upd_ne g v (by omega)]
theorem wgt_top {g : Nat → Int32} {l : Int32} (h : 1 ≤ l.toInt) : wgt g l.toNatClampNeg = wgt g (l - 1).toNatClampNeg + (g (l - 1).toNatClampNeg).toInt.toNat := by
  have hk := clampP h
  rw [← hk]; rfl
theorem wgt_topu {g : Nat → Int32} {l v : Int32} (h : 1 ≤ l.toInt) : wgt (upd g (l - 1).toNatClampNeg v) l.toNatClampNeg = wgt g (l - 1).toNatClampNeg + v.toInt.toNat := by
  rw [wgt_top h, wgt_upd _ _ _ _ (Nat.le_refl _), upd_eq]
theorem wgt_push {g : Nat → Int32} {l v : Int32} (h : 0 ≤ l.toInt) (h1 : l.toInt < 2147483647) : wgt (upd g l.toNatClampNeg v) (l + 1).toNatClampNeg = wgt g l.toNatClampNeg + v.toInt.toNat := by
  rw [clampS h h1]; simp only [wgt]; rw [wgt_upd _ _ _ _ (Nat.le_refl _), upd_eq]
theorem wgt_le (g : Nat → Int32) : ∀ n : Nat, (∀ j < n, (g j).toInt ≤ 8) → wgt g n ≤ 8 * n
  | 0, _ => Nat.le_refl _
  | n + 1, h => by
    have a := wgt_le g n (fun j hj => h j (by omega))
    have b := h n (by omega)
    simp only [wgt]; omega
def STK (f : Nat → Int32) (dp : Nat → Nat) (hi a : Int32) (bke bko bkl : Nat → Int32) : Prop :=
  (∀ j : Nat, (j : Int) < hi.toInt → 0 ≤ (bko j).toInt ∧ (bko j).toInt < a.toInt ∧ 2 ≤ tkd f (bko j).toNatClampNeg ∧ (bke j).toInt = tmd f (bko j).toNatClampNeg ∧ a.toInt ≤ (bke j).toInt ∧ 1 ≤ (bkl j).toInt ∧ (bkl j).toInt ≤ 8 ∧ j ≤ dp (bko j).toNatClampNeg) ∧
  (∀ j j' : Nat, j < j' → (j' : Int) < hi.toInt → (bko j).toInt < (bko j').toInt ∧ ten f (bko j').toNatClampNeg ≤ tmd f (bko j).toNatClampNeg)
def okTd (mn : Int32) (f sm : Nat → Int32) (dp : Nat → Nat) : Prop := ∀ i : Nat, (i : Int) < mn.toInt → okB 300 f sm i ∧ (2 ≤ tkd f i → okC mn.toInt f dp i)
section SK
variable {mn : Int32} {f sm : Nat → Int32} {dp : Nat → Nat} {hi a : Int32} {bke bko bkl : Nat → Int32}
theorem STK.nil : STK f dp 0 a bke bko bkl := ⟨fun j h => absurd h (by simp only [Int32.reduceToInt]; omega), fun j j' _ h => absurd h (by simp only [Int32.reduceToInt]; omega)⟩
theorem topIx (h : 1 ≤ hi.toInt) : (((hi - 1).toNatClampNeg : Nat) : Int) = hi.toInt - 1 := by
  have hr := i32r hi
  have e : (hi - 1).toInt = hi.toInt - 1 := by simp only [Int32.toInt_sub, Int32.reduceToInt, Int.bmod]; omega
  have := clampI (i := hi - 1) (by omega)
  omega
/-- the top block, told with its places -/
theorem STK.top (h : STK f dp hi a bke bko bkl) (hT : okTd mn f sm dp) (h30 : mn.toInt ≤ 30) (ha : a.toInt ≤ mn.toInt) (h1 : 1 ≤ hi.toInt) :
    0 ≤ (bko (hi - 1).toNatClampNeg).toInt ∧ (bko (hi - 1).toNatClampNeg).toInt < a.toInt ∧ 2 ≤ (f (8 * bko (hi - 1).toNatClampNeg).toNatClampNeg).toInt ∧ (f (8 * bko (hi - 1).toNatClampNeg).toNatClampNeg).toInt ≤ 3 ∧
    a.toInt ≤ (bke (hi - 1).toNatClampNeg).toInt ∧ 1 ≤ (bkl (hi - 1).toNatClampNeg).toInt ∧ (bkl (hi - 1).toNatClampNeg).toInt ≤ 8 ∧
    (bke (hi - 1).toNatClampNeg).toInt ≤ (f (8 * bko (hi - 1).toNatClampNeg + 5).toNatClampNeg).toInt ∧ (f (8 * bko (hi - 1).toNatClampNeg + 5).toNatClampNeg).toInt ≤ mn.toInt ∧ (bko (hi - 1).toNatClampNeg).toInt + 1 ≤ (bke (hi - 1).toNatClampNeg).toInt ∧ hi.toInt ≤ 6 := by
  have ht := topIx h1
  obtain ⟨p1, p2, p3, p4, p5, p6, p7, p8⟩ := h.1 (hi - 1).toNatClampNeg (by omega)
  have c := clampI p1
  obtain ⟨⟨q1, -⟩, q5⟩ := hT (bko (hi - 1).toNatClampNeg).toNatClampNeg (by omega)
  obtain ⟨r1, r2, r3, r4, -⟩ := q5 p3
  have h60 : (bko (hi - 1).toNatClampNeg).toInt < 60 := by omega
  rw [tkd_at f p1 h60] at p3 q1
  rw [ten_at f p1 h60] at r2 r3
  refine ⟨p1, p2, p3, q1.2, p5, p6, p7, by omega, r3, by omega, by omega⟩
theorem STK.hi6 (h : STK f dp hi a bke bko bkl) (hT : okTd mn f sm dp) (h30 : mn.toInt ≤ 30) (ha : a.toInt ≤ mn.toInt) : hi.toInt ≤ 6 := by
  rcases Int.lt_or_le hi.toInt 1 with q | q
  · omega
  · exact (h.top hT h30 ha q).2.2.2.2.2.2.2.2.2.2
theorem STK.wle (h : STK f dp hi a bke bko bkl) (h0 : 0 ≤ hi.toInt) : wgt bkl hi.toNatClampNeg ≤ 8 * hi.toNatClampNeg := by
  have c := clampI h0
  exact wgt_le _ _ (fun j hj => (h.1 j (by omega)).2.2.2.2.2.2.1)
theorem STK.again (h : STK f dp hi a bke bko bkl) (hT : okTd mn f sm dp) (h30 : mn.toInt ≤ 30) (ha : a.toInt ≤ mn.toInt) (h1 : 1 ≤ hi.toInt) {v : Int32} (v1 : 1 ≤ v.toInt) (v8 : v.toInt ≤ 8) : STK f dp hi (bko (hi - 1).toNatClampNeg + 1) bke bko (upd bkl (hi - 1).toNatClampNeg v) := by
  have ht := topIx h1
  obtain ⟨t1, t2, -, -, t5, -, -, -, -, t10, -⟩ := h.top hT h30 ha h1
  have e : (bko (hi - 1).toNatClampNeg + 1).toInt = (bko (hi - 1).toNatClampNeg).toInt + 1 := by simp only [Int32.toInt_add, Int32.reduceToInt, Int.bmod]; omega
  refine ⟨fun j hj => ?_, h.2⟩
  obtain ⟨p1, p2, p3, p4, p5, p6, p7, p8⟩ := h.1 j hj
  by_cases q : j = (hi - 1).toNatClampNeg
  · subst q
    rw [upd_eq]
    exact ⟨p1, by omega, p3, p4, by omega, v1, v8, p8⟩
  · rw [upd_ne _ _ q]
    have := (h.2 j (hi - 1).toNatClampNeg (by omega) (by omega)).1
    exact ⟨p1, by omega, p3, p4, by omega, p6, p7, p8⟩
theorem STK.again2 (h : STK f dp hi a bke bko bkl) (hT : okTd mn f sm dp) (h30 : mn.toInt ≤ 30) (ha : a.toInt ≤ mn.toInt) (h1 : 1 ≤ hi.toInt) {v w : Int32} (v1 : 1 ≤ v.toInt) (v8 : v.toInt ≤ 8) : STK f dp hi (bko (hi - 1).toNatClampNeg + 1) bke bko (upd (upd bkl (hi - 1).toNatClampNeg w) (hi - 1).toNatClampNeg v) := by
  have e : upd (upd bkl (hi - 1).toNatClampNeg w) (hi - 1).toNatClampNeg v = upd bkl (hi - 1).toNatClampNeg v := by
    funext j; simp only [upd]; split <;> rfl
  rw [e]; exact h.again hT h30 ha h1 v1 v8
theorem STK.pop (h : STK f dp hi a bke bko bkl) (hT : okTd mn f sm dp) (h30 : mn.toInt ≤ 30) (ha : a.toInt ≤ mn.toInt) (h1 : 1 ≤ hi.toInt) (he : (bke (hi - 1).toNatClampNeg).toInt = a.toInt) {v : Int32} : STK f dp (hi - 1) (f (8 * bko (hi - 1).toNatClampNeg + 5).toNatClampNeg) bke bko (upd bkl (hi - 1).toNatClampNeg v) := by
  have ht := topIx h1
  have hr := i32r hi
  have eh : (hi - 1).toInt = hi.toInt - 1 := by simp only [Int32.toInt_sub, Int32.reduceToInt, Int.bmod]; omega
  obtain ⟨t1, t2, -, -, t5, -, -, t8, t9, t10, -⟩ := h.top hT h30 ha h1
  refine ⟨fun j hj => ?_, fun j j' a1 a2 => h.2 j j' a1 (by omega)⟩
  obtain ⟨p1, p2, p3, p4, p5, p6, p7, p8⟩ := h.1 j (by omega)
  have g := (h.2 j (hi - 1).toNatClampNeg (by omega) (by omega)).2
  rw [ten_at f t1 (by omega)] at g
  rw [upd_ne _ _ (show j ≠ (hi - 1).toNatClampNeg by omega)]
  rw [he] at t8
  exact ⟨p1, by omega, p3, p4, by omega, p6, p7, p8⟩
theorem STK.lt (h : STK f dp hi a bke bko bkl) (hT : okTd mn f sm dp) (h30 : mn.toInt ≤ 30) (ha : a.toInt ≤ mn.toInt) (hn : hi.toInt ≤ 0 ∨ (bke (hi - 1).toNatClampNeg).toInt ≠ a.toInt) : ∀ j : Nat, (j : Int) < hi.toInt → a.toInt < (bke j).toInt := by
  intro j hj
  have h1 : 1 ≤ hi.toInt := by omega
  have ht := topIx h1
  obtain ⟨p1, p2, p3, p4, p5, p6, p7, p8⟩ := h.1 j hj
  obtain ⟨t1, t2, -, -, t5, -, -, t8, t9, t10, -⟩ := h.top hT h30 ha h1
  by_cases q : j = (hi - 1).toNatClampNeg
  · subst q; omega
  · have g := (h.2 j (hi - 1).toNatClampNeg (by omega) (by omega)).2
    rw [ten_at f t1 (by omega)] at g
    omega
theorem STK.step (h : STK f dp hi a bke bko bkl) (hl : ∀ j : Nat, (j : Int) < hi.toInt → a.toInt < (bke j).toInt) {a' : Int32} (e : a'.toInt = a.toInt + 1) : STK f dp hi a' bke bko bkl :=
  ⟨fun j hj => by
    obtain ⟨p1, p2, p3, p4, p5, p6, p7, p8⟩ := h.1 j hj
    have := hl j hj
    exact ⟨p1, by omega, p3, p4, by omega, p6, p7, p8⟩, h.2⟩
theorem STK.inB (h : STK f dp hi a bke bko bkl) (hT : okTd mn f sm dp) (ha : a.toInt < mn.toInt) (h0 : 0 ≤ a.toInt) (h2 : 2 ≤ tkd f a.toNatClampNeg) (hl : ∀ j : Nat, (j : Int) < hi.toInt → a.toInt < (bke j).toInt) : ∀ j : Nat, (j : Int) < hi.toInt → ten f a.toNatClampNeg ≤ tmd f (bko j).toNatClampNeg ∧ j < dp a.toNatClampNeg := by
  intro j hj
  obtain ⟨p1, p2, p3, p4, p5, p6, p7, p8⟩ := h.1 j hj
  have l := hl j hj
  have c := clampI p1
  have c2 := clampI h0
  obtain ⟨-, q5⟩ := hT (bko j).toNatClampNeg (by omega)
  obtain ⟨-, -, -, -, r⟩ := q5 p3
  obtain ⟨r1, r2⟩ := r a.toNatClampNeg (by omega) (by omega)
  exact ⟨r2 h2, by omega⟩
theorem STK.over (h : STK f dp hi a bke bko bkl) (hT : okTd mn f sm dp) (h30 : mn.toInt ≤ 30) (ha : a.toInt < mn.toInt) (h0 : 0 ≤ a.toInt) (h2 : 2 ≤ (f (8 * a).toNatClampNeg).toInt) (hl : ∀ j : Nat, (j : Int) < hi.toInt → a.toInt < (bke j).toInt) : STK f dp hi (f (8 * a + 4).toNatClampNeg) bke bko bkl := by
  have h60 : a.toInt < 60 := by omega
  rw [← tkd_at f h0 h60] at h2
  have i := h.inB hT ha h0 h2 hl
  have c2 := clampI h0
  obtain ⟨r1, r2, -⟩ := (hT a.toNatClampNeg (by omega)).2 h2
  rw [tmd_at f h0 h60] at r1 r2
  refine ⟨fun j hj => ?_, h.2⟩
  obtain ⟨p1, p2, p3, p4, p5, p6, p7, p8⟩ := h.1 j hj
  have := (i j hj).1
  exact ⟨p1, by omega, p3, p4, by omega, p6, p7, p8⟩
theorem STK.push (h : STK f dp hi a bke bko bkl) (hT : okTd mn f sm dp) (h30 : mn.toInt ≤ 30) (ha : a.toInt < mn.toInt) (h0 : 0 ≤ a.toInt) (hh : 0 ≤ hi.toInt) (h2 : 2 ≤ (f (8 * a).toNatClampNeg).toInt) (hl : ∀ j : Nat, (j : Int) < hi.toInt → a.toInt < (bke j).toInt) {v : Int32} (v1 : 1 ≤ v.toInt) (v8 : v.toInt ≤ 8) : STK f dp (hi + 1) (a + 1) (upd bke hi.toNatClampNeg (f (8 * a + 4).toNatClampNeg)) (upd bko hi.toNatClampNeg a) (upd bkl hi.toNatClampNeg v) := by
  have h60 : a.toInt < 60 := by omega
  have h6 := h.hi6 hT h30 (by omega)
  rw [← tkd_at f h0 h60] at h2
  have i := h.inB hT ha h0 h2 hl
  have c2 := clampI h0
  have ch := clampI hh
  obtain ⟨r1, r2, r3, -⟩ := (hT a.toNatClampNeg (by omega)).2 h2
  have eh : (hi + 1).toInt = hi.toInt + 1 := by simp only [Int32.toInt_add, Int32.reduceToInt, Int.bmod]; omega
  have ea : (a + 1).toInt = a.toInt + 1 := by simp only [Int32.toInt_add, Int32.reduceToInt, Int.bmod]; omega
  have em := tmd_at f h0 h60
  have hd : hi.toNatClampNeg ≤ dp a.toNatClampNeg := by
    rcases Nat.eq_zero_or_pos hi.toNatClampNeg with q | q
    · omega
    · have := (i (hi.toNatClampNeg - 1) (by omega)).2; omega
  refine ⟨fun j hj => ?_, fun j j' a1 a2 => ?_⟩
  · by_cases q : j = hi.toNatClampNeg
    · subst q
      rw [upd_eq, upd_eq, upd_eq]
      exact ⟨h0, by omega, h2, by omega, by omega, v1, v8, hd⟩
    · rw [upd_ne _ _ q, upd_ne _ _ q, upd_ne _ _ q]
      obtain ⟨p1, p2, p3, p4, p5, p6, p7, p8⟩ := h.1 j (by omega)
      have := hl j (by omega)
      exact ⟨p1, by omega, p3, p4, by omega, p6, p7, p8⟩
  · have qj : j ≠ hi.toNatClampNeg := by omega
    rw [upd_ne _ _ qj]
    by_cases q : j' = hi.toNatClampNeg
    · subst q
      rw [upd_eq]
      have x := h.1 j (by omega)
      exact ⟨x.2.1, (i j (by omega)).1⟩
    · rw [upd_ne _ _ q]
      exact h.2 j j' a1 (by omega)
end SK
theorem okT.d {mn : Int32} {f sm : Nat → Int32} (h : okT mn f sm) : ∃ dp, okTd mn f sm dp := h.2.2
/-! heaps of the reference; small lemmas -/
theorem okc.cast {f : Nat → Int32} {a n m d : Nat} (h : okc f a n d) (e : n = m) : okc f a m d := e ▸ h
theorem Tot.bdq {α β : Type} {P : α → Prop} {Q : β → Prop} {x : Option α} {f : α → Option β} (h : Tot x P) (k : ∀ a, x = some a → P a → Tot (f a) Q) : Tot (x.bind f) Q := by
  obtain ⟨a, e, ha⟩ := h; rw [e]; exact k a e ha
theorem and64 (x m : Int64) (h : 0 ≤ m.toInt) : 0 ≤ (x &&& m).toInt ∧ (x &&& m).toInt ≤ m.toInt := by
  have e1 : (x &&& m).toInt = (x.toBitVec &&& m.toBitVec).toInt := rfl
  have e2 : m.toInt = m.toBitVec.toInt := rfl
  have hn : (x.toBitVec &&& m.toBitVec).toNat ≤ m.toBitVec.toNat := by rw [BitVec.toNat_and]; exact Nat.and_le_right
  have hm := m.toBitVec.isLt
  rw [e2] at h
  rw [e1, e2]
  rw [BitVec.toInt_eq_toNat_cond] at h
  rw [BitVec.toInt_eq_toNat_cond, BitVec.toInt_eq_toNat_cond (x := m.toBitVec)]
  split at h
  · rw [if_pos (by omega), if_pos (by omega)]; omega
  · omega
theorem and32 (x m : Int32) (h : 0 ≤ m.toInt) : 0 ≤ (x &&& m).toInt ∧ (x &&& m).toInt ≤ m.toInt := by
  have e1 : (x &&& m).toInt = (x.toBitVec &&& m.toBitVec).toInt := rfl
  have e2 : m.toInt = m.toBitVec.toInt := rfl
  have hn : (x.toBitVec &&& m.toBitVec).toNat ≤ m.toBitVec.toNat := by rw [BitVec.toNat_and]; exact Nat.and_le_right
  have hm := m.toBitVec.isLt
  rw [e2] at h
  rw [e1, e2]
  rw [BitVec.toInt_eq_toNat_cond] at h
  rw [BitVec.toInt_eq_toNat_cond, BitVec.toInt_eq_toNat_cond (x := m.toBitVec)]
  split at h
  · rw [if_pos (by omega), if_pos (by omega)]; omega
  · omega
theorem maskB (x : Int64) {sc : Int32} (h1 : 1 ≤ sc.toInt) (h2 : sc.toInt ≤ 4096) : 0 ≤ ((x &&& (2 * sc.toInt64 - 1)).toInt32).toInt ∧ ((x &&& (2 * sc.toInt64 - 1)).toInt32).toInt < 2 * sc.toInt := by
  have e : (2 * sc.toInt64 - 1).toInt = 2 * sc.toInt - 1 := by
    simp only [Int64.toInt_sub, Int64.toInt_mul, Int32.toInt_toInt64, Int64.reduceToInt, Int.bmod]; omega
  have a := and64 x (2 * sc.toInt64 - 1) (by omega)
  rw [Int64.toInt_toInt32]
  simp only [Int.bmod]; omega
theorem int7 {c : Int32} (h0 : 0 ≤ c.toInt) (h1 : c.toInt ≤ 6) : c = 0 ∨ c = 1 ∨ c = 2 ∨ c = 3 ∨ c = 4 ∨ c = 5 ∨ c = 6 := by
  simp only [← Int32.toInt_inj, Int32.reduceToInt]; omega
theorem shlB {c : Int32} (h0 : 0 ≤ c.toInt) (h1 : c.toInt ≤ 6) : 1 ≤ ((1 : Int32) <<< ((2 * c) &&& 31)).toInt ∧ ((1 : Int32) <<< ((2 * c) &&& 31)).toInt ≤ 4096 := by
  rcases int7 h0 h1 with rfl | rfl | rfl | rfl | rfl | rfl | rfl <;> decide
theorem shl8 {c : Int32} (h0 : 0 ≤ c.toInt) (h1 : c.toInt ≤ 8) : 1 ≤ ((1 : Int32) <<< (c &&& 31)).toInt ∧ ((1 : Int32) <<< (c &&& 31)).toInt ≤ 256 := by
  have : c = 0 ∨ c = 1 ∨ c = 2 ∨ c = 3 ∨ c = 4 ∨ c = 5 ∨ c = 6 ∨ c = 7 ∨ c = 8 := by
    simp only [← Int32.toInt_inj, Int32.reduceToInt]; omega
  rcases this with rfl | rfl | rfl | rfl | rfl | rfl | rfl | rfl | rfl <;> decide
def HIv (s sc hp : Int32) (hpo bgn chn : Nat → Int32) : Prop :=
  (∀ k : Nat, (k : Int) < 2 * sc.toInt → (bgn k).toInt = -9 ∨ (0 ≤ (bgn k).toInt ∧ (bgn k).toInt < s.toInt ∧ hpo (bgn k).toNatClampNeg = bgn k)) ∧
  (∀ k : Nat, (k : Int) < s.toInt → (hpo k).toInt = k → (chn k).toInt = -9 ∨ (0 ≤ (chn k).toInt ∧ (chn k).toInt < k ∧ hpo (chn k).toNatClampNeg = chn k)) ∧
  (∀ k : Nat, (k : Int) < s.toInt → 0 ≤ (hpo k).toInt ∧ (hpo k).toInt < s.toInt) ∧
  (0 ≤ hp.toInt ∧ hp.toInt ≤ s.toInt) ∧ (2 ≤ hp.toInt → ∃ k : Nat, (k : Int) < s.toInt ∧ (hpo k).toInt ≠ 0)
/-- one at which a search may stand -/
def HLk (s like : Int32) (hpo : Nat → Int32) : Prop := like.toInt = -9 ∨ (0 ≤ like.toInt ∧ like.toInt < s.toInt ∧ hpo like.toNatClampNeg = like)
section HI
variable {s sc hp : Int32} {hpo bgn chn : Nat → Int32}
theorem HLk.r {like : Int32} (h : HLk s like hpo) : like.toInt = -9 ∨ (0 ≤ like.toInt ∧ like.toInt < s.toInt) := by
  rcases h with h | ⟨h1, h2, -⟩
  · exact Or.inl h
  · exact Or.inr ⟨h1, h2⟩
theorem HIv.nil (h : ∀ k : Nat, (k : Int) < 2 * sc.toInt → bgn k = -9) : HIv 0 sc 0 hpo bgn chn := by
  refine ⟨fun k hk => Or.inl ?_, fun k hk => absurd hk ?_, fun k hk => absurd hk ?_, by decide, fun h => absurd h (by decide)⟩
  · rw [h k hk]; rfl
  · simp only [Int32.reduceToInt]; omega
  · simp only [Int32.reduceToInt]; omega
theorem HIv.bg (h : HIv s sc hp hpo bgn chn) {at_ : Int32} (h0 : 0 ≤ at_.toInt) (h1 : at_.toInt < 2 * sc.toInt) : HLk s (bgn at_.toNatClampNeg) hpo := by
  have c := clampI h0
  exact h.1 at_.toNatClampNeg (by omega)
theorem HIv.ch (h : HIv s sc hp hpo bgn chn) {k : Int32} (hk : HLk s k hpo) (hn : k.toInt ≠ -9) : HLk s (chn k.toNatClampNeg) hpo ∧ (chn k.toNatClampNeg).toInt < k.toInt := by
  obtain ⟨h0, h1, h2⟩ := hk.resolve_left hn
  have c := clampI h0
  rcases h.2.1 k.toNatClampNeg (by omega) (by rw [h2]; omega) with g | ⟨g1, g2, g3⟩
  · exact ⟨Or.inl g, by omega⟩
  · exact ⟨Or.inr ⟨g1, by omega, g3⟩, by omega⟩
theorem HIv.ho (h : HIv s sc hp hpo bgn chn) {k : Int32} (h0 : 0 ≤ k.toInt) (h1 : k.toInt < s.toInt) : 0 ≤ (hpo k.toNatClampNeg).toInt ∧ (hpo k.toNatClampNeg).toInt < s.toInt := by
  have c := clampI h0
  exact h.2.2.1 k.toNatClampNeg (by omega)
theorem HIv.new (h : HIv s sc hp hpo bgn chn) (h0 : 0 ≤ s.toInt) (h1 : s.toInt < sc.toInt) (h2 : sc.toInt ≤ 4096) {at_ : Int32} (a0 : 0 ≤ at_.toInt) (a1 : at_.toInt < 2 * sc.toInt) : HIv (s + 1) sc (hp + 1) (upd hpo s.toNatClampNeg s) (upd bgn at_.toNatClampNeg s) (upd chn s.toNatClampNeg (bgn at_.toNatClampNeg)) := by
  have cs := clampI h0
  have ca := clampI a0
  have hb := h.bg a0 a1
  obtain ⟨g1, g2, g3, g4, g5⟩ := h
  have e : (s + 1).toInt = s.toInt + 1 := by simp only [Int32.toInt_add, Int32.reduceToInt, Int.bmod]; omega
  have e2 : (hp + 1).toInt = hp.toInt + 1 := by simp only [Int32.toInt_add, Int32.reduceToInt, Int.bmod]; omega
  have keep : ∀ x : Int32, 0 ≤ x.toInt → x.toInt < s.toInt → hpo x.toNatClampNeg = x → upd hpo s.toNatClampNeg s x.toNatClampNeg = x := fun x x0 x1 x2 => by
    have cx := clampI x0
    rw [upd_ne _ _ (by omega)]; exact x2
  refine ⟨fun k hk => ?_, fun k hk hh => ?_, fun k hk => ?_, by omega, fun q => ?_⟩
  · by_cases z : k = at_.toNatClampNeg
    · subst z; rw [upd_eq]; exact Or.inr ⟨h0, by omega, upd_eq _ _ _⟩
    · rw [upd_ne _ _ z]
      rcases g1 k hk with g | ⟨p1, p2, p3⟩
      · exact Or.inl g
      · exact Or.inr ⟨p1, by omega, keep _ p1 p2 p3⟩
  · by_cases z : k = s.toNatClampNeg
    · subst z; rw [upd_eq]
      rcases hb with g | ⟨p1, p2, p3⟩
      · exact Or.inl g
      · exact Or.inr ⟨p1, by omega, keep _ p1 p2 p3⟩
    · rw [upd_ne _ _ z] at hh ⊢
      rcases g2 k (by omega) hh with g | ⟨p1, p2, p3⟩
      · exact Or.inl g
      · exact Or.inr ⟨p1, p2, keep _ p1 (by omega) p3⟩
  · by_cases z : k = s.toNatClampNeg
    · subst z; rw [upd_eq]; omega
    · rw [upd_ne _ _ z]; have := g3 k (by omega); omega
  · exact ⟨s.toNatClampNeg, by omega, by rw [upd_eq]; omega⟩
theorem HIv.old (h : HIv s sc hp hpo bgn chn) (h0 : 0 ≤ s.toInt) (h1 : s.toInt < sc.toInt) (h2 : sc.toInt ≤ 4096) {like : Int32} (hl : HLk s like hpo) (hn : like.toInt ≠ -9) : HIv (s + 1) sc hp (upd hpo s.toNatClampNeg like) bgn chn := by
  have cs := clampI h0
  obtain ⟨a0, a1, a2⟩ := hl.resolve_left hn
  obtain ⟨g1, g2, g3, g4, g5⟩ := h
  have e : (s + 1).toInt = s.toInt + 1 := by simp only [Int32.toInt_add, Int32.reduceToInt, Int.bmod]; omega
  have keep : ∀ x : Int32, 0 ≤ x.toInt → x.toInt < s.toInt → hpo x.toNatClampNeg = x → upd hpo s.toNatClampNeg like x.toNatClampNeg = x := fun x x0 x1 x2 => by
    have cx := clampI x0
    rw [upd_ne _ _ (by omega)]; exact x2
  refine ⟨fun k hk => ?_, fun k hk hh => ?_, fun k hk => ?_, by omega, fun q => ?_⟩
  · rcases g1 k hk with g | ⟨p1, p2, p3⟩
    · exact Or.inl g
    · exact Or.inr ⟨p1, by omega, keep _ p1 p2 p3⟩
  · by_cases z : k = s.toNatClampNeg
    · subst z; rw [upd_eq] at hh; omega
    · rw [upd_ne _ _ z] at hh
      rcases g2 k (by omega) hh with g | ⟨p1, p2, p3⟩
      · exact Or.inl g
      · exact Or.inr ⟨p1, p2, keep _ p1 (by omega) p3⟩
  · by_cases z : k = s.toNatClampNeg
    · subst z; rw [upd_eq]; omega
    · rw [upd_ne _ _ z]; have := g3 k (by omega); omega
  · obtain ⟨k, k1, k2⟩ := g5 q
    exact ⟨k, by omega, by rw [upd_ne _ _ (by omega)]; exact k2⟩
end HI
/-! levels -/
def lv3 (f : Nat → Int32) : Prop := ∀ c : Nat, c < 6 → 0 ≤ (f c).toInt ∧ (f c).toInt ≤ 3
theorem lv3.at {f : Nat → Int32} (h : lv3 f) {i : Int32} (h0 : 0 ≤ i.toInt) (h1 : i.toInt < 6) : 0 ≤ (f i.toNatClampNeg).toInt ∧ (f i.toNatClampNeg).toInt ≤ 3 := by
  have c := clampI h0
  exact h _ (by omega)
theorem lv3.upd {f : Nat → Int32} (h : lv3 f) {i v : Int32} (h0 : 0 ≤ v.toInt) (h1 : v.toInt ≤ 3) : lv3 (upd f i.toNatClampNeg v) := fun c hc => by
  by_cases z : c = i.toNatClampNeg
  · subst z; rw [upd_eq]; exact ⟨h0, h1⟩
  · rw [upd_ne _ _ z]; exact h c hc
theorem int4 {c : Int32} (h0 : 0 ≤ c.toInt) (h1 : c.toInt ≤ 3) : c = 0 ∨ c = 1 ∨ c = 2 ∨ c = 3 := by
  simp only [← Int32.toInt_inj, Int32.reduceToInt]; omega
theorem or03 {x y : Int32} (hx : 0 ≤ x.toInt ∧ x.toInt ≤ 3) (hy : 0 ≤ y.toInt ∧ y.toInt ≤ 3) : 0 ≤ (x ||| y).toInt ∧ (x ||| y).toInt ≤ 3 ∧ x.toInt ≤ (x ||| y).toInt := by
  rcases int4 hx.1 hx.2 with rfl | rfl | rfl | rfl <;> rcases int4 hy.1 hy.2 with rfl | rfl | rfl | rfl <;> decide
def tot6 (f : Nat → Int32) : Int := (f 0).toInt + (f 1).toInt + (f 2).toInt + (f 3).toInt + (f 4).toInt + (f 5).toInt
theorem tot6_le {f : Nat → Int32} (h : lv3 f) : 0 ≤ tot6 f ∧ tot6 f ≤ 18 := by
  have a := h 0 (by decide); have b := h 1 (by decide); have c := h 2 (by decide); have d := h 3 (by decide); have e := h 4 (by decide); have g := h 5 (by decide)
  unfold tot6; omega
theorem tot6_upd {f : Nat → Int32} {i v : Int32} (h0 : 0 ≤ i.toInt) (h1 : i.toInt < 6) : tot6 (upd f i.toNatClampNeg v) = tot6 f + v.toInt - (f i.toNatClampNeg).toInt := by
  rcases int7 h0 (by omega) with rfl | rfl | rfl | rfl | rfl | rfl | rfl
  all_goals first | (exfalso; revert h1; decide) | (unfold tot6; simp [upd]; omega)
