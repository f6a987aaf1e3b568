/-! reading, the reference: tables that grow -/
/-! reading: the statements told so far, the blocks that are open -/
def OPNd (hi : Nat) (opn : Nat → Int32) (i : Nat) : Prop := ∃ j : Nat, j < hi ∧ (opn j).toInt = 240 + 8 * (i : Int)
def RIN (n hi : Nat) (sM : Int) (f g opn opp : Nat → Int32) (dp : Nat → Nat) : Prop :=
  (∀ i : Nat, i < n → okB sM f g i) ∧
  (∀ i : Nat, i < n → 2 ≤ tkd f i → ¬ OPNd hi opn i → okC n f dp i ∧ ∀ j : Nat, i < j → (j : Int) < tmd f i → ¬ OPNd hi opn j) ∧
  (∀ j : Nat, j < hi → ∃ i : Nat, (opn j).toInt = 240 + 8 * (i : Int) ∧ i < n ∧ 2 ≤ tkd f i ∧ dp i = j ∧
    ((opp j).toInt = 0 → ∀ i' : Nat, i < i' → i' < n → j < dp i') ∧
    ((opp j).toInt ≠ 0 → (i : Int) < tmd f i ∧ tmd f i ≤ n ∧ ∀ i' : Nat, i < i' → (i' : Int) < tmd f i → j < dp i' ∧ ¬ OPNd hi opn i' ∧ (2 ≤ tkd f i' → ten f i' ≤ tmd f i))) ∧
  (∀ j j' : Nat, j < j' → j' < hi → (opn j).toInt < (opn j').toInt)
section RD
variable {n hi : Nat} {sM sM2 : Int} {f f2 g g2 opn opp : Nat → Int32} {dp dp2 : Nat → Nat} {i : Nat}
theorem fsame (h : ∀ k : Nat, k < 8 * n → f2 k = f k) (hi : i < n) : tkd f2 i = tkd f i ∧ tnm f2 i = tnm f i ∧ tfr f2 i = tfr f i ∧ tlh f2 i = tlh f i ∧ tmd f2 i = tmd f i ∧ ten f2 i = ten f i := by
  unfold tkd tnm tfr tlh tmd ten
  refine ⟨?_, ?_, ?_, ?_, ?_, ?_⟩ <;> rw [h _ (by omega)]
theorem okB.congr (h : okB sM f g i) (e : tkd f2 i = tkd f i ∧ tnm f2 i = tnm f i ∧ tfr f2 i = tfr f i ∧ tlh f2 i = tlh f i) (hs : sM ≤ sM2) (hg : ∀ k : Nat, (k : Int) < sM → g2 k = g k) : okB sM2 f2 g2 i := by
  obtain ⟨e1, e2, e3, e4⟩ := e
  unfold okB at h ⊢
  rw [e1, e2, e3, e4]
  refine ⟨h.1, h.2.1, h.2.2.1, fun q => ?_⟩
  obtain ⟨p1, p2, p3, p4⟩ := h.2.2.2 q
  exact ⟨p1, p2, by omega, p4.congr (fun k hk => (hg _ (by omega)).symm)⟩
theorem okC.congr {N N2 : Int} (h : okC N f dp i) (hN : N ≤ N2) (e : ∀ j : Nat, i ≤ j → (j : Int) < N → tkd f2 j = tkd f j ∧ tmd f2 j = tmd f j ∧ ten f2 j = ten f j ∧ dp2 j = dp j) : okC N2 f2 dp2 i := by
  obtain ⟨p1, p2, p3, p4, p5⟩ := h
  obtain ⟨e1, e2, e3, e4⟩ := e i (Nat.le_refl _) (by omega)
  unfold okC
  rw [e2, e3, e4]
  refine ⟨p1, p2, by omega, p4, fun j a b => ?_⟩
  obtain ⟨g1, g2, g3, g4⟩ := e j (by omega) (by omega)
  rw [g1, g3, g4]
  exact p5 j a b
theorem RIN.nil : RIN 0 0 sM f g opn opp dp :=
  ⟨fun i h => absurd h (Nat.not_lt_zero _), fun i h => absurd h (Nat.not_lt_zero _), fun i h => absurd h (Nat.not_lt_zero _), fun j j' _ h => absurd h (Nat.not_lt_zero _)⟩
theorem RIN.app (h : RIN n hi sM f g opn opp dp) (hf : ∀ k : Nat, k < 8 * n → f2 k = f k) (hg : ∀ k : Nat, (k : Int) < sM → g2 k = g k) (hs : sM ≤ sM2) (hb : okB sM2 f2 g2 n) (hk : tkd f2 n ≤ 1) : RIN (n + 1) hi sM2 f2 g2 opn opp (fun k => if k = n then hi else dp k) := by
  obtain ⟨ha, hc, ho, hd⟩ := h
  refine ⟨fun i hi_ => ?_, fun i hi_ h2 h3 => ?_, fun j hj => ?_, hd⟩
  · by_cases z : i = n
    · subst z; exact hb
    · obtain ⟨e1, e2, e3, e4, -⟩ := fsame hf (show i < n by omega)
      exact (ha i (by omega)).congr ⟨e1, e2, e3, e4⟩ hs hg
  · by_cases z : i = n
    · subst z; omega
    · obtain ⟨e1, e2, e3, e4, e5, e6⟩ := fsame hf (show i < n by omega)
      rw [e1] at h2
      obtain ⟨q1, q2⟩ := hc i (by omega) h2 h3
      rw [e5]
      refine ⟨q1.congr (by omega) (fun j a b => ?_), q2⟩
      obtain ⟨d1, d2, d3, d4, d5, d6⟩ := fsame hf (show j < n by omega)
      exact ⟨d1, d5, d6, if_neg (by omega)⟩
  · obtain ⟨i, o1, o2, o3, o4, o5, o6⟩ := ho j hj
    obtain ⟨e1, e2, e3, e4, e5, e6⟩ := fsame hf o2
    refine ⟨i, o1, by omega, by omega, by dsimp only; rw [if_neg (by omega)]; exact o4, fun p i' a b => ?_, fun p => ?_⟩
    · dsimp only
      split
      · omega
      · exact o5 p i' a (by omega)
    · obtain ⟨r1, r2, r3⟩ := o6 p
      rw [e5]
      refine ⟨r1, by omega, fun i' a b => ?_⟩
      obtain ⟨s1, s2, s3⟩ := r3 i' a b
      obtain ⟨d1, d2, d3, d4, d5, d6⟩ := fsame hf (show i' < n by omega)
      dsimp only
      rw [if_neg (by omega), d1, d6]
      exact ⟨s1, s2, s3⟩
theorem OPNd.up {v : Int32} (hv : v.toInt = 240 + 8 * (n : Int)) {i : Nat} (h : OPNd (hi + 1) (upd opn hi v) i) : OPNd hi opn i ∨ i = n := by
  obtain ⟨j, h1, h2⟩ := h
  by_cases z : j = hi
  · subst z; rw [upd_eq] at h2; right; omega
  · rw [upd_ne _ _ z] at h2; exact Or.inl ⟨j, by omega, h2⟩
theorem OPNd.dn {v : Int32} {i : Nat} (h : OPNd hi opn i) : OPNd (hi + 1) (upd opn hi v) i := by
  obtain ⟨j, h1, h2⟩ := h
  exact ⟨j, by omega, by rw [upd_ne _ _ (by omega)]; exact h2⟩
theorem RIN.push (h : RIN n hi sM f g opn opp dp) (hf : ∀ k : Nat, k < 8 * n → f2 k = f k) (hg : ∀ k : Nat, (k : Int) < sM → g2 k = g k) (hs : sM ≤ sM2) (hb : okB sM2 f2 g2 n) (hk : 2 ≤ tkd f2 n) {v w : Int32} (hv : v.toInt = 240 + 8 * (n : Int)) (hw : w.toInt = 0) : RIN (n + 1) (hi + 1) sM2 f2 g2 (upd opn hi v) (upd opp hi w) (fun k => if k = n then hi else dp k) := by
  obtain ⟨ha, hc, ho, hd⟩ := h
  refine ⟨fun i hi_ => ?_, fun i hi_ h2 h3 => ?_, fun j hj => ?_, fun j j' a b => ?_⟩
  · by_cases z : i = n
    · subst z; exact hb
    · obtain ⟨e1, e2, e3, e4, -⟩ := fsame hf (show i < n by omega)
      exact (ha i (by omega)).congr ⟨e1, e2, e3, e4⟩ hs hg
  · by_cases z : i = n
    · subst z; exact absurd ⟨hi, by omega, by rw [upd_eq]; exact hv⟩ h3
    · obtain ⟨e1, e2, e3, e4, e5, e6⟩ := fsame hf (show i < n by omega)
      rw [e1] at h2
      obtain ⟨q1, q2⟩ := hc i (by omega) h2 (fun x => h3 x.dn)
      have q3 := q1.2.1
      have q4 := q1.2.2.1
      rw [e5]
      refine ⟨q1.congr (by omega) (fun j a b => ?_), fun j a b x => ?_⟩
      · obtain ⟨d1, d2, d3, d4, d5, d6⟩ := fsame hf (show j < n by omega)
        exact ⟨d1, d5, d6, if_neg (by omega)⟩
      · rcases x.up hv with x | x
        · exact q2 j a b x
        · omega
  · by_cases z : j = hi
    · subst z
      rw [upd_eq, upd_eq]
      refine ⟨n, hv, by omega, hk, if_pos rfl, fun _ i' a b => ?_, fun p => absurd hw p⟩
      omega
    · obtain ⟨i, o1, o2, o3, o4, o5, o6⟩ := ho j (by omega)
      obtain ⟨e1, e2, e3, e4, e5, e6⟩ := fsame hf o2
      rw [upd_ne _ _ z, upd_ne _ _ z]
      refine ⟨i, o1, by omega, by omega, by dsimp only; rw [if_neg (by omega)]; exact o4, fun p i' a b => ?_, fun p => ?_⟩
      · dsimp only
        split
        · omega
        · exact o5 p i' a (by omega)
      · obtain ⟨r1, r2, r3⟩ := o6 p
        rw [e5]
        refine ⟨r1, by omega, fun i' a b => ?_⟩
        obtain ⟨s1, s2, s3⟩ := r3 i' a b
        obtain ⟨d1, d2, d3, d4, d5, d6⟩ := fsame hf (show i' < n by omega)
        dsimp only
        rw [if_neg (by omega), d1, d6]
        refine ⟨s1, fun x => ?_, s3⟩
        rcases x.up hv with x | x
        · exact s2 x
        · omega
  · rw [upd_ne _ _ (show j ≠ hi by omega)]
    by_cases z : j' = hi
    · subst z
      rw [upd_eq]
      obtain ⟨i, o1, o2, -⟩ := ho j (by omega)
      omega
    · rw [upd_ne _ _ z]; exact hd j j' a (by omega)
/-- the topmost open block -/
theorem RIN.top (h : RIN n (hi + 1) sM f g opn opp dp) : ∃ it : Nat, (opn hi).toInt = 240 + 8 * (it : Int) ∧ it < n ∧ 2 ≤ tkd f it ∧ dp it = hi ∧
    ((opp hi).toInt = 0 → ∀ i' : Nat, it < i' → i' < n → hi < dp i') ∧
    ((opp hi).toInt ≠ 0 → (it : Int) < tmd f it ∧ tmd f it ≤ n ∧ ∀ i' : Nat, it < i' → (i' : Int) < tmd f it → hi < dp i' ∧ ¬ OPNd (hi + 1) opn i' ∧ (2 ≤ tkd f i' → ten f i' ≤ tmd f it)) ∧
    (∀ i' : Nat, it < i' → ¬ OPNd (hi + 1) opn i') := by
  obtain ⟨ha, hc, ho, hd⟩ := h
  obtain ⟨i, o1, o2, o3, o4, o5, o6⟩ := ho hi (by omega)
  refine ⟨i, o1, o2, o3, o4, o5, o6, fun i' a ⟨j, x1, x2⟩ => ?_⟩
  by_cases z : j = hi
  · subst z; omega
  · have := hd j hi (by omega) (by omega); omega
theorem gsame {it i : Nat} (hf : ∀ k : Nat, k ≠ 8 * it + 4 → k ≠ 8 * it + 5 → f2 k = f k) : tkd f2 i = tkd f i ∧ tnm f2 i = tnm f i ∧ tfr f2 i = tfr f i ∧ tlh f2 i = tlh f i ∧ (i ≠ it → tmd f2 i = tmd f i ∧ ten f2 i = ten f i) := by
  unfold tkd tnm tfr tlh tmd ten
  refine ⟨by rw [hf _ (by omega) (by omega)], by rw [hf _ (by omega) (by omega)], by rw [hf _ (by omega) (by omega)], by rw [hf _ (by omega) (by omega)], fun h => ⟨by rw [hf _ (by omega) (by omega)], by rw [hf _ (by omega) (by omega)]⟩⟩
theorem OPNd.less {i : Nat} (h : OPNd (hi + 1) opn i) (hn : (opn hi).toInt ≠ 240 + 8 * (i : Int)) : OPNd hi opn i := by
  obtain ⟨j, h1, h2⟩ := h
  by_cases z : j = hi
  · subst z; exact absurd h2 hn
  · exact ⟨j, by omega, h2⟩
theorem OPNd.more {i : Nat} (h : OPNd hi opn i) : OPNd (hi + 1) opn i := by
  obtain ⟨j, h1, h2⟩ := h
  exact ⟨j, by omega, h2⟩
theorem RIN.close (h : RIN n (hi + 1) sM f g opn opp dp) {it : Nat} (ht : (opn hi).toInt = 240 + 8 * (it : Int)) (h6 : hi ≤ 5) (hf : ∀ k : Nat, k ≠ 8 * it + 4 → k ≠ 8 * it + 5 → f2 k = f k) (h4 : tmd f2 it = if (opp hi).toInt = 0 then (n : Int) else tmd f it) (h5 : ten f2 it = n) : RIN n hi sM f2 g opn opp dp := by
  obtain ⟨it', t1, t2, t3, t4, t5, t6, t7⟩ := h.top
  have : it' = it := by omega
  subst this
  obtain ⟨ha, hc, ho, hd⟩ := h
  have hopn : OPNd (hi + 1) opn it' := ⟨hi, by omega, t1⟩
  refine ⟨fun i hi_ => ?_, fun i hi_ h2 h3 => ?_, fun j hj => ?_, fun j j' a b => hd j j' a (by omega)⟩
  · obtain ⟨e1, e2, e3, e4, -⟩ := gsame (i := i) hf
    exact (ha i hi_).congr ⟨e1, e2, e3, e4⟩ (Int.le_refl _) (fun _ _ => rfl)
  · by_cases z : i = it'
    · subst z
      refine ⟨?_, fun j a b x => t7 j a x.more⟩
      unfold okC
      rw [h4, h5, t4]
      by_cases p : (opp hi).toInt = 0
      · rw [if_pos p]
        refine ⟨by omega, by omega, by omega, h6, fun j a b => ⟨t5 p j a (by omega), fun q => ?_⟩⟩
        obtain ⟨e1, e2, e3, e4, e5⟩ := gsame (i := j) hf
        rw [e1] at q
        rw [(e5 (by omega)).2]
        exact (hc j (by omega) q (t7 j a)).1.2.2.1
      · rw [if_neg p]
        obtain ⟨r1, r2, r3⟩ := t6 p
        refine ⟨r1, r2, by omega, h6, fun j a b => ?_⟩
        obtain ⟨s1, s2, s3⟩ := r3 j a b
        obtain ⟨e1, e2, e3, e4, e5⟩ := gsame (i := j) hf
        rw [e1, (e5 (by omega)).2]
        exact ⟨s1, s3⟩
    · obtain ⟨e1, e2, e3, e4, e5⟩ := gsame (i := i) hf
      rw [e1] at h2
      obtain ⟨q1, q2⟩ := hc i hi_ h2 (fun x => h3 (x.less (by omega)))
      rw [(e5 z).1]
      refine ⟨?_, fun j a b x => q2 j a b x.more⟩
      obtain ⟨p1, p2, p3, p4, p5⟩ := q1
      unfold okC
      rw [(e5 z).1, (e5 z).2]
      refine ⟨p1, p2, p3, p4, fun j a b => ?_⟩
      obtain ⟨d1, d2, d3, d4, d5⟩ := gsame (i := j) hf
      have hj : j ≠ it' := fun e => q2 j a b (e ▸ hopn)
      rw [d1, (d5 hj).2]
      exact p5 j a b
  · obtain ⟨i, o1, o2, o3, o4, o5, o6⟩ := ho j (by omega)
    have hlt := hd j hi hj (by omega)
    have hne : i ≠ it' := by omega
    obtain ⟨e1, e2, e3, e4, e5⟩ := gsame (i := i) hf
    refine ⟨i, o1, o2, by omega, o4, o5, fun p => ?_⟩
    obtain ⟨r1, r2, r3⟩ := o6 p
    rw [(e5 hne).1]
    refine ⟨r1, r2, fun i' a b => ?_⟩
    obtain ⟨s1, s2, s3⟩ := r3 i' a b
    obtain ⟨d1, d2, d3, d4, d5⟩ := gsame (i := i') hf
    have hj : i' ≠ it' := fun e => s2 (e ▸ hopn)
    rw [d1, (d5 hj).2]
    exact ⟨s1, fun x => s2 x.more, s3⟩
theorem RIN.els (h : RIN n (hi + 1) sM f g opn opp dp) {it : Nat} (ht : (opn hi).toInt = 240 + 8 * (it : Int)) (hp : (opp hi).toInt = 0) (hf : ∀ k : Nat, k ≠ 8 * it + 4 → k ≠ 8 * it + 5 → f2 k = f k) (h4 : tmd f2 it = n) (h5 : ten f2 it = n) {w : Int32} (hw : w.toInt ≠ 0) : RIN n (hi + 1) sM f2 g opn (upd opp hi w) dp := by
  obtain ⟨it', t1, t2, t3, t4, t5, t6, t7⟩ := h.top
  have : it' = it := by omega
  subst this
  obtain ⟨ha, hc, ho, hd⟩ := h
  have hopn : OPNd (hi + 1) opn it' := ⟨hi, by omega, t1⟩
  refine ⟨fun i hi_ => ?_, fun i hi_ h2 h3 => ?_, fun j hj => ?_, hd⟩
  · obtain ⟨e1, e2, e3, e4, -⟩ := gsame (i := i) hf
    exact (ha i hi_).congr ⟨e1, e2, e3, e4⟩ (Int.le_refl _) (fun _ _ => rfl)
  · have z : i ≠ it' := fun e => h3 (e ▸ hopn)
    obtain ⟨e1, e2, e3, e4, e5⟩ := gsame (i := i) hf
    rw [e1] at h2
    obtain ⟨q1, q2⟩ := hc i hi_ h2 h3
    rw [(e5 z).1]
    refine ⟨?_, q2⟩
    obtain ⟨p1, p2, p3, p4, p5⟩ := q1
    unfold okC
    rw [(e5 z).1, (e5 z).2]
    refine ⟨p1, p2, p3, p4, fun j a b => ?_⟩
    obtain ⟨d1, d2, d3, d4, d5⟩ := gsame (i := j) hf
    have hj : j ≠ it' := fun e => q2 j a b (e ▸ hopn)
    rw [d1, (d5 hj).2]
    exact p5 j a b
  · by_cases z : j = hi
    · subst z
      rw [upd_eq]
      obtain ⟨e1, -⟩ := gsame (i := it') hf
      refine ⟨it', t1, t2, by omega, t4, fun p => absurd p hw, fun _ => ?_⟩
      rw [h4]
      refine ⟨by omega, by omega, fun i' a b => ⟨t5 hp i' a (by omega), t7 i' a, fun q => ?_⟩⟩
      obtain ⟨d1, d2, d3, d4, d5⟩ := gsame (i := i') hf
      rw [d1] at q
      rw [(d5 (by omega)).2]
      exact (hc i' (by omega) q (t7 i' a)).1.2.2.1
    · obtain ⟨i, o1, o2, o3, o4, o5, o6⟩ := ho j hj
      have hlt := hd j hi (by omega) (by omega)
      have hne : i ≠ it' := by omega
      obtain ⟨e1, e2, e3, e4, e5⟩ := gsame (i := i) hf
      rw [upd_ne _ _ z]
      refine ⟨i, o1, o2, by omega, o4, o5, fun p => ?_⟩
      obtain ⟨r1, r2, r3⟩ := o6 p
      rw [(e5 hne).1]
      refine ⟨r1, r2, fun i' a b => ?_⟩
      obtain ⟨s1, s2, s3⟩ := r3 i' a b
      obtain ⟨d1, d2, d3, d4, d5⟩ := gsame (i := i') hf
      have hj : i' ≠ it' := fun e => s2 (e ▸ hopn)
      rw [d1, (d5 hj).2]
      exact ⟨s1, s2, s3⟩
theorem RIN.fin {mn : Int32} (h : RIN mn.toNatClampNeg 0 sM f g opn opp dp) (h0 : 0 ≤ mn.toInt) (h30 : mn.toInt ≤ 30) (hs : sM ≤ 300) : okT mn f g := by
  have c := clampI h0
  refine ⟨h0, h30, dp, fun i hi => ⟨?_, fun h2 => ?_⟩⟩
  · exact (h.1 i (by omega)).congr ⟨rfl, rfl, rfl, rfl⟩ hs (fun _ _ => rfl)
  · have := (h.2.1 i (by omega) h2 (fun ⟨j, x, _⟩ => absurd x (Nat.not_lt_zero _))).1
    rw [c] at this; exact this
theorem okT.congr {mn : Int32} (h : okT mn f g) (hf : ∀ k : Nat, k < 240 → f2 k = f k) (hg : ∀ k : Nat, k < 300 → g2 k = g k) : okT mn f2 g2 := by
  obtain ⟨h0, h30, dp, hp⟩ := h
  have hf' : ∀ k : Nat, k < 8 * 30 → f2 k = f k := fun k hk => hf k (by omega)
  refine ⟨h0, h30, dp, fun i hi => ?_⟩
  obtain ⟨p1, p2⟩ := hp i hi
  obtain ⟨e1, e2, e3, e4, e5, e6⟩ := fsame hf' (show i < 30 by omega)
  refine ⟨p1.congr ⟨e1, e2, e3, e4⟩ (Int.le_refl _) (fun k hk => hg k (by omega)), fun h2 => ?_⟩
  rw [e1] at h2
  refine (p2 h2).congr (Int.le_refl _) (fun j a b => ?_)
  obtain ⟨d1, d2, d3, d4, d5, d6⟩ := fsame hf' (show j < 30 by omega)
  exact ⟨d1, d5, d6, rfl⟩
end RD
/-! a statement is begun, its sum read -/
def BEG (d k v : Int32) (st : Nat → Int32) (a d1 : Int32) (st1 : Nat → Int32) : Prop :=
  a = 240 + 8 * d ∧ d1 = d + 1 ∧ (∀ j : Nat, j < 240 + 8 * d.toNatClampNeg → st1 j = st j) ∧ st1 (240 + 8 * d.toNatClampNeg) = k ∧ st1 (240 + 8 * d.toNatClampNeg + 1) = v
def SUMd (a S0 : Int32) (st sm : Nat → Int32) (flt sM : Int32) (st2 sm2 : Nat → Int32) : Prop :=
  S0.toInt ≤ sM.toInt ∧ (∀ k : Nat, k < 300 + S0.toNatClampNeg → sm2 k = sm k) ∧ ∃ v, st2 = upd (upd st (a + 2).toNatClampNeg S0) (a + 3).toNatClampNeg v ∧ (0 ≤ flt.toInt ∨ (v = sM - S0 ∧ okc sm2 (300 + S0.toNatClampNeg) (sM.toNatClampNeg - S0.toNatClampNeg) 1))
section RE
variable {d k v a d1 S0 flt sM : Int32} {st st1 st2 sm sm2 : Nat → Int32}
theorem atIx (h0 : 0 ≤ d.toInt) (h1 : d.toInt < 30) : (240 + 8 * d).toNatClampNeg = 240 + 8 * d.toNatClampNeg ∧ (240 + 8 * d).toInt = 240 + 8 * d.toInt := by
  have e : (240 + 8 * d).toInt = 240 + 8 * d.toInt := by simp only [Int32.toInt_mul, Int32.toInt_add, Int32.reduceToInt, Int.bmod]; omega
  have c := clampI h0
  have c2 := clampI (i := 240 + 8 * d) (by omega)
  exact ⟨by omega, e⟩
theorem atIxc (h0 : 0 ≤ d.toInt) (h1 : d.toInt < 30) (c : Int32) (c0 : 0 ≤ c.toInt) (c8 : c.toInt < 8) : (240 + 8 * d + c).toNatClampNeg = 240 + 8 * d.toNatClampNeg + c.toNatClampNeg := by
  have e : (240 + 8 * d + c).toInt = 240 + 8 * d.toInt + c.toInt := by simp only [Int32.toInt_mul, Int32.toInt_add, Int32.reduceToInt, Int.bmod]; omega
  have q := clampI h0
  have q1 := clampI c0
  have q2 := clampI (i := 240 + 8 * d + c) (by omega)
  omega
theorem BEG.mk (h0 : 0 ≤ d.toInt) (h1 : d.toInt < 30) : BEG d k v st (240 + 8 * d) (d + 1) (upd (upd (upd (upd (upd st (240 + 8 * d).toNatClampNeg k) (240 + 8 * d + 1).toNatClampNeg v) (240 + 8 * d + 3).toNatClampNeg 0) (240 + 8 * d + 4).toNatClampNeg 0) (240 + 8 * d + 5).toNatClampNeg 0) := by
  rw [(atIx h0 h1).1, atIxc h0 h1 1 (by decide) (by decide), atIxc h0 h1 3 (by decide) (by decide), atIxc h0 h1 4 (by decide) (by decide), atIxc h0 h1 5 (by decide) (by decide)]
  have e1 : (1 : Int32).toNatClampNeg = 1 := by decide
  have e3 : (3 : Int32).toNatClampNeg = 3 := by decide
  have e4 : (4 : Int32).toNatClampNeg = 4 := by decide
  have e5 : (5 : Int32).toNatClampNeg = 5 := by decide
  rw [e1, e3, e4, e5]
  refine ⟨rfl, rfl, fun j hj => ?_, ?_, ?_⟩
  · rw [upd_ne _ _ (by omega), upd_ne _ _ (by omega), upd_ne _ _ (by omega), upd_ne _ _ (by omega), upd_ne _ _ (by omega)]
  · rw [upd_ne _ _ (by omega), upd_ne _ _ (by omega), upd_ne _ _ (by omega), upd_ne _ _ (by omega), upd_eq]
  · rw [upd_ne _ _ (by omega), upd_ne _ _ (by omega), upd_ne _ _ (by omega), upd_eq]
/-- the sum of the statement that was begun -/
theorem SUMd.frame (hB : BEG d k v st a d1 st1) (hS : SUMd a S0 st1 sm flt sM st2 sm2) (h0 : 0 ≤ d.toInt) (h1 : d.toInt < 30) :
    (∀ j : Nat, j < 240 + 8 * d.toNatClampNeg → st2 j = st j) ∧ st2 (240 + 8 * d.toNatClampNeg) = k ∧ st2 (240 + 8 * d.toNatClampNeg + 1) = v := by
  obtain ⟨rfl, -, b1, b2, b3⟩ := hB
  obtain ⟨-, -, w, rfl, -⟩ := hS
  rw [atIxc h0 h1 2 (by decide) (by decide), atIxc h0 h1 3 (by decide) (by decide)]
  have e2 : (2 : Int32).toNatClampNeg = 2 := by decide
  have e3 : (3 : Int32).toNatClampNeg = 3 := by decide
  rw [e2, e3]
  refine ⟨fun j hj => ?_, ?_, ?_⟩
  · rw [upd_ne _ _ (by omega), upd_ne _ _ (by omega)]; exact b1 j hj
  · rw [upd_ne _ _ (by omega), upd_ne _ _ (by omega)]; exact b2
  · rw [upd_ne _ _ (by omega), upd_ne _ _ (by omega)]; exact b3
theorem sumOkB (hB : BEG d k v st a d1 st1) (hS : SUMd a S0 st1 sm flt sM st2 sm2) (h0 : 0 ≤ d.toInt) (h1 : d.toInt < 30) (s0 : 0 ≤ S0.toInt) (s3 : sM.toInt ≤ 300) (hf : flt.toInt < 0)
    (k3 : 0 ≤ k.toInt ∧ k.toInt < 3) (v5 : k.toInt = 0 → 0 ≤ v.toInt ∧ v.toInt ≤ 5) : okB sM.toInt (fun j => st2 (240 + j)) (fun j => sm2 (300 + j)) d.toNatClampNeg := by
  obtain ⟨f1, f2, f3⟩ := hS.frame hB h0 h1
  obtain ⟨rfl, -, b1, b2, b3⟩ := hB
  obtain ⟨g1, g2, w, g3, g4⟩ := hS
  obtain ⟨rfl, g5⟩ := g4.resolve_left (by omega)
  have e2 : st2 (240 + 8 * d.toNatClampNeg + 2) = S0 := by
    rw [g3, atIxc h0 h1 2 (by decide) (by decide), atIxc h0 h1 3 (by decide) (by decide)]
    show upd (upd st1 (240 + 8 * d.toNatClampNeg + 2) S0) (240 + 8 * d.toNatClampNeg + 3) _ (240 + 8 * d.toNatClampNeg + 2) = S0
    rw [upd_ne _ _ (by omega), upd_eq]
  have e3 : st2 (240 + 8 * d.toNatClampNeg + 3) = sM - S0 := by
    rw [g3, atIxc h0 h1 2 (by decide) (by decide), atIxc h0 h1 3 (by decide) (by decide)]
    show upd (upd st1 (240 + 8 * d.toNatClampNeg + 2) S0) (240 + 8 * d.toNatClampNeg + 3) (sM - S0) (240 + 8 * d.toNatClampNeg + 3) = sM - S0
    rw [upd_eq]
  have es : (sM - S0).toInt = sM.toInt - S0.toInt := by simp only [Int32.toInt_sub, Int.bmod]; omega
  have K0 : tkd (fun j => st2 (240 + j)) d.toNatClampNeg = k.toInt := by unfold tkd; rw [← f2]
  have K1 : tnm (fun j => st2 (240 + j)) d.toNatClampNeg = v.toInt := by unfold tnm; rw [← f3]; rfl
  have K2 : tfr (fun j => st2 (240 + j)) d.toNatClampNeg = S0.toInt := by unfold tfr; rw [← e2]; rfl
  have K3 : tlh (fun j => st2 (240 + j)) d.toNatClampNeg = sM.toInt - S0.toInt := by unfold tlh; rw [← es, ← e3]; rfl
  unfold okB
  rw [K0, K1, K2, K3]
  have c1 := clampI s0
  have c2 := clampI (i := sM) (by omega)
  refine ⟨by omega, v5, fun q => absurd q (by omega), fun _ => ⟨s0, by omega, by omega, ?_⟩⟩
  have := okc.congr (g := fun j => sm2 (300 + j)) (b := S0.toInt.toNat) (fun j _ => by
    show sm2 (300 + S0.toNatClampNeg + j) = sm2 (300 + (S0.toInt.toNat + j))
    rw [Nat.add_assoc]; rfl) g5
  exact this.cast (by omega)
theorem begOkB3 (hB : BEG d k v st a d1 st1) (k3 : k.toInt = 3) (v8 : 0 ≤ v.toInt ∧ v.toInt ≤ 8) {s : Int} {g : Nat → Int32} : okB s (fun j => st1 (240 + j)) g d.toNatClampNeg := by
  obtain ⟨rfl, -, b1, b2, b3⟩ := hB
  have K0 : tkd (fun j => st1 (240 + j)) d.toNatClampNeg = k.toInt := by unfold tkd; rw [← b2]
  have K1 : tnm (fun j => st1 (240 + j)) d.toNatClampNeg = v.toInt := by unfold tnm; rw [← b3]; rfl
  unfold okB
  rw [K0, K1]
  exact ⟨by omega, fun q => absurd q (by omega), fun _ => v8, fun q => absurd k3 q⟩
/-- what is kept of the tables that were there -/
def FRm (st0 sm0 st sm : Nat → Int32) : Prop := (∀ j : Nat, j < 240 → st j = st0 j) ∧ (∀ j : Nat, j < 300 → sm j = sm0 j)
def RD1 (dr hi sM flt : Int32) (st sm opn opp : Nat → Int32) : Prop :=
  0 ≤ flt.toInt ∨ ∃ dp, RIN dr.toNatClampNeg hi.toNatClampNeg sM.toInt (fun j => st (240 + j)) (fun j => sm (300 + j)) opn opp dp
def RD9 (dr hi sM flt a : Int32) (st sm opn opp : Nat → Int32) : Prop :=
  0 ≤ flt.toInt ∨ ∃ (n : Nat) (s0 : Int) (f0 g0 : Nat → Int32) (dp : Nat → Nat), dr.toNatClampNeg = n + 1 ∧ RIN n hi.toNatClampNeg s0 f0 g0 opn opp dp ∧ (∀ j : Nat, j < 8 * n → st (240 + j) = f0 j) ∧ (∀ j : Nat, (j : Int) < s0 → sm (300 + j) = g0 j) ∧ s0 ≤ sM.toInt ∧ okB sM.toInt (fun j => st (240 + j)) (fun j => sm (300 + j)) n ∧ 2 ≤ tkd (fun j => st (240 + j)) n ∧ a.toInt = 240 + 8 * (n : Int)
variable {hi S1 flt0 flt1 : Int32} {st0 sm0 opn opp : Nat → Int32}
theorem FRm.beg (h : FRm st0 sm0 st sm) (hB : BEG d k v st a d1 st1) : FRm st0 sm0 st1 sm :=
  ⟨fun j hj => (hB.2.2.1 j (by omega)).trans (h.1 j hj), h.2⟩
theorem FRm.sum (h : FRm st0 sm0 st sm) (hB : BEG d k v st a d1 st1) (hS : SUMd a S0 st1 sm flt sM st2 sm2) (h0 : 0 ≤ d.toInt) (h1 : d.toInt < 30) : FRm st0 sm0 st2 sm2 :=
  ⟨fun j hj => ((hS.frame hB h0 h1).1 j (by omega)).trans (h.1 j hj), fun j hj => (hS.2.1 j (by omega)).trans (h.2 j hj)⟩
theorem d1N (hB : BEG d k v st a d1 st1) (h0 : 0 ≤ d.toInt) (h1 : d.toInt < 30) : d1.toNatClampNeg = d.toNatClampNeg + 1 ∧ d1.toInt = d.toInt + 1 := by
  obtain ⟨-, rfl, -⟩ := hB
  exact ⟨clampS h0 (by omega), by simp only [Int32.toInt_add, Int32.reduceToInt, Int.bmod]; omega⟩
/-- an assignment or an out is told -/
theorem RD1.stmt (h : RD1 d hi S0 flt0 st sm opn opp) (hB : BEG d k v st a d1 st1) (hS : SUMd a S0 st1 sm flt sM st2 sm2) (h0 : 0 ≤ d.toInt) (h1 : d.toInt < 30) (s0 : 0 ≤ S0.toInt) (s3 : sM.toInt ≤ 300) (hf0 : flt0.toInt < 0)
    (k1 : 0 ≤ k.toInt ∧ k.toInt ≤ 1) (v5 : k.toInt = 0 → 0 ≤ v.toInt ∧ v.toInt ≤ 5) : RD1 d1 hi sM flt st2 sm2 opn opp := by
  rcases Int.lt_or_le flt.toInt 0 with q | q
  · obtain ⟨dp, hR⟩ := h.resolve_left (by omega)
    obtain ⟨f1, f2, f3⟩ := hS.frame hB h0 h1
    have c := clampI s0
    refine Or.inr ⟨fun k => if k = d.toNatClampNeg then hi.toNatClampNeg else dp k, ?_⟩
    rw [(d1N hB h0 h1).1]
    refine hR.app (fun j hj => f1 (240 + j) (by omega)) (fun j hj => hS.2.1 (300 + j) (by omega)) hS.1 (sumOkB hB hS h0 h1 s0 s3 q (by omega) v5) ?_
    have K0 : tkd (fun j => st2 (240 + j)) d.toNatClampNeg = k.toInt := by unfold tkd; rw [← f2]
    omega
  · exact Or.inl q
theorem RD9.ask (h : RD1 d hi S0 flt0 st sm opn opp) (hB : BEG d k v st a d1 st1) (hS : SUMd a S0 st1 sm flt sM st2 sm2) (h0 : 0 ≤ d.toInt) (h1 : d.toInt < 30) (s0 : 0 ≤ S0.toInt) (s3 : sM.toInt ≤ 300) (hf0 : flt0.toInt < 0) (k2 : k.toInt = 2) : RD9 d1 hi sM flt a st2 sm2 opn opp := by
  rcases Int.lt_or_le flt.toInt 0 with q | q
  · obtain ⟨dp, hR⟩ := h.resolve_left (by omega)
    obtain ⟨f1, f2, f3⟩ := hS.frame hB h0 h1
    have c := clampI s0
    have cd := clampI h0
    have K0 : tkd (fun j => st2 (240 + j)) d.toNatClampNeg = k.toInt := by unfold tkd; rw [← f2]
    refine Or.inr ⟨d.toNatClampNeg, S0.toInt, _, _, dp, (d1N hB h0 h1).1, hR, fun j hj => f1 (240 + j) (by omega), fun j hj => hS.2.1 (300 + j) (by omega), hS.1, sumOkB hB hS h0 h1 s0 s3 q (by omega) (fun z => absurd z (by omega)), by omega, ?_⟩
    rw [hB.1, (atIx h0 h1).2]; omega
  · exact Or.inl q
theorem RD9.lop (h : RD1 d hi S0 flt0 st sm opn opp) (hB : BEG d k v st a d1 st1) (h0 : 0 ≤ d.toInt) (h1 : d.toInt < 30) (k3 : k.toInt = 3) (hv : 0 ≤ flt.toInt ∨ (flt0.toInt < 0 ∧ 0 ≤ v.toInt ∧ v.toInt ≤ 8)) : RD9 d1 hi S0 flt a st1 sm opn opp := by
  rcases hv with q | ⟨q, v8⟩
  · exact Or.inl q
  · obtain ⟨dp, hR⟩ := h.resolve_left (by omega)
    have cd := clampI h0
    have K0 : tkd (fun j => st1 (240 + j)) d.toNatClampNeg = k.toInt := by unfold tkd; rw [← hB.2.2.2.1]
    refine Or.inr ⟨d.toNatClampNeg, S0.toInt, _, _, dp, (d1N hB h0 h1).1, hR, fun j hj => hB.2.2.1 (240 + j) (by omega), fun j hj => rfl, Int.le_refl _, begOkB3 hB k3 v8, by omega, ?_⟩
    rw [hB.1, (atIx h0 h1).2]; omega
theorem RD9.push (h : RD9 d hi sM flt a st sm opn opp) (hf : flt.toInt < 0) (h0 : 0 ≤ hi.toInt) (h6 : hi.toInt < 6) : RD1 d (hi + 1) sM flt st sm (upd opn hi.toNatClampNeg a) (upd opp hi.toNatClampNeg 0) := by
  obtain ⟨n, s0, f0, g0, dp, e, hR, f1, f2, f3, f4, f5, f6⟩ := h.resolve_left (by omega)
  refine Or.inr ⟨fun k => if k = n then hi.toNatClampNeg else dp k, ?_⟩
  rw [e, clampS h0 (by omega)]
  exact hR.push f1 f2 f3 f4 f5 f6 (by decide)
theorem BEG.aI (hB : BEG d k v st a d1 st1) (h0 : 0 ≤ d.toInt) (h1 : d.toInt < 30) : a.toInt = 240 + 8 * d.toInt ∧ d1.toInt = d.toInt + 1 := ⟨by rw [hB.1, (atIx h0 h1).2], (d1N hB h0 h1).2⟩
theorem RD1.fin (h : RD1 d hi sM flt st sm opn opp) (hf : flt.toInt < 0) (hi0 : hi.toInt ≤ 0) (h0 : 0 ≤ d.toInt) (h30 : d.toInt ≤ 30) (hs : sM.toInt ≤ 300) : okT d (fun j => st (240 + j)) (fun j => sm (300 + j)) := by
  obtain ⟨dp, hR⟩ := h.resolve_left (by omega)
  have e : hi.toNatClampNeg = 0 := by show hi.toInt.toNat = 0; omega
  rw [e] at hR
  exact hR.fin h0 h30 hs
theorem RD1.topA (h : RD1 d hi sM flt st sm opn opp) (hf : flt.toInt < 0) (h1 : 1 ≤ hi.toInt) (h0 : 0 ≤ d.toInt) (h30 : d.toInt ≤ 30) : 240 ≤ (opn (hi - 1).toNatClampNeg).toInt ∧ (opn (hi - 1).toNatClampNeg).toInt ≤ 472 := by
  obtain ⟨dp, hR⟩ := h.resolve_left (by omega)
  rw [← clampP h1] at hR
  obtain ⟨it, t1, t2, -⟩ := hR.top
  have c := clampI h0
  omega
theorem blkIx {x : Int32} {it : Nat} (hx : x.toInt = 240 + 8 * (it : Int)) (h30 : it < 30) : x.toNatClampNeg = 240 + 8 * it ∧ (x + 4).toNatClampNeg = 240 + (8 * it + 4) ∧ (x + 5).toNatClampNeg = 240 + (8 * it + 5) := by
  have e4 : (x + 4).toInt = x.toInt + 4 := by simp only [Int32.toInt_add, Int32.reduceToInt, Int.bmod]; omega
  have e5 : (x + 5).toInt = x.toInt + 5 := by simp only [Int32.toInt_add, Int32.reduceToInt, Int.bmod]; omega
  have c0 := clampI (i := x) (by omega)
  have c4 := clampI (i := x + 4) (by omega)
  have c5 := clampI (i := x + 5) (by omega)
  omega
theorem RD1.close (h : RD1 d hi sM flt st sm opn opp) (hf : flt.toInt < 0) (h1 : 1 ≤ hi.toInt) (h6 : hi.toInt ≤ 6) (h0 : 0 ≤ d.toInt) (h30 : d.toInt ≤ 30) {s : Int32} (hs : s = if opp (hi - 1).toNatClampNeg = 0 then d else st (opn (hi - 1).toNatClampNeg + 4).toNatClampNeg) :
    RD1 d (hi - 1) sM flt1 (upd (upd st (opn (hi - 1).toNatClampNeg + 4).toNatClampNeg s) (opn (hi - 1).toNatClampNeg + 5).toNatClampNeg d) sm opn opp := by
  obtain ⟨dp, hR⟩ := h.resolve_left (by omega)
  have ck := clampP h1
  have ch := clampI (i := hi) (by omega)
  rw [← ck] at hR
  obtain ⟨it, t1, t2, -⟩ := hR.top
  have c := clampI h0
  obtain ⟨i0, i4, i5⟩ := blkIx t1 (by omega)
  rw [i4, i5]
  refine Or.inr ⟨dp, hR.close t1 (by omega) (fun k a b => ?_) ?_ ?_⟩
  · show upd (upd st (240 + (8 * it + 4)) s) (240 + (8 * it + 5)) d (240 + k) = st (240 + k)
    rw [upd_ne _ _ (by omega), upd_ne _ _ (by omega)]
  · have e : tmd (fun j => upd (upd st (240 + (8 * it + 4)) s) (240 + (8 * it + 5)) d (240 + j)) it = s.toInt := by
      unfold tmd; dsimp only; rw [upd_ne _ _ (by omega), upd_eq]
    rw [e, hs, i4]
    by_cases z : opp (hi - 1).toNatClampNeg = 0
    · rw [if_pos z, if_pos (by rw [z]; rfl)]; omega
    · rw [if_neg z, if_neg (show ¬ (opp (hi - 1).toNatClampNeg).toInt = 0 from fun q => z (Int32.toInt_inj.mp q))]; rfl
  · unfold ten; dsimp only; rw [upd_eq]; omega
theorem RD1.els (h : RD1 d hi sM flt st sm opn opp) (hf : flt.toInt < 0) (h1 : 1 ≤ hi.toInt) (h0 : 0 ≤ d.toInt) (h30 : d.toInt ≤ 30) (hp : (opp (hi - 1).toNatClampNeg).toInt = 0) :
    RD1 d hi sM flt1 (upd (upd st (opn (hi - 1).toNatClampNeg + 4).toNatClampNeg d) (opn (hi - 1).toNatClampNeg + 5).toNatClampNeg d) sm opn (upd opp (hi - 1).toNatClampNeg 1) := by
  obtain ⟨dp, hR⟩ := h.resolve_left (by omega)
  have ck := clampP h1
  rw [← ck] at hR
  obtain ⟨it, t1, t2, -⟩ := hR.top
  have c := clampI h0
  obtain ⟨i0, i4, i5⟩ := blkIx t1 (by omega)
  rw [i4, i5]
  refine Or.inr ⟨dp, ?_⟩
  rw [← ck]
  refine hR.els t1 hp (fun k a b => ?_) ?_ ?_ (by decide)
  · show upd (upd st (240 + (8 * it + 4)) d) (240 + (8 * it + 5)) d (240 + k) = st (240 + k)
    rw [upd_ne _ _ (by omega), upd_ne _ _ (by omega)]
  · unfold tmd; dsimp only; rw [upd_ne _ _ (by omega), upd_eq]; omega
  · unfold ten; dsimp only; rw [upd_eq]; omega
theorem FRm.up (h : FRm st0 sm0 st sm) {x y s w : Int32} (hx : 240 ≤ x.toInt) (hy : 240 ≤ y.toInt) : FRm st0 sm0 (upd (upd st x.toNatClampNeg s) y.toNatClampNeg w) sm := by
  have c1 := clampI (i := x) (by omega)
  have c2 := clampI (i := y) (by omega)
  exact ⟨fun j hj => by rw [upd_ne _ _ (by omega), upd_ne _ _ (by omega)]; exact h.1 j hj, h.2⟩
/-- the copying -/
def CP1 (l : Int32) (st : Nat → Int32) : Prop := ∀ j : Nat, (j : Int) < l.toInt → st j = st (240 + j)
def CP2 (l : Int32) (sm : Nat → Int32) : Prop := ∀ j : Nat, (j : Int) < l.toInt → sm j = sm (300 + j)
theorem CP1.go {l : Int32} (h : CP1 l st) (h0 : 0 ≤ l.toInt) (h1 : l.toInt < 240) : CP1 (l + 1) (upd st l.toNatClampNeg (st (240 + l).toNatClampNeg)) ∧ ∀ j : Nat, upd st l.toNatClampNeg (st (240 + l).toNatClampNeg) (240 + j) = st (240 + j) := by
  have e : (l + 1).toInt = l.toInt + 1 := by simp only [Int32.toInt_add, Int32.reduceToInt, Int.bmod]; omega
  have e2 : (240 + l).toInt = 240 + l.toInt := by simp only [Int32.toInt_add, Int32.reduceToInt, Int.bmod]; omega
  have c := clampI h0
  have c2 := clampI (i := 240 + l) (by omega)
  have up : ∀ j : Nat, upd st l.toNatClampNeg (st (240 + l).toNatClampNeg) (240 + j) = st (240 + j) := fun j => upd_ne _ _ (by omega)
  refine ⟨fun j hj => ?_, up⟩
  rw [up]
  by_cases z : j = l.toNatClampNeg
  · subst z; rw [upd_eq, show (240 + l).toNatClampNeg = 240 + l.toNatClampNeg by omega]
  · rw [upd_ne _ _ z]; exact h j (by omega)
theorem CP2.go {l : Int32} (h : CP2 l st) (h0 : 0 ≤ l.toInt) (h1 : l.toInt < 300) : CP2 (l + 1) (upd st l.toNatClampNeg (st (300 + l).toNatClampNeg)) ∧ ∀ j : Nat, upd st l.toNatClampNeg (st (300 + l).toNatClampNeg) (300 + j) = st (300 + j) := by
  have e : (l + 1).toInt = l.toInt + 1 := by simp only [Int32.toInt_add, Int32.reduceToInt, Int.bmod]; omega
  have e2 : (300 + l).toInt = 300 + l.toInt := by simp only [Int32.toInt_add, Int32.reduceToInt, Int.bmod]; omega
  have c := clampI h0
  have c2 := clampI (i := 300 + l) (by omega)
  have up : ∀ j : Nat, upd st l.toNatClampNeg (st (300 + l).toNatClampNeg) (300 + j) = st (300 + j) := fun j => upd_ne _ _ (by omega)
  refine ⟨fun j hj => ?_, up⟩
  rw [up]
  by_cases z : j = l.toNatClampNeg
  · subst z; rw [upd_eq, show (300 + l).toNatClampNeg = 300 + l.toNatClampNeg by omega]
  · rw [upd_ne _ _ z]; exact h j (by omega)
/-- the table that is to come, in the upper halves -/
def UP (d : Int32) (st sm : Nat → Int32) : Prop := okT d (fun j => st (240 + j)) (fun j => sm (300 + j))
theorem UP.ofS (h : UP d st sm) (e : ∀ j : Nat, st2 (240 + j) = st (240 + j)) : UP d st2 sm := by
  unfold UP at h ⊢; exact okT.congr h (fun k _ => e k) (fun _ _ => rfl)
theorem UP.ofM (h : UP d st sm) (e : ∀ j : Nat, sm2 (300 + j) = sm (300 + j)) : UP d st sm2 := by
  unfold UP at h ⊢; exact okT.congr h (fun _ _ => rfl) (fun k _ => e k)
theorem UP.fin (h : UP d st sm) {l m : Int32} (h1 : CP1 l st) (h2 : CP2 m sm) (l2 : 240 ≤ l.toInt) (m2 : 300 ≤ m.toInt) : okT d st sm := by
  unfold UP at h; exact okT.congr h (fun k hk => h1 k (by omega)) (fun k hk => h2 k (by omega))
end RE
set_option maxHeartbeats 400000 in
set_option maxRecDepth 100000 in
theorem T_m_begins (K : Nat) (hK : 1000000000 ≤ K) (l1_ : Int32) (l2_ : Int32) (idrafts_ : Int32) (astm_ : Nat → Int32) (hpre : 0 ≤ idrafts_.toInt ∧ idrafts_.toInt < 30) : Tot (F_m_begins K l1_ l2_ idrafts_ astm_) (fun r => BEG idrafts_ l1_ l2_ astm_ r.1 r.2.1 r.2.2) := by
  unfold F_m_begins
  obtain ⟨n, hn⟩ : ∃ n9, K = n9 + 8 := ⟨K - 8, by omega⟩
  have hn2 : 999999000 ≤ n := by omega
  suffices hs : Tot (L_m_begins K (n + 8) 0 l1_ l2_ idrafts_ astm_) (fun r => BEG idrafts_ l1_ l2_ astm_ r.1 r.2.1 r.2.2) from by rw [← hn] at hs; exact hs
  rw [L_m_begins_e0]; unfold B_m_begins_0
  repeat' (first | with_reducible refine Tot.ret ?_ | with_reducible refine Tot.ix ?_ ?_ | with_reducible refine Tot.yesB (by decide) ?_ | with_reducible refine Tot.noB (by decide) ?_ | with_reducible refine Tot.yes ?_ ?_ | with_reducible refine Tot.br (fun _ => ?_) (fun _ => ?_) | (rw [L_m_begins_e0]; unfold B_m_begins_0; try simp only [subOne]))
  all_goals (first | exact BEG.mk hpre.1 hpre.2 | (first | exact True.intro | omega | (((try simp only [ne_eq, true_and, and_true, true_or, or_true, false_or, or_false, not_true_eq_false, not_false_eq_true, false_and, and_false, Int32.lt_iff_toInt_lt, Int32.le_iff_toInt_le, ← Int32.toInt_inj, Int32.toInt_add, Int32.toInt_sub, Int32.toInt_mul, Int32.reduceToInt, ge_iff_le, gt_iff_lt, upd_eq, upd_upd] at *) <;> (try simp (disch := omega) only [bmI] at *)) <;> (first | omega | ((try simp only [Int.bmod] at *) <;> omega) | (simp_all <;> fail)))))
