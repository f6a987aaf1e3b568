/-! the reference: what is seen, row by row; secrets put to their heaps -/
def owT (bs : List Bool) (g : Nat → Int32) : Nat → List Nat
  | 0 => []
  | c + 1 => owT bs g c ++ (if bs[c]? = some true then [(g c).toInt.toNat] else [])
theorem owT_4 {bs : List Bool} {g : Nat → Int32} (hg : vl3 g) : ∀ c : Nat, c ≤ 6 → (∀ x : Nat, x ∈ owT bs g c → x < 4) ∧ (owT bs g c).length ≤ c := by
  intro c
  induction c with
  | zero => intro _; exact ⟨fun x hx => (by cases hx), Nat.le_refl _⟩
  | succ c ih =>
    intro hc
    obtain ⟨a, b⟩ := ih (by omega)
    refine ⟨fun x hx => ?_, ?_⟩
    · unfold owT at hx
      rcases List.mem_append.mp hx with e | e
      · exact a x e
      · split at e
        · rw [List.mem_singleton.mp e]; exact (v3_nat (hg c (by omega))).2
        · cases e
    · unfold owT
      rw [List.length_append]
      split
      · simp only [List.length_cons, List.length_nil]; omega
      · simp only [List.length_nil]; omega
theorem owT_eq {bs : List Bool} {g h : Nat → Int32} (hg : vl3 g) (hh : vl3 h) : ∀ c : Nat, c ≤ 6 → (owT bs g c = owT bs h c ↔ ∀ j : Nat, j < c → bs[j]? = some true → g j = h j) := by
  intro c
  induction c with
  | zero => intro _; exact ⟨fun _ j hj => absurd hj (Nat.not_lt_zero _), fun _ => rfl⟩
  | succ c ih =>
    intro hc
    have ih := ih (by omega)
    unfold owT
    by_cases hb : bs[c]? = some true
    · rw [if_pos hb, if_pos hb]
      constructor
      · intro h9 j hj hbj
        obtain ⟨e1, e2⟩ := List.append_inj' h9 (by simp only [List.length_cons, List.length_nil])
        by_cases hjc : j = c
        · rw [hjc]
          have e3 : (g c).toInt.toNat = (h c).toInt.toNat := (List.cons.inj e2).1
          have g1 := (v3_nat (hg c (by omega))).1
          have g2 := (v3_nat (hh c (by omega))).1
          exact Int32.toInt_inj.mp (by omega)
        · exact ih.mp e1 j (by omega) hbj
      · intro h9
        rw [ih.mpr (fun j hj hbj => h9 j (by omega) hbj), h9 c (by omega) hb]
    · rw [if_neg hb, if_neg hb, List.append_nil, List.append_nil, ih]
      constructor
      · intro h9 j hj hbj
        by_cases hjc : j = c
        · rw [hjc] at hbj; exact absurd hbj hb
        · exact h9 j (by omega) hbj
      · intro h9 j hj hbj
        exact h9 j (by omega) hbj
theorem owT_cg {bs : List Bool} {g h : Nat → Int32} (e : ∀ c : Nat, c < 6 → g c = h c) : ∀ c : Nat, c ≤ 6 → owT bs g c = owT bs h c := by
  intro c
  induction c with
  | zero => intro _; rfl
  | succ c ih =>
    intro hc
    unfold owT
    rw [ih (by omega), e c (by omega)]
theorem Z_m4 {z : Int64} {n : Nat} {x : Int32} (hz : z.toBitVec.toNat = n) (hn : n < 2 ^ 60) (hx : v3 x) : (4 * z + x.toInt64).toBitVec.toNat = 4 * n + x.toInt.toNat := by
  obtain ⟨h1, h2⟩ := i64n x hx
  have e : (4 * z + x.toInt64).toBitVec = 4#64 * z.toBitVec + x.toInt64.toBitVec := rfl
  have e4 : (4#64).toNat = 4 := rfl
  rw [e, BitVec.toNat_add, BitVec.toNat_mul, hz, h1, e4]
  omega
theorem cmp_60 {z : Int64} {n : Nat} (hz : z.toBitVec.toNat = n) (hn : n < 2 ^ 60) : lg_cmp z (1152921504606846976 : Int64) < 0 := by
  rw [lg_cmp_lt, Int64.lt_iff_toInt_lt]
  have e : z.toInt = (n : Int) := by
    show z.toBitVec.toInt = _
    rw [BitVec.toInt_eq_toNat_of_lt (by omega), hz]
  have e2 : (1152921504606846976 : Int64).toInt = 1152921504606846976 := by decide
  rw [e, e2]
  have : (2 : Nat) ^ 60 = 1152921504606846976 := by decide
  omega
theorem E_m_sees (K : Nat) (hK : 1000000000 ≤ K) (w cm : Int32) (b : Nat) (hb : b + 2 < 6) (alev acel atap atpl : Nat → Int32) (asgt : Nat → Int64) (F : RSt) (hO : OkS F) (hV : OkO F) (hac : ∀ c : Nat, c < 6 → acel c = F.1 c) (hcm : cm.toInt = (F.2.2.length : Int)) (htp : TpR atap atpl F.2.2) : Par (F_m_sees K w (Int32.ofNat b) cm alev acel atap atpl asgt) (fun r => ∃ a0 a1 : Int64, r = vp_updL (vp_updL (vp_updL asgt b a0) (b + 1) a1) (b + 2) 1 ∧ a0.toBitVec.toNat = snN (owT (wiL alev w) F.1 6) ∧ a1.toBitVec.toNat = snN (vsL w F.2.2)) := by
  have hbI : (Int32.ofNat b).toInt = (b : Int) := ofn_i b (by omega)
  have tk : ∀ (k : Nat) (x : Int32 × Int32), k < 20 → F.2.2[k]? = some x → vsL w (F.2.2.take (k + 1)) = vsL w (F.2.2.take k) ++ (if wiP x.2 w then [x.1.toInt.toNat] else []) := by
    intro k x hk hx
    unfold vsL
    rw [List.take_take, List.take_take, Nat.min_eq_right (by omega), Nat.min_eq_right (by omega), List.take_succ, hx]
    show (List.filter _ (F.2.2.take k ++ [x])).map _ = _
    rw [List.filter_append, List.map_append]
    congr 1
    by_cases h : wiP x.2 w
    · rw [if_pos h, List.filter_cons_of_pos (by rw [decide_eq_true h])]; rfl
    · rw [if_neg h, List.filter_cons_of_neg (by rw [decide_eq_false h]; decide)]; rfl
  have sml : ∀ k : Nat, snN (vsL w (F.2.2.take k)) < 2 ^ 41 := fun k => snN_lt (vsL_4 (fun x hx => hV x (List.mem_of_mem_take hx))) vsL_len
  have three : ∀ (n k : Nat) (z0 z1 : Int64) (l9 l10 l11 s0 : Int32) (u0 : Int64), z0.toBitVec.toNat = snN (owT (wiL alev w) F.1 6) → l9.toInt = (if 20 ≤ cm.toInt then 20 else cm.toInt) → l10.toInt = (k : Int) → (k : Int) ≤ (if 20 ≤ cm.toInt then 20 else cm.toInt) → z1.toBitVec.toNat = snN (vsL w (F.2.2.take k)) → Par (L_m_sees K n 3 w (Int32.ofNat b) z0 z1 1 l9 l10 l11 s0 u0 cm alev acel atap atpl asgt) (fun r => ∃ a0 a1 : Int64, r = vp_updL (vp_updL (vp_updL asgt b a0) (b + 1) a1) (b + 2) 1 ∧ a0.toBitVec.toNat = snN (owT (wiL alev w) F.1 6) ∧ a1.toBitVec.toNat = snN (vsL w F.2.2)) := by
    intro n
    induction n using Nat.strongRecOn with
    | _ n ih =>
    intro k z0 z1 l9 l10 l11 s0 u0 h0 h9 h10 hk h1
    have hcn : (if 20 ≤ cm.toInt then (20 : Int) else cm.toInt) ≤ 20 ∧ (if 20 ≤ cm.toInt then (20 : Int) else cm.toInt) ≤ (F.2.2.length : Int) ∧ ((if 20 ≤ cm.toInt then (20 : Int) else cm.toInt) = 20 ∨ (if 20 ≤ cm.toInt then (20 : Int) else cm.toInt) = (F.2.2.length : Int)) := by
      split <;> omega
    generalize (if 20 ≤ cm.toInt then (20 : Int) else cm.toInt) = kp at h9 hk hcn ih
    cases n with
    | zero => exact Par.no
    | succ n =>
      rw [L_m_sees_e3]; unfold B_m_sees_3
      refine Par.br (fun h => ?_) (fun h => ?_)
      · rw [Int32.le_iff_toInt_le, h9, h10] at h
        have hall : vsL w (F.2.2.take k) = vsL w F.2.2 := by
          unfold vsL
          rw [List.take_take]
          rcases hcn.2.2 with e | e
          · have : k = 20 := by omega
            rw [this, Nat.min_self]
          · rw [List.take_of_length_le (i := min 20 k) (by omega), List.take_of_length_le (i := 20) (by omega)]
        refine Par.br (fun _ => ?_) (fun _ => Par.no)
        refine Par.br (fun _ => ?_) (fun _ => Par.no)
        refine Par.br (fun _ => Par.ret ⟨z0, z1, ?_, h0, by rw [← hall]; exact h1⟩) (fun _ => Par.no)
        rw [cl1 _ b hbI, adN _ 1 b 1 hbI (by decide) (by omega), adN _ 2 b 2 hbI (by decide) (by omega)]
      · rw [Int32.le_iff_toInt_le, h9, h10] at h
        have hkl : k < F.2.2.length := by omega
        have hx := List.getElem?_eq_getElem hkl
        generalize F.2.2[k] = x at hx
        obtain ⟨t1, t2⟩ := htp k x (by omega) hx
        have hxv := hV x (List.mem_of_getElem? hx)
        have htk := tk k x (by omega) hx
        have hs := sml k
        have seven : ∀ (q : Nat) (y : Int64) (l11 s0 : Int32) (u0 : Int64), q < n + 1 → y.toBitVec.toNat = snN (vsL w (F.2.2.take (k + 1))) → Par (L_m_sees K q 7 w (Int32.ofNat b) z0 y 1 l9 l10 l11 s0 u0 cm alev acel atap atpl asgt) (fun r => ∃ a0 a1 : Int64, r = vp_updL (vp_updL (vp_updL asgt b a0) (b + 1) a1) (b + 2) 1 ∧ a0.toBitVec.toNat = snN (owT (wiL alev w) F.1 6) ∧ a1.toBitVec.toNat = snN (vsL w F.2.2)) := by
          intro q y l11 s0 u0 hq hy
          cases q with
          | zero => exact Par.no
          | succ q =>
            rw [L_m_sees_e7]; unfold B_m_sees_7
            exact ih q (by omega) (k + 1) z0 y l9 (l10 + 1) _ _ _ h0 h9 (ad1 l10 k h10 (by omega)) (by omega) hy
        refine Par.br (fun _ => ?_) (fun _ => Par.no)
        rw [cl1 l10 k h10, t2]
        refine Par.bd (E_m_isWithin K hK x.2 w) (fun o ho => ?_)
        rcases ho with ⟨o1, o2⟩ | ⟨o1, o2⟩
        · refine Par.not (by rw [o1]; decide) (Par.yes (cmp_60 h1 (by omega)) ?_)
          cases n with
          | zero => exact Par.no
          | succ n =>
            rw [L_m_sees_e4]; unfold B_m_sees_4
            refine Par.yes rfl ?_
            cases n with
            | zero => exact Par.no
            | succ n =>
              rw [L_m_sees_e5]; unfold B_m_sees_5
              refine Par.yes rfl (Par.br (fun _ => ?_) (fun _ => Par.no))
              cases n with
              | zero => exact Par.no
              | succ n =>
                rw [L_m_sees_e6]; unfold B_m_sees_6
                refine seven n _ _ _ _ (by omega) ?_
                rw [cl1 l10 k h10, t1, htk, if_pos o2, snN_snoc]
                exact Z_m4 h1 (by omega) hxv
        · refine Par.yes o1 (seven n _ _ _ _ (by omega) ?_)
          rw [htk, if_neg o2, List.append_nil]
          exact h1
  have one : ∀ (n c : Nat) (z0 : Int64) (l9 l10 l11 s0 : Int32) (u0 : Int64), l9.toInt = (c : Int) → c ≤ 6 → z0.toBitVec.toNat = snN (owT (wiL alev w) F.1 c) → Par (L_m_sees K n 1 w (Int32.ofNat b) z0 1 1 l9 l10 l11 s0 u0 cm alev acel atap atpl asgt) (fun r => ∃ a0 a1 : Int64, r = vp_updL (vp_updL (vp_updL asgt b a0) (b + 1) a1) (b + 2) 1 ∧ a0.toBitVec.toNat = snN (owT (wiL alev w) F.1 6) ∧ a1.toBitVec.toNat = snN (vsL w F.2.2)) := by
    intro n
    induction n using Nat.strongRecOn with
    | _ n ih =>
    intro c z0 l9 l10 l11 s0 u0 h9 hc h0
    cases n with
    | zero => exact Par.no
    | succ n =>
      rw [L_m_sees_e1]; unfold B_m_sees_1
      refine Par.br (fun h => ?_) (fun h => ?_)
      · rw [Int32.le_iff_toInt_le, h9] at h
        simp only [Int32.reduceToInt] at h
        have : c = 6 := by omega
        rw [this] at h0
        refine Par.bd (E_m_least K hK cm) (fun o ho => ?_)
        refine three n 0 z0 1 o 0 _ _ _ h0 ho rfl ?_ rfl
        split <;> omega
      · rw [Int32.le_iff_toInt_le, h9] at h
        simp only [Int32.reduceToInt] at h
        have hc6 : c < 6 := by omega
        have hcv := hO.1 c hc6
        obtain ⟨w4, wl⟩ := owT_4 (bs := wiL alev w) hO.1 c (by omega)
        have hsm := snN_lt w4 (by omega)
        have hat := wiL_at alev w c hc6
        have two : ∀ (q : Nat) (y : Int64) (l10 l11 s0 : Int32), q < n + 1 → y.toBitVec.toNat = snN (owT (wiL alev w) F.1 (c + 1)) → Par (L_m_sees K q 2 w (Int32.ofNat b) z0 1 1 l9 l10 l11 s0 y cm alev acel atap atpl asgt) (fun r => ∃ a0 a1 : Int64, r = vp_updL (vp_updL (vp_updL asgt b a0) (b + 1) a1) (b + 2) 1 ∧ a0.toBitVec.toNat = snN (owT (wiL alev w) F.1 6) ∧ a1.toBitVec.toNat = snN (vsL w F.2.2)) := by
          intro q y l10 l11 s0 hq hy
          cases q with
          | zero => exact Par.no
          | succ q =>
            rw [L_m_sees_e2]; unfold B_m_sees_2
            exact ih q (by omega) (c + 1) y (l9 + 1) _ _ _ _ (ad1 l9 c h9 (by omega)) (by omega) hy
        refine Par.br (fun _ => ?_) (fun _ => Par.no)
        rw [cl1 l9 c h9]
        refine Par.bd (E_m_isWithin K hK (alev c) w) (fun o ho => ?_)
        rcases ho with ⟨o1, o2⟩ | ⟨o1, o2⟩
        · refine Par.not (by rw [o1]; decide) (Par.br (fun _ => two n _ _ _ _ (by omega) ?_) (fun _ => Par.no))
          unfold owT
          rw [hat, if_pos (by rw [decide_eq_true o2]), snN_snoc, hac c hc6]
          exact Z_m4 h0 (by omega) hcv
        · refine Par.yes o1 (two n _ _ _ _ (by omega) ?_)
          unfold owT
          rw [hat, if_neg (by rw [decide_eq_false o2]; decide), List.append_nil]
          exact h0
  unfold F_m_sees
  obtain ⟨n, hn⟩ : ∃ n9, K = n9 + 1 := ⟨K - 1, by omega⟩
  generalize hz : L_m_sees K K 0 w (Int32.ofNat b) 0 0 0 0 0 0 0 0 cm alev acel atap atpl asgt = z
  have hz2 : z = L_m_sees K (n + 1) 0 w (Int32.ofNat b) 0 0 0 0 0 0 0 0 cm alev acel atap atpl asgt := by rw [← hn, hz]
  rw [hz2, L_m_sees_e0]; unfold B_m_sees_0
  exact one n 0 1 0 _ _ _ _ rfl (Nat.zero_le _) rfl
/-! rows and chains -/
def RwE (sen : Nat → Int64) (a b : Nat) : Prop := ∀ k : Nat, k < 6 → sen (6 * a + k) = sen (6 * b + k)
theorem E_m_isLike (K : Nat) (hK : 1000000000 ≤ K) (l1 l2 : Int32) (a b : Nat) (sen : Nat → Int64) (h1 : l1.toInt = (a : Int)) (h2 : l2.toInt = (b : Int)) (ha : a < 4096) (hb : b < 4096) : Par (F_m_isLike K l1 l2 sen) (fun r => (r = 1 ∧ RwE sen a b) ∨ (r = 0 ∧ ¬ RwE sen a b)) := by
  have m6 : ∀ (x : Int32) (n k : Nat), x.toInt = (n : Int) → n < 4096 → k < 6 → ((6 * x) + Int32.ofNat k).toNatClampNeg = 6 * n + k := by
    intro x n k hx hn hk
    have h6 : (6 * x).toInt = ((6 * n : Nat) : Int) := by
      rw [Int32.toInt_mul, hx]
      simp only [Int32.reduceToInt]
      rw [bmI (by omega) (by omega)]; omega
    exact adN _ _ _ _ h6 (ofn_i k (by omega)) (by omega)
  have three : ∀ (n : Nat) (l3 l4 s0 : Int32) (Q : Int32 → Prop), Q l3 → Par (L_m_isLike K n 3 l1 l2 l3 l4 s0 sen) Q := by
    intro n l3 l4 s0 Q hQ
    cases n with
    | zero => exact Par.no
    | succ n =>
      rw [L_m_isLike_e3]; unfold B_m_isLike_3
      exact Par.br (fun _ => Par.ret hQ) (fun _ => Par.no)
  have key : ∀ (n k : Nat) (l3 l4 s0 : Int32), l4.toInt = (k : Int) → k ≤ 6 → ((l3 = 1 ∧ ∀ j : Nat, j < k → sen (6 * a + j) = sen (6 * b + j)) ∨ (l3 = 0 ∧ ¬ RwE sen a b)) → Par (L_m_isLike K n 1 l1 l2 l3 l4 s0 sen) (fun r => (r = 1 ∧ RwE sen a b) ∨ (r = 0 ∧ ¬ RwE sen a b)) := by
    intro n
    induction n using Nat.strongRecOn with
    | _ n ih =>
    intro k l3 l4 s0 h4 hk h3
    cases n with
    | zero => exact Par.no
    | succ n =>
      rw [L_m_isLike_e1]; unfold B_m_isLike_1
      refine Par.br (fun h => three n _ _ _ _ ?_) (fun h => ?_)
      · rw [Int32.le_iff_toInt_le, h4] at h
        simp only [Int32.reduceToInt] at h
        rcases h3 with ⟨e, h3⟩ | h3
        · exact Or.inl ⟨e, fun j hj => h3 j (by omega)⟩
        · exact Or.inr h3
      · rw [Int32.le_iff_toInt_le, h4] at h
        simp only [Int32.reduceToInt] at h
        have e4 : l4 = Int32.ofNat k := ofn_of l4 k (by omega) h4
        rcases h3 with ⟨e, h3⟩ | ⟨e, h3⟩
        · refine Par.not (by rw [e]; decide) ?_
          refine Par.br (fun _ => ?_) (fun _ => Par.no)
          refine Par.br (fun _ => ?_) (fun _ => Par.no)
          rw [e4, m6 l1 a k h1 ha (by omega), m6 l2 b k h2 hb (by omega), ← e4]
          have two : ∀ (q : Nat) (y : Int32), q < n + 1 → ((y = 1 ∧ ∀ j : Nat, j < k + 1 → sen (6 * a + j) = sen (6 * b + j)) ∨ (y = 0 ∧ ¬ RwE sen a b)) → Par (L_m_isLike K q 2 l1 l2 l3 l4 y sen) (fun r => (r = 1 ∧ RwE sen a b) ∨ (r = 0 ∧ ¬ RwE sen a b)) := by
            intro q y hq hy
            cases q with
            | zero => exact Par.no
            | succ q =>
              rw [L_m_isLike_e2]; unfold B_m_isLike_2
              exact ih q (by omega) (k + 1) y (l4 + 1) _ (ad1 l4 k h4 (by omega)) (by omega) hy
          refine Par.br (fun c => two n 1 (by omega) (Or.inl ⟨rfl, fun j hj => ?_⟩)) (fun c => two n 0 (by omega) (Or.inr ⟨rfl, fun h9 => c ?_⟩))
          · by_cases hjk : j = k
            · rw [hjk]; exact (lg_cmp_eq _ _).mp c
            · exact h3 j (by omega)
          · rw [lg_cmp_eq]; exact h9 k (by omega)
        · exact Par.br (fun _ => three n _ _ _ _ (Or.inr ⟨e, h3⟩)) (fun h9 => absurd e h9)
  unfold F_m_isLike
  obtain ⟨n, hn⟩ : ∃ n9, K = n9 + 1 := ⟨K - 1, by omega⟩
  generalize hz : L_m_isLike K K 0 l1 l2 0 0 0 sen = z
  have hz2 : z = L_m_isLike K (n + 1) 0 l1 l2 0 0 0 sen := by rw [← hn, hz]
  rw [hz2, L_m_isLike_e0]; unfold B_m_isLike_0
  exact key n 0 1 0 0 rfl (Nat.zero_le _) (Or.inl ⟨rfl, fun j hj => absurd hj (Nat.not_lt_zero _)⟩)
/-- a row's hash, and its bucket -/
def hsA (f : Nat → Int64) : Nat → Int64
  | 0 => 0
  | k + 1 => 1000003 * hsA f k + f k
def bktI (isec : Int32) (h : Int64) : Int32 := ((h ^^^ (h.toUInt64 >>> ((31 : Int32).toInt64.toUInt64 &&& Int64.toUInt64 63)).toInt64) &&& ((2 * isec.toInt64) - 1)).toInt32
theorem hsA_cg {f g : Nat → Int64} : ∀ k : Nat, (∀ j : Nat, j < k → f j = g j) → hsA f k = hsA g k := by
  intro k
  induction k with
  | zero => intro _; rfl
  | succ k ih =>
    intro h
    unfold hsA
    rw [ih (fun j hj => h j (by omega)), h k (by omega)]
def ChR (chn : Nat → Int32) : Int32 → List Nat → Prop
  | x, [] => x = -9
  | x, r :: L => x.toInt = (r : Int) ∧ ChR chn (chn r) L
theorem ChR_cg {c d : Nat → Int32} : ∀ (L : List Nat) (x : Int32), ChR c x L → (∀ r : Nat, r ∈ L → d r = c r) → ChR d x L := by
  intro L
  induction L with
  | nil => intro x h _; exact h
  | cons r L ih =>
    intro x h he
    refine ⟨h.1, ?_⟩
    rw [he r List.mem_cons_self]
    exact ih _ h.2 (fun q hq => he q (List.mem_cons_of_mem _ hq))
def rwH (sen : Nat → Int64) (a : Nat) : Int64 := hsA (fun k => sen (6 * a + k)) 6
theorem RwE_rf (sen : Nat → Int64) (a : Nat) : RwE sen a a := fun _ _ => rfl
theorem RwE_sy {sen : Nat → Int64} {a b : Nat} (h : RwE sen a b) : RwE sen b a := fun k hk => (h k hk).symm
theorem RwE_tr {sen : Nat → Int64} {a b c : Nat} (h : RwE sen a b) (h2 : RwE sen b c) : RwE sen a c := fun k hk => (h k hk).trans (h2 k hk)
theorem RwE_h {sen : Nat → Int64} {a b : Nat} (h : RwE sen a b) : rwH sen a = rwH sen b := hsA_cg 6 (fun k hk => h k hk)
/-- s secrets are put to their heaps -/
def TkI (isec : Int32) (s : Nat) (heaps : Int32) (sen : Nat → Int64) (hpo hpm bgn chn : Nat → Int32) : Prop :=
  (∀ j : Nat, j < s → ∃ r : Nat, r ≤ j ∧ (hpo j).toInt = (r : Int) ∧ RwE sen r j ∧ ∀ i : Nat, i < r → ¬ RwE sen i j) ∧
  heaps.toInt = (ndQ (RwE sen) s : Int) ∧
  (∀ r : Nat, r < s → (∀ i : Nat, i < r → ¬ RwE sen i r) → (hpm r).toInt = (cntQ (fun j => RwE sen r j) s : Int)) ∧
  ∃ L : Nat → List Nat, ∀ b : Nat, b < 2 * isec.toInt.toNat → ChR chn (bgn b) (L b) ∧ (∀ r : Nat, r ∈ L b → r < s ∧ (∀ i : Nat, i < r → ¬ RwE sen i r) ∧ (bktI isec (rwH sen r)).toInt = (b : Int)) ∧ ∀ r : Nat, r < s → (∀ i : Nat, i < r → ¬ RwE sen i r) → (bktI isec (rwH sen r)).toInt = (b : Int) → r ∈ L b
theorem least_rep {R : Nat → Nat → Prop} (hrf : ∀ a : Nat, R a a) : ∀ j : Nat, ∃ r : Nat, r ≤ j ∧ R r j ∧ ∀ i : Nat, i < r → ¬ R i j := by
  intro j
  have key : ∀ m : Nat, m ≤ j + 1 → (∀ i : Nat, i < m → ¬ R i j) ∨ ∃ r : Nat, r < m ∧ R r j ∧ ∀ i : Nat, i < r → ¬ R i j := by
    intro m
    induction m with
    | zero => intro _; exact Or.inl (fun i hi => absurd hi (Nat.not_lt_zero _))
    | succ m ih =>
      intro hm
      rcases ih (by omega) with h | ⟨r, h1, h2⟩
      · rcases Classical.em (R m j) with h9 | h9
        · exact Or.inr ⟨m, by omega, h9, h⟩
        · refine Or.inl (fun i hi => ?_)
          by_cases e : i = m
          · rw [e]; exact h9
          · exact h i (by omega)
      · exact Or.inr ⟨r, by omega, h2⟩
  rcases key (j + 1) (Nat.le_refl _) with h | ⟨r, h1, h2, h3⟩
  · exact absurd (hrf j) (h j (by omega))
  · exact ⟨r, by omega, h2, h3⟩
theorem bkt_b {isec : Int32} {n : Nat} (h : isec.toInt = (n : Int)) (h1 : 1 ≤ n) (h2 : n ≤ 4096) (x : Int64) : 0 ≤ (bktI isec x).toInt ∧ (bktI isec x).toInt < ((2 * n : Nat) : Int) := by
  unfold bktI
  generalize (x ^^^ (x.toUInt64 >>> ((31 : Int32).toInt64.toUInt64 &&& Int64.toUInt64 63)).toInt64) = y
  have e1 : isec.toInt64.toBitVec.toNat = n := by rw [i64s isec (by omega)]; omega
  have e2 : ((2 * isec.toInt64) - 1).toBitVec.toNat = 2 * n - 1 := by
    have e : ((2 * isec.toInt64) - 1).toBitVec = 2#64 * isec.toInt64.toBitVec - 1#64 := rfl
    have t2 : (2#64).toNat = 2 := rfl
    have t1 : (1#64).toNat = 1 := rfl
    rw [e, BitVec.toNat_sub, BitVec.toNat_mul, e1, t1, t2]
    omega
  have e3 : (y &&& ((2 * isec.toInt64) - 1)).toBitVec.toNat ≤ 2 * n - 1 := by
    have e : (y &&& ((2 * isec.toInt64) - 1)).toBitVec = y.toBitVec &&& ((2 * isec.toInt64) - 1).toBitVec := rfl
    rw [e, BitVec.toNat_and, e2]
    exact Nat.and_le_right
  generalize (y &&& ((2 * isec.toInt64) - 1)) = z at e3
  have e4 : z.toInt32.toBitVec.toNat = z.toBitVec.toNat := by
    have e : z.toInt32.toBitVec = z.toBitVec.signExtend 32 := rfl
    rw [e, BitVec.signExtend_eq_setWidth_of_le _ (by omega), BitVec.toNat_setWidth]
    omega
  have e5 : z.toInt32.toInt = (z.toInt32.toBitVec.toNat : Int) := by
    show z.toInt32.toBitVec.toInt = _
    exact BitVec.toInt_eq_toNat_of_lt (by omega)
  omega
abbrev R6t : Type := Int32 × (Nat → Int64) × (Nat → Int32) × (Nat → Int32) × (Nat → Int32) × (Nat → Int32)
theorem E_m_takes (K : Nat) (hK : 1000000000 ≤ K) (l1 isec heaps : Int32) (s n : Nat) (sen : Nat → Int64) (hpo hpm bgn chn : Nat → Int32) (sgt : Nat → Int64) (h1 : l1.toInt = (s : Int)) (hi : isec.toInt = (n : Int)) (hn1 : 1 ≤ n) (hn2 : n ≤ 4096) (hsn : s < n) (hT : TkI isec s heaps sen hpo hpm bgn chn) : Par (F_m_takes K l1 isec heaps sen hpo hpm bgn chn sgt) (fun r => TkI isec (s + 1) r.1 r.2.1 r.2.2.1 r.2.2.2.1 r.2.2.2.2.1 r.2.2.2.2.2 ∧ (∀ k : Nat, k < 6 → r.2.1 (6 * s + k) = sgt k) ∧ ∀ p : Nat, p < 6 * s → r.2.1 p = sen p) := by
  have hin : isec.toInt.toNat = n := by omega
  -- the row is laid; the rest is a search along the chain
  have rest : ∀ (q : Nat) (l4 : Int32) (sen2 : Nat → Int64), (∀ k : Nat, k < 6 → sen2 (6 * s + k) = sgt k) → (∀ p : Nat, p < 6 * s → sen2 p = sen p) → l4 = bktI isec (rwH sen2 s) → ∀ (j2 : Int64) (l5 : Int32), l5 = bgn l4.toNatClampNeg → Par (L_m_takes K q 2 l1 j2 l4 l5 isec heaps sen2 hpo hpm bgn chn sgt) (fun r => TkI isec (s + 1) r.1 r.2.1 r.2.2.1 r.2.2.2.1 r.2.2.2.2.1 r.2.2.2.2.2 ∧ (∀ k : Nat, k < 6 → r.2.1 (6 * s + k) = sgt k) ∧ ∀ p : Nat, p < 6 * s → r.2.1 p = sen p) := by
    intro q l4 sen2 hrow hlow h4 j2 l5 h5
    have hold : ∀ a b : Nat, a < s → b < s → (RwE sen2 a b ↔ RwE sen a b) := by
      intro a b ha hb
      unfold RwE
      constructor
      · intro h k hk
        have := h k hk
        rw [hlow _ (by omega), hlow _ (by omega)] at this
        exact this
      · intro h k hk
        rw [hlow _ (by omega), hlow _ (by omega)]
        exact h k hk
    have hhash : ∀ a : Nat, a < s → rwH sen2 a = rwH sen a := fun a ha => hsA_cg 6 (fun k hk => hlow _ (by omega))
    obtain ⟨t1, t2, t3, L, t4⟩ := hT
    obtain ⟨hb0, hb1⟩ := bkt_b hi hn1 hn2 (rwH sen2 s)
    rw [← h4] at hb0 hb1
    obtain ⟨b, hb⟩ : ∃ b : Nat, l4.toInt = (b : Int) := ⟨l4.toInt.toNat, by omega⟩
    have hb2 : b < 2 * n := by omega
    obtain ⟨c1, c2, c3⟩ := t4 b (by omega)
    have hfst : ∀ r : Nat, r < s → ((∀ i : Nat, i < r → ¬ RwE sen2 i r) ↔ (∀ i : Nat, i < r → ¬ RwE sen i r)) := by
      intro r hr
      constructor
      · intro h i hi9 h9; exact h i hi9 ((hold i r (by omega) hr).mpr h9)
      · intro h i hi9 h9; exact h i hi9 ((hold i r (by omega) hr).mp h9)
    have hnd : ndQ (RwE sen2) s = ndQ (RwE sen) s := cntQ_congr (fun k hk => hfst k hk)
    have hcnt : ∀ r : Nat, r < s → cntQ (fun j => RwE sen2 r j) s = cntQ (fun j => RwE sen r j) s := fun r hr => cntQ_congr (fun k hk => hold r k hr hk)
    have hndl : ndQ (RwE sen2) s ≤ s := cntQ_le _ _
    have hall : ∀ i : Nat, i < s → RwE sen2 i s → ∃ r : Nat, r ∈ L b ∧ RwE sen2 r s := by
      intro i hi9 hR
      obtain ⟨r, k1, k2, k3⟩ := least_rep (RwE_rf sen2) i
      refine ⟨r, c3 r (by omega) ((hfst r (by omega)).mp (fun j hj h9 => k3 j hj (RwE_tr h9 k2))) ?_, RwE_tr k2 hR⟩
      rw [← hhash r (by omega), RwE_h (RwE_tr k2 hR), ← h4]
      exact hb
    have lbl3 : ∀ (q : Nat) (j2 : Int64) (l5 : Int32), ((l5 = -9 ∧ ∀ i : Nat, i < s → ¬ RwE sen2 i s) ∨ ∃ r : Nat, l5.toInt = (r : Int) ∧ r < s ∧ RwE sen2 r s ∧ ∀ i : Nat, i < r → ¬ RwE sen2 i r) → Par (L_m_takes K q 3 l1 j2 l4 l5 isec heaps sen2 hpo hpm bgn chn sgt) (fun r => TkI isec (s + 1) r.1 r.2.1 r.2.2.1 r.2.2.2.1 r.2.2.2.2.1 r.2.2.2.2.2 ∧ (∀ k : Nat, k < 6 → r.2.1 (6 * s + k) = sgt k) ∧ ∀ p : Nat, p < 6 * s → r.2.1 p = sen p) := by
      intro q j2 l5 hl
      cases q with
      | zero => exact Par.no
      | succ q =>
        rw [L_m_takes_e3]; unfold B_m_takes_3
        rcases hl with ⟨e, hno⟩ | ⟨r, e, hr, hR, hlr⟩
        · refine Par.yes e ?_
          refine Par.br (fun _ => ?_) (fun _ => Par.no)
          refine Par.br (fun _ => ?_) (fun _ => Par.no)
          refine Par.br (fun _ => ?_) (fun _ => Par.no)
          refine Par.br (fun _ => ?_) (fun _ => Par.no)
          refine Par.br (fun _ => Par.ret ⟨?_, hrow, hlow⟩) (fun _ => Par.no)
          show TkI isec (s + 1) (heaps + 1) sen2 (upd hpo l1.toNatClampNeg l1) (upd hpm l1.toNatClampNeg 1) (upd bgn l4.toNatClampNeg l1) (upd chn l1.toNatClampNeg (bgn l4.toNatClampNeg))
          rw [cl1 l1 s h1, cl1 l4 b hb]
          refine ⟨fun j hj => ?_, ?_, fun r hr hf => ?_, fun b9 => if b9 = b then s :: L b else L b9, fun b9 hb9 => ?_⟩
          · by_cases hjs : j = s
            · rw [hjs, upd_eq]
              exact ⟨s, Nat.le_refl _, h1, RwE_rf _ _, hno⟩
            · rw [upd_ne _ _ hjs]
              obtain ⟨r, k1, k2, k3, k4⟩ := t1 j (by omega)
              exact ⟨r, k1, k2, (hold r j (by omega) (by omega)).mpr k3, fun i hi9 h9 => k4 i hi9 ((hold i j (by omega) (by omega)).mp h9)⟩
          · have e9 : ndQ (RwE sen2) (s + 1) = ndQ (RwE sen2) s + 1 := cntQ_y hno
            rw [e9, hnd]
            exact ad1 heaps _ t2 (by omega)
          · by_cases hrs : r = s
            · rw [hrs, upd_eq]
              have e9 : cntQ (fun j => RwE sen2 s j) (s + 1) = cntQ (fun j => RwE sen2 s j) s + 1 := cntQ_y (RwE_rf _ _)
              have e0 : cntQ (fun j => RwE sen2 s j) s = 0 := by
                have : ∀ m : Nat, m ≤ s → cntQ (fun j => RwE sen2 s j) m = 0 := by
                  intro m
                  induction m with
                  | zero => intro _; rfl
                  | succ m ihm => intro hm; rw [cntQ_n (fun h9 => hno m (by omega) (RwE_sy h9))]; exact ihm (by omega)
                exact this s (Nat.le_refl _)
              rw [e9, e0]; rfl
            · rw [upd_ne _ _ hrs]
              have hrl : r < s := by omega
              have hnr : ¬ RwE sen2 r s := hno r hrl
              have e9 : cntQ (fun j => RwE sen2 r j) (s + 1) = cntQ (fun j => RwE sen2 r j) s := cntQ_n hnr
              rw [e9, hcnt r hrl]
              exact t3 r hrl ((hfst r hrl).mp hf)
          · obtain ⟨d1, d2, d3⟩ := t4 b9 hb9
            by_cases hbb : b9 = b
            · subst hbb
              dsimp only
              rw [if_pos rfl, upd_eq]
              refine ⟨⟨h1, ?_⟩, fun r hr => ?_, fun r hr hf hbk => ?_⟩
              · rw [upd_eq]
                exact ChR_cg (L b9) _ d1 (fun r hr => upd_ne _ _ (by have := (d2 r hr).1; omega))
              · rcases List.mem_cons.mp hr with e9 | e9
                · rw [e9]; exact ⟨by omega, hno, by rw [← h4]; exact hb⟩
                · obtain ⟨k1, k2, k3⟩ := d2 r e9
                  exact ⟨by omega, (hfst r k1).mpr k2, by rw [hhash r k1]; exact k3⟩
              · by_cases hrs : r = s
                · rw [hrs]; exact List.mem_cons_self
                · refine List.mem_cons_of_mem _ (d3 r (by omega) ((hfst r (by omega)).mp hf) ?_)
                  rw [← hhash r (by omega)]; exact hbk
            · dsimp only
              rw [if_neg hbb, upd_ne _ _ hbb]
              refine ⟨ChR_cg (L b9) _ d1 (fun r hr => upd_ne _ _ (by have := (d2 r hr).1; omega)), fun r hr => ?_, fun r hr hf hbk => ?_⟩
              · obtain ⟨k1, k2, k3⟩ := d2 r hr
                exact ⟨by omega, (hfst r k1).mpr k2, by rw [hhash r k1]; exact k3⟩
              · by_cases hrs : r = s
                · exfalso
                  rw [hrs, ← h4, hb] at hbk
                  omega
                · refine d3 r (by omega) ((hfst r (by omega)).mp hf) ?_
                  rw [← hhash r (by omega)]; exact hbk
        · refine Par.not (fun h9 => by
            have e9 : (-9 : Int32).toInt = -9 := by decide
            rw [h9, e9] at e; omega) ?_
          refine Par.br (fun _ => ?_) (fun _ => Par.no)
          refine Par.br (fun _ => ?_) (fun _ => Par.no)
          refine Par.br (fun _ => Par.ret ⟨?_, hrow, hlow⟩) (fun _ => Par.no)
          show TkI isec (s + 1) heaps sen2 (upd hpo l1.toNatClampNeg l5) (upd hpm l5.toNatClampNeg (hpm l5.toNatClampNeg + 1)) bgn chn
          rw [cl1 l1 s h1, cl1 l5 r e]
          refine ⟨fun j hj => ?_, ?_, fun r2 hr2 hf => ?_, L, fun b9 hb9 => ?_⟩
          · by_cases hjs : j = s
            · rw [hjs, upd_eq]
              exact ⟨r, by omega, e, hR, fun i hi9 h9 => hlr i hi9 (RwE_tr h9 (RwE_sy hR))⟩
            · rw [upd_ne _ _ hjs]
              obtain ⟨r9, k1, k2, k3, k4⟩ := t1 j (by omega)
              exact ⟨r9, k1, k2, (hold r9 j (by omega) (by omega)).mpr k3, fun i hi9 h9 => k4 i hi9 ((hold i j (by omega) (by omega)).mp h9)⟩
          · have e9 : ndQ (RwE sen2) (s + 1) = ndQ (RwE sen2) s := cntQ_n (fun h9 => h9 r hr hR)
            rw [e9, hnd]; exact t2
          · by_cases hrs : r2 = s
            · exfalso
              rw [hrs] at hf
              exact hf r hr hR
            · have hr2l : r2 < s := by omega
              have hf0 := (hfst r2 hr2l).mp hf
              by_cases hrr : r2 = r
              · rw [hrr, upd_eq]
                rw [hrr] at hf0
                have e9 : cntQ (fun j => RwE sen2 r j) (s + 1) = cntQ (fun j => RwE sen2 r j) s + 1 := cntQ_y hR
                have hle := cntQ_le (fun j => RwE sen2 r j) s
                rw [e9]
                refine ad1 _ _ ?_ (by omega)
                rw [hcnt r hr]
                exact t3 r hr hf0
              · rw [upd_ne _ _ hrr]
                have e9 : cntQ (fun j => RwE sen2 r2 j) (s + 1) = cntQ (fun j => RwE sen2 r2 j) s := cntQ_n (fun h9 => by
                  have h8 : RwE sen2 r2 r := RwE_tr h9 (RwE_sy hR)
                  rcases Nat.lt_trichotomy r2 r with h7 | h7 | h7
                  · exact hlr r2 h7 h8
                  · exact hrr h7
                  · exact hf r h7 (RwE_sy h8))
                rw [e9, hcnt r2 hr2l]
                exact t3 r2 hr2l hf0
          · obtain ⟨d1, d2, d3⟩ := t4 b9 hb9
            refine ⟨d1, fun r9 hr9 => ?_, fun r9 hr9 hf hbk => ?_⟩
            · obtain ⟨k1, k2, k3⟩ := d2 r9 hr9
              exact ⟨by omega, (hfst r9 k1).mpr k2, by rw [hhash r9 k1]; exact k3⟩
            · by_cases hrs : r9 = s
              · exfalso
                rw [hrs] at hf
                exact hf r hr hR
              · refine d3 r9 (by omega) ((hfst r9 (by omega)).mp hf) ?_
                rw [← hhash r9 (by omega)]; exact hbk
    have srch : ∀ (q : Nat) (L2 : List Nat) (j2 : Int64) (l5 : Int32), ChR chn l5 L2 → (∀ r : Nat, r ∈ L2 → r ∈ L b) → (∀ r : Nat, r ∈ L b → r ∉ L2 → ¬ RwE sen2 r s) → Par (L_m_takes K q 2 l1 j2 l4 l5 isec heaps sen2 hpo hpm bgn chn sgt) (fun r => TkI isec (s + 1) r.1 r.2.1 r.2.2.1 r.2.2.2.1 r.2.2.2.2.1 r.2.2.2.2.2 ∧ (∀ k : Nat, k < 6 → r.2.1 (6 * s + k) = sgt k) ∧ ∀ p : Nat, p < 6 * s → r.2.1 p = sen p) := by
      intro q
      induction q using Nat.strongRecOn with
      | _ q ihq =>
      intro L2 j2 l5 hch hsub hno
      cases q with
      | zero => exact Par.no
      | succ q =>
        rw [L_m_takes_e2]; unfold B_m_takes_2
        cases L2 with
        | nil =>
          have hch : l5 = -9 := hch
          refine Par.yes hch (lbl3 q _ _ (Or.inl ⟨hch, fun i hi9 hR => ?_⟩))
          obtain ⟨r, k1, k2⟩ := hall i hi9 hR
          exact hno r k1 (fun h9 => by cases h9) k2
        | cons r L3 =>
          obtain ⟨e, hch2⟩ := hch
          obtain ⟨k1, k2, k3⟩ := c2 r (hsub r List.mem_cons_self)
          refine Par.not (fun h9 => by
            have e9 : (-9 : Int32).toInt = -9 := by decide
            rw [h9, e9] at e; omega) ?_
          refine Par.bd (E_m_isLike K hK l5 l1 r s sen2 e h1 (by omega) (by omega)) (fun o ho => ?_)
          rcases ho with ⟨o1, o2⟩ | ⟨o1, o2⟩
          · exact Par.not (by rw [o1]; decide) (lbl3 q _ _ (Or.inr ⟨r, e, k1, o2, (hfst r k1).mpr k2⟩))
          · refine Par.yes o1 (Par.br (fun _ => ?_) (fun _ => Par.no))
            rw [cl1 l5 r e]
            refine ihq q (by omega) L3 _ _ hch2 (fun r9 hr9 => hsub r9 (List.mem_cons_of_mem _ hr9)) (fun r9 hr9 hn9 => ?_)
            by_cases h9 : r9 = r
            · rw [h9]; exact o2
            · exact hno r9 hr9 (fun h8 => (List.mem_cons.mp h8).elim h9 hn9)
    rw [cl1 l4 b hb] at h5
    rw [h5]
    exact srch q (L b) _ _ c1 (fun r hr => hr) (fun r hr hn => absurd hr hn)
  have one : ∀ (q k : Nat) (j2 : Int64) (l4 l5 : Int32) (sen2 : Nat → Int64), l4.toInt = (k : Int) → k ≤ 6 → j2 = hsA sgt k → (∀ j : Nat, j < k → sen2 (6 * s + j) = sgt j) → (∀ p : Nat, p < 6 * s → sen2 p = sen p) → Par (L_m_takes K q 1 l1 j2 l4 l5 isec heaps sen2 hpo hpm bgn chn sgt) (fun r => TkI isec (s + 1) r.1 r.2.1 r.2.2.1 r.2.2.2.1 r.2.2.2.2.1 r.2.2.2.2.2 ∧ (∀ k : Nat, k < 6 → r.2.1 (6 * s + k) = sgt k) ∧ ∀ p : Nat, p < 6 * s → r.2.1 p = sen p) := by
    intro q
    induction q using Nat.strongRecOn with
    | _ q ihq =>
    intro k j2 l4 l5 sen2 h4 hk hj hrow hlow
    cases q with
    | zero => exact Par.no
    | succ q =>
      rw [L_m_takes_e1]; unfold B_m_takes_1
      refine Par.br (fun h => ?_) (fun h => ?_)
      · rw [Int32.le_iff_toInt_le, h4] at h
        simp only [Int32.reduceToInt] at h
        have hk6 : k = 6 := by omega
        subst hk6
        refine Par.br (fun _ => ?_) (fun _ => Par.no)
        have hh : rwH sen2 s = j2 := by
          rw [hj]
          exact hsA_cg 6 (fun k hk => hrow k hk)
        refine rest q _ sen2 hrow hlow ?_ _ _ rfl
        rw [hh]; rfl
      · rw [Int32.le_iff_toInt_le, h4] at h
        simp only [Int32.reduceToInt] at h
        refine Par.br (fun _ => ?_) (fun _ => Par.no)
        refine Par.br (fun _ => ?_) (fun _ => Par.no)
        refine Par.br (fun _ => ?_) (fun _ => Par.no)
        have h6 : (6 * l1).toInt = ((6 * s : Nat) : Int) := by
          rw [Int32.toInt_mul, h1]
          simp only [Int32.reduceToInt]
          rw [bmI (by omega) (by omega)]; omega
        rw [adN _ l4 _ k h6 h4 (by omega), cl1 l4 k h4]
        refine ihq q (by omega) (k + 1) _ _ _ _ (ad1 l4 k h4 (by omega)) (by omega) (by rw [hj]; rfl) (fun j hj9 => ?_) (fun p hp => ?_)
        · by_cases hjk : j = k
          · rw [hjk, updL_eq]
          · rw [updL_ne _ _ (by omega)]; exact hrow j (by omega)
        · rw [updL_ne _ _ (by omega)]; exact hlow p hp
  unfold F_m_takes
  obtain ⟨q, hq⟩ : ∃ n9, K = n9 + 1 := ⟨K - 1, by omega⟩
  generalize hz : L_m_takes K K 0 l1 0 0 0 isec heaps sen hpo hpm bgn chn sgt = z
  have hz2 : z = L_m_takes K (q + 1) 0 l1 0 0 0 isec heaps sen hpo hpm bgn chn sgt := by rw [← hq, hz]
  rw [hz2, L_m_takes_e0]; unfold B_m_takes_0
  exact one q 0 0 0 0 sen rfl (Nat.zero_le _) rfl (fun j hj => absurd hj (Nat.not_lt_zero _)) (fun p _ => rfl)
