/-! sets of cells as the class has them -/
def mkI (bs : List Bool) : Int32 := Int32.ofNat (mkB bs)
/-- all rows of six signs -/
def al6 (P : List Bool → Prop) : Prop := ∀ b0 b1 b2 b3 b4 b5 : Bool, P [b0, b1, b2, b3, b4, b5]
theorem al6_of {P : List Bool → Prop} (h : al6 P) : ∀ bs : List Bool, bs.length = 6 → P bs := by
  intro bs hl
  match bs, hl with
  | [b0, b1, b2, b3, b4, b5], _ => exact h b0 b1 b2 b3 b4 b5
def ntB (bs : List Bool) : List Bool := bs.map (fun b => !b)
def anB (a b : List Bool) : List Bool := List.zipWith (fun x y => x && y) a b
def orB (a b : List Bool) : List Bool := List.zipWith (fun x y => x || y) a b
theorem ntB_len {bs : List Bool} (h : bs.length = 6) : (ntB bs).length = 6 := by unfold ntB; rw [List.length_map, h]
theorem anB_len {a b : List Bool} (h : a.length = 6) (h2 : b.length = 6) : (anB a b).length = 6 := by unfold anB; rw [List.length_zipWith, h, h2]; rfl
theorem orB_len {a b : List Bool} (h : a.length = 6) (h2 : b.length = 6) : (orB a b).length = 6 := by unfold orB; rw [List.length_zipWith, h, h2]; rfl
theorem mkI_nt : ∀ bs : List Bool, bs.length = 6 → (4095 &&& (mkI bs ^^^ (-1))) = mkI (ntB bs) :=
  al6_of (P := fun bs => (4095 &&& (mkI bs ^^^ (-1))) = mkI (ntB bs)) (by unfold al6; decide +kernel)
theorem mkI_an : ∀ a : List Bool, a.length = 6 → ∀ b : List Bool, b.length = 6 → (mkI a &&& mkI b) = mkI (anB a b) := by
  have h : ∀ a0 a1 a2 a3 a4 a5 b0 b1 b2 b3 b4 b5 : Bool, (mkI [a0, a1, a2, a3, a4, a5] &&& mkI [b0, b1, b2, b3, b4, b5]) = mkI (anB [a0, a1, a2, a3, a4, a5] [b0, b1, b2, b3, b4, b5]) := by decide +kernel
  intro a ha
  match a, ha with
  | [a0, a1, a2, a3, a4, a5], _ =>
    intro b hb
    match b, hb with
    | [b0, b1, b2, b3, b4, b5], _ => exact h a0 a1 a2 a3 a4 a5 b0 b1 b2 b3 b4 b5
theorem mkI_or : ∀ a : List Bool, a.length = 6 → ∀ b : List Bool, b.length = 6 → (mkI a ||| mkI b) = mkI (orB a b) := by
  have h : ∀ a0 a1 a2 a3 a4 a5 b0 b1 b2 b3 b4 b5 : Bool, (mkI [a0, a1, a2, a3, a4, a5] ||| mkI [b0, b1, b2, b3, b4, b5]) = mkI (orB [a0, a1, a2, a3, a4, a5] [b0, b1, b2, b3, b4, b5]) := by decide +kernel
  intro a ha
  match a, ha with
  | [a0, a1, a2, a3, a4, a5], _ =>
    intro b hb
    match b, hb with
    | [b0, b1, b2, b3, b4, b5], _ => exact h a0 a1 a2 a3 a4 a5 b0 b1 b2 b3 b4 b5
theorem mkI_dn : ∀ a : List Bool, a.length = 6 → ∀ b : List Bool, b.length = 6 → (mkI a &&& (mkI b ^^^ (-1))) = mkI (anB a (ntB b)) := by
  have h : ∀ a0 a1 a2 a3 a4 a5 b0 b1 b2 b3 b4 b5 : Bool, (mkI [a0, a1, a2, a3, a4, a5] &&& (mkI [b0, b1, b2, b3, b4, b5] ^^^ (-1))) = mkI (anB [a0, a1, a2, a3, a4, a5] (ntB [b0, b1, b2, b3, b4, b5])) := by decide +kernel
  intro a ha
  match a, ha with
  | [a0, a1, a2, a3, a4, a5], _ =>
    intro b hb
    match b, hb with
    | [b0, b1, b2, b3, b4, b5], _ => exact h a0 a1 a2 a3 a4 a5 b0 b1 b2 b3 b4 b5
theorem cnB_le {bs : List Bool} (h : bs.length = 6) : cnB bs ≤ 6 := by
  have : ∀ bs : List Bool, cnB bs ≤ bs.length := by
    intro bs
    induction bs with
    | nil => exact Nat.le_refl _
    | cons b bs ih => unfold cnB; rw [List.length_cons]; split <;> omega
  have := this bs
  omega
theorem p4_tab : ∀ n : Fin 7, (1 : Int32) <<< ((Int32.ofNat (2 * n.val)) &&& 31) = Int32.ofNat (4 ^ n.val) ∧ (1 : Int32) <<< ((2 * Int32.ofNat n.val) &&& 31) = Int32.ofNat (4 ^ n.val) ∧ 4 ^ n.val ≤ 4096 := by decide +kernel
theorem E_J6_bitCount (K : Nat) (hK : 1000000000 ≤ K) : ∀ bs : List Bool, bs.length = 6 → Par (F_J6_bitCount_0f7a4 K (mkI bs)) (fun r => r = Int32.ofNat (2 * cnB bs)) := by
  obtain ⟨n, rfl⟩ : ∃ n9, K = n9 + 1 := ⟨K - 1, by omega⟩
  refine al6_of (P := fun bs => Par (F_J6_bitCount_0f7a4 (n + 1) (mkI bs)) (fun r => r = Int32.ofNat (2 * cnB bs))) ?_
  intro b0 b1 b2 b3 b4 b5
  unfold F_J6_bitCount_0f7a4
  rw [L_J6_bitCount_0f7a4_e0]; unfold B_J6_bitCount_0f7a4_0
  refine Par.ret ?_
  revert b0 b1 b2 b3 b4 b5
  decide +kernel
theorem E_X9_numbersOf (K : Nat) (hK : 1000000000 ≤ K) (bs : List Bool) (h : bs.length = 6) : Par (F_X9_numbersOf K (mkI bs)) (fun r => r = Int32.ofNat (4 ^ cnB bs)) := by
  unfold F_X9_numbersOf
  obtain ⟨n, rfl⟩ : ∃ n9, K = n9 + 1 := ⟨K - 1, by omega⟩
  rw [L_X9_numbersOf_e0]; unfold B_X9_numbersOf_0
  refine Par.bd (E_J6_bitCount _ hK bs h) (fun o ho => Par.ret ?_)
  rw [ho]
  exact (p4_tab ⟨cnB bs, by have := cnB_le h; omega⟩).1
def wiL (lv : Nat → Int32) (w : Int32) : List Bool := [decide (wiP (lv 0) w), decide (wiP (lv 1) w), decide (wiP (lv 2) w), decide (wiP (lv 3) w), decide (wiP (lv 4) w), decide (wiP (lv 5) w)]
theorem wiL_len (lv : Nat → Int32) (w : Int32) : (wiL lv w).length = 6 := rfl
theorem wiL_at (lv : Nat → Int32) (w : Int32) (c : Nat) (hc : c < 6) : (wiL lv w)[c]? = some (decide (wiP (lv c) w)) := by
  rcases (show c = 0 ∨ c = 1 ∨ c = 2 ∨ c = 3 ∨ c = 4 ∨ c = 5 by omega) with rfl | rfl | rfl | rfl | rfl | rfl <;> rfl
/-- the mask of the first n signs -/
def mkT (bs : List Bool) (n : Nat) : Int32 := mkI (bs.take n)
theorem mkT_s : ∀ bs : List Bool, bs.length = 6 → ∀ n : Nat, n < 6 → mkT bs (n + 1) = (if bs[n]? = some true then mkT bs n ||| ((3 : Int32) <<< ((2 * Int32.ofNat n) &&& 31)) else mkT bs n) := by
  refine al6_of (P := fun bs => ∀ n : Nat, n < 6 → mkT bs (n + 1) = (if bs[n]? = some true then mkT bs n ||| ((3 : Int32) <<< ((2 * Int32.ofNat n) &&& 31)) else mkT bs n)) ?_
  intro b0 b1 b2 b3 b4 b5
  refine six_k _ ?_ ?_ ?_ ?_ ?_ ?_ <;> (revert b0 b1 b2 b3 b4 b5; decide +kernel)
theorem E_X9_cellsWithin (K : Nat) (hK : 1000000000 ≤ K) (w : Int32) (lv : Nat → Int32) : Par (F_X9_cellsWithin K w lv) (fun r => r = mkI (wiL lv w)) := by
  have key : ∀ (n c : Nat) (l2 l3 : Int32), l3.toInt = (c : Int) → c ≤ 6 → l2 = mkT (wiL lv w) c → Par (L_X9_cellsWithin K n 1 w l2 l3 lv) (fun r => r = mkI (wiL lv w)) := by
    intro n
    induction n using Nat.strongRecOn with
    | _ n ih =>
    intro c l2 l3 h3 hc h2
    cases n with
    | zero => exact Par.no
    | succ n =>
      rw [L_X9_cellsWithin_e1]; unfold B_X9_cellsWithin_1
      refine Par.br (fun h => ?_) (fun h => ?_)
      · rw [Int32.le_iff_toInt_le, h3] at h
        simp only [Int32.reduceToInt] at h
        have : c = 6 := by omega
        subst this
        exact Par.ret h2
      · rw [Int32.le_iff_toInt_le, h3] at h
        simp only [Int32.reduceToInt] at h
        have e3 : l3 = Int32.ofNat c := ofn_of l3 c (by omega) h3
        have hs := mkT_s (wiL lv w) (wiL_len lv w) c (by omega)
        rw [wiL_at lv w c (by omega)] at hs
        refine Par.br (fun _ => ?_) (fun _ => Par.no)
        rw [cl1 l3 c h3]
        have go : ∀ (q : Nat) (x : Int32), q < n + 1 → x = mkT (wiL lv w) (c + 1) → Par (L_X9_cellsWithin K q 2 w x l3 lv) (fun r => r = mkI (wiL lv w)) := by
          intro q x hq hx
          cases q with
          | zero => exact Par.no
          | succ q =>
            rw [L_X9_cellsWithin_e2]; unfold B_X9_cellsWithin_2
            exact ih q (by omega) (c + 1) x (l3 + 1) (ad1 l3 c h3 (by omega)) (by omega) hx
        refine Par.bd (E_X9_isWithin K hK (lv c) w) (fun o ho => ?_)
        rcases ho with ⟨o1, o2⟩ | ⟨o1, o2⟩
        · refine Par.not (by rw [o1]; decide) (go n _ (by omega) ?_)
          rw [hs, if_pos (by rw [decide_eq_true o2]), h2, e3]
        · refine Par.yes o1 (go n _ (by omega) ?_)
          rw [hs, if_neg (by rw [decide_eq_false o2]; decide), h2]
  unfold F_X9_cellsWithin
  obtain ⟨n, rfl⟩ : ∃ n9, K = n9 + 1 := ⟨K - 1, by omega⟩
  rw [L_X9_cellsWithin_e0]; unfold B_X9_cellsWithin_0
  exact key n 0 0 0 rfl (Nat.zero_le _) rfl
theorem E_X9_isPacked (K : Nat) (hK : 1000000000 ≤ K) (x : Int32) (bs : List Bool) (h : bs.length = 6) : Par (F_X9_isPacked K x (mkI bs)) (fun r => (r = 1 ∧ 0 ≤ x.toInt ∧ x.toInt < ((4 ^ cnB bs : Nat) : Int)) ∨ (r = 0 ∧ ¬ (0 ≤ x.toInt ∧ x.toInt < ((4 ^ cnB bs : Nat) : Int)))) := by
  have hp := (p4_tab ⟨cnB bs, by have := cnB_le h; omega⟩).2.2
  simp only at hp
  have one : ∀ n : Nat, ¬ (0 ≤ x.toInt ∧ x.toInt < ((4 ^ cnB bs : Nat) : Int)) → Par (L_X9_isPacked K n 1 x (mkI bs)) (fun r => (r = 1 ∧ 0 ≤ x.toInt ∧ x.toInt < ((4 ^ cnB bs : Nat) : Int)) ∨ (r = 0 ∧ ¬ (0 ≤ x.toInt ∧ x.toInt < ((4 ^ cnB bs : Nat) : Int)))) := by
    intro n h9
    cases n with
    | zero => exact Par.no
    | succ n => rw [L_X9_isPacked_e1]; unfold B_X9_isPacked_1; exact Par.ret (Or.inr ⟨rfl, h9⟩)
  unfold F_X9_isPacked
  obtain ⟨n, rfl⟩ : ∃ n9, K = n9 + 1 := ⟨K - 1, by omega⟩
  rw [L_X9_isPacked_e0]; unfold B_X9_isPacked_0
  refine Par.br (fun h9 => one n (fun h8 => ?_)) (fun h0 => ?_)
  · rw [Int32.lt_iff_toInt_lt] at h9
    simp only [Int32.reduceToInt] at h9
    omega
  · rw [Int32.lt_iff_toInt_lt] at h0
    simp only [Int32.reduceToInt] at h0
    refine Par.bd (E_X9_numbersOf _ hK bs h) (fun o ho => ?_)
    have hi := ofn_i (4 ^ cnB bs) (by omega)
    rw [← ho] at hi
    refine Par.br (fun h9 => one n (fun h8 => ?_)) (fun h9 => Par.ret (Or.inl ⟨rfl, by omega, ?_⟩))
    · rw [Int32.le_iff_toInt_le, hi] at h9
      omega
    · rw [Int32.le_iff_toInt_le, hi] at h9
      omega
theorem E_X9_isWatched (K : Nat) (hK : 1000000000 ≤ K) (w t x : Int32) : Par (F_X9_isWatched K w t x) (fun r => (r = 1 ∧ (0 ≤ w.toInt ∧ w.toInt ≤ 3) ∧ (t = 0 ∨ t = 1) ∧ (x = 0 ∨ x = 1)) ∨ (r = 0 ∧ ¬ ((0 ≤ w.toInt ∧ w.toInt ≤ 3) ∧ (t = 0 ∨ t = 1) ∧ (x = 0 ∨ x = 1)))) := by
  have lev : Par (F_X9_isLevel K w) (fun r => (r = 1 ∧ 0 ≤ w.toInt ∧ w.toInt ≤ 3) ∨ (r = 0 ∧ ¬ (0 ≤ w.toInt ∧ w.toInt ≤ 3))) := by
    have one : ∀ n : Nat, ¬ (0 ≤ w.toInt ∧ w.toInt ≤ 3) → Par (L_X9_isLevel K n 1 w) (fun r => (r = 1 ∧ 0 ≤ w.toInt ∧ w.toInt ≤ 3) ∨ (r = 0 ∧ ¬ (0 ≤ w.toInt ∧ w.toInt ≤ 3))) := by
      intro n h9
      cases n with
      | zero => exact Par.no
      | succ n => rw [L_X9_isLevel_e1]; unfold B_X9_isLevel_1; exact Par.ret (Or.inr ⟨rfl, h9⟩)
    unfold F_X9_isLevel
    obtain ⟨n, rfl⟩ : ∃ n9, K = n9 + 1 := ⟨K - 1, by omega⟩
    rw [L_X9_isLevel_e0]; unfold B_X9_isLevel_0
    refine Par.br (fun h9 => one n (fun h8 => ?_)) (fun h0 => Par.br (fun h9 => one n (fun h8 => ?_)) (fun h3 => Par.ret (Or.inl ⟨rfl, ?_⟩)))
    · rw [Int32.lt_iff_toInt_lt] at h9
      simp only [Int32.reduceToInt] at h9
      omega
    · rw [Int32.lt_iff_toInt_lt] at h9
      simp only [Int32.reduceToInt] at h9
      omega
    · rw [Int32.lt_iff_toInt_lt] at h0 h3
      simp only [Int32.reduceToInt] at h0 h3
      omega
  have one : ∀ n : Nat, ¬ ((0 ≤ w.toInt ∧ w.toInt ≤ 3) ∧ (t = 0 ∨ t = 1) ∧ (x = 0 ∨ x = 1)) → Par (L_X9_isWatched K n 1 w t x) (fun r => (r = 1 ∧ (0 ≤ w.toInt ∧ w.toInt ≤ 3) ∧ (t = 0 ∨ t = 1) ∧ (x = 0 ∨ x = 1)) ∨ (r = 0 ∧ ¬ ((0 ≤ w.toInt ∧ w.toInt ≤ 3) ∧ (t = 0 ∨ t = 1) ∧ (x = 0 ∨ x = 1)))) := by
    intro n h9
    cases n with
    | zero => exact Par.no
    | succ n => rw [L_X9_isWatched_e1]; unfold B_X9_isWatched_1; exact Par.ret (Or.inr ⟨rfl, h9⟩)
  unfold F_X9_isWatched
  obtain ⟨n, hn⟩ : ∃ n9, K = n9 + 1 := ⟨K - 1, by omega⟩
  generalize hz : L_X9_isWatched K K 0 w t x = z
  have hz2 : z = L_X9_isWatched K (n + 1) 0 w t x := by rw [← hn, hz]
  rw [hz2, L_X9_isWatched_e0]; unfold B_X9_isWatched_0
  refine Par.bd lev (fun o ho => ?_)
  rcases ho with ⟨o1, o2⟩ | ⟨o1, o2⟩
  · refine Par.not (by rw [o1]; decide) ?_
    refine Par.bd (E_X9_isFlag K hK t) (fun p hp => ?_)
    rcases hp with ⟨p1, p2⟩ | ⟨p1, p2, p3⟩
    · refine Par.not (by rw [p1]; decide) ?_
      refine Par.bd (E_X9_isFlag K hK x) (fun q hq => ?_)
      rcases hq with ⟨q1, q2⟩ | ⟨q1, q2, q3⟩
      · exact Par.not (by rw [q1]; decide) (Par.ret (Or.inl ⟨rfl, o2, p2, q2⟩))
      · exact Par.yes q1 (one n (fun h9 => h9.2.2.elim q2 q3))
    · exact Par.yes p1 (one n (fun h9 => h9.2.1.elim p2 p3))
  · exact Par.yes o1 (one n (fun h9 => o2 h9.1))
/-- numbers below 4096, as the class and the reference have them -/
def gN (x c : Nat) : Int32 := Int32.ofNat (dgN x c)
theorem gN_v3 (x : Nat) : vl3 (gN x) := by
  intro c _
  have h := dgN_lt x c
  have e := ofn_i (dgN x c) (by omega)
  unfold v3 gN
  omega
theorem ofN_nat (x : Nat) (h : x < 4096) : (Int32.ofNat x).toBitVec.toNat = x := by
  show (BitVec.ofNat 32 x).toNat = x
  rw [BitVec.toNat_ofNat]
  exact Nat.mod_eq_of_lt (by omega)
theorem bit_dg (x c : Nat) : (x / 4 ^ c % 4).testBit 0 = x.testBit (2 * c) ∧ (x / 4 ^ c % 4).testBit 1 = x.testBit (2 * c + 1) := by
  have h : x / 4 ^ c = x >>> (2 * c) := by
    rw [Nat.shiftRight_eq_div_pow, Nat.pow_mul]
  have h4 : ∀ y i : Nat, i < 2 → (y % 4).testBit i = y.testBit i := by
    intro y i hi
    have := Nat.testBit_mod_two_pow y 2 i
    have e : 2 ^ 2 = 4 := rfl
    rw [e] at this
    rw [this]
    simp [hi]
  constructor
  · rw [h4 _ _ (by omega), h, Nat.testBit_shiftRight, Nat.add_zero]
  · rw [h4 _ _ (by omega), h, Nat.testBit_shiftRight]
theorem PkW_N (x : Nat) (h : x < 4096) : PkW (Int32.ofNat x) (gN x) := by
  have hn := ofN_nat x h
  refine ⟨fun j hj => ?_, fun c hc => ?_⟩
  · unfold BitVec.getLsbD
    rw [hn]
    exact Nat.testBit_lt_two_pow (Nat.lt_of_lt_of_le h (by
      have : 2 ^ 12 ≤ 2 ^ j := Nat.pow_le_pow_right (by decide) hj
      omega))
  · rw [← Int32.toBitVec_inj, cvW_bv _ c hc]
    apply BitVec.eq_of_getLsbD_eq
    intro i hi
    rw [bv3]
    unfold gN
    unfold BitVec.getLsbD
    rw [hn, ofN_nat (dgN x c) (by have := dgN_lt x c; omega)]
    unfold dgN
    obtain ⟨b0, b1⟩ := bit_dg x c
    by_cases h2 : i < 2
    · rcases (show i = 0 ∨ i = 1 by omega) with rfl | rfl
      · simp [b0]
      · simp [b1]
    · rw [decide_eq_false h2, Bool.false_and]
      symm
      refine Nat.testBit_lt_two_pow ?_
      have h9 := Nat.mod_lt (x / 4 ^ c) (show 4 > 0 by omega)
      have : 2 ^ 2 ≤ 2 ^ i := Nat.pow_le_pow_right (by decide) (by omega)
      omega
