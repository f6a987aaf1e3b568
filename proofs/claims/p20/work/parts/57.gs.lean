/-! type, clear, read: what the text is on both sides -/
def TXb (f : Nat → Int32) : Prop := ∀ i : Nat, 0 ≤ (f i).toInt ∧ (f i).toInt ≤ 255
theorem TXb0 : TXb (fun _ => 0) := fun _ => (show 0 ≤ (0 : Int32).toInt ∧ (0 : Int32).toInt ≤ 255 by decide)
theorem TXb.up {f : Nat → Int32} (h : TXb f) (p : Nat) {b : Int32} (hb : 0 ≤ b.toInt ∧ b.toInt ≤ 255) : TXb (upd f p b) := by
  intro i
  by_cases hi : i = p
  · rw [hi, upd_eq]; exact hb
  · rw [upd_ne f b hi]; exact h i
theorem m255a : ∀ i : Fin 32, (255#32).getLsbD i.val = decide (i.val < 8) := by decide +kernel
theorem m255b : ∀ i : Fin 32, (255#64).getLsbD i.val = decide (i.val < 8) := by decide +kernel
theorem bvB (v : BitVec 64) (s : Nat) (hs : s ≤ 56) : ((v >>> s).signExtend 32 &&& 255#32) = (v.sshiftRight s &&& 255#64).signExtend 32 := by
  apply BitVec.eq_of_getLsbD_eq
  intro i hi
  have e1 := m255a ⟨i, hi⟩
  have e2 := m255b ⟨i, hi⟩
  simp only at e1 e2
  rw [BitVec.getLsbD_and, BitVec.getLsbD_signExtend, BitVec.getLsbD_signExtend, e1, if_pos (by omega), if_pos (by omega), BitVec.getLsbD_and, e2, BitVec.getLsbD_ushiftRight, BitVec.getLsbD_sshiftRight]
  by_cases h8 : i < 8
  · simp only [hi, h8, decide_true, Bool.true_and, Bool.and_true]
    rw [if_pos (by omega)]
    simp
    omega
  · simp [h8]
theorem byteEq (j : Int64) (l4 : Int32) (h0 : 0 ≤ l4.toInt) (h1 : l4.toInt ≤ 7) : ((((j).toUInt64 >>> (((8 * l4)).toInt64.toUInt64 &&& Int64.toUInt64 63)).toInt64).toInt32 &&& 255) = (((j >>> (((8 * l4)).toInt64 &&& 63)) &&& 255)).toInt32 := by
  have hl : l4 = 0 ∨ l4 = 1 ∨ l4 = 2 ∨ l4 = 3 ∨ l4 = 4 ∨ l4 = 5 ∨ l4 = 6 ∨ l4 = 7 := by
    have h : l4.toInt = (0 : Int32).toInt ∨ l4.toInt = (1 : Int32).toInt ∨ l4.toInt = (2 : Int32).toInt ∨ l4.toInt = (3 : Int32).toInt ∨ l4.toInt = (4 : Int32).toInt ∨ l4.toInt = (5 : Int32).toInt ∨ l4.toInt = (6 : Int32).toInt ∨ l4.toInt = (7 : Int32).toInt := by
      simp only [Int32.reduceToInt]; omega
    simpa only [Int32.toInt_inj] using h
  rcases hl with rfl | rfl | rfl | rfl | rfl | rfl | rfl | rfl
  · exact Int32.toBitVec_inj.mp (bvB j.toBitVec 0 (by decide))
  · exact Int32.toBitVec_inj.mp (bvB j.toBitVec 8 (by decide))
  · exact Int32.toBitVec_inj.mp (bvB j.toBitVec 16 (by decide))
  · exact Int32.toBitVec_inj.mp (bvB j.toBitVec 24 (by decide))
  · exact Int32.toBitVec_inj.mp (bvB j.toBitVec 32 (by decide))
  · exact Int32.toBitVec_inj.mp (bvB j.toBitVec 40 (by decide))
  · exact Int32.toBitVec_inj.mp (bvB j.toBitVec 48 (by decide))
  · exact Int32.toBitVec_inj.mp (bvB j.toBitVec 56 (by decide))
theorem and255 (x : Int32) : 0 ≤ (x &&& 255).toInt ∧ (x &&& 255).toInt ≤ 255 := by
  have h := and32 x 255 (by decide)
  have e : (255 : Int32).toInt = 255 := by decide
  omega
theorem E_X6_append (K : Nat) (hK : 1000000000 ≤ K) (b len : Int32) (f : Nat → Int32) (h0 : 0 ≤ len.toInt) (h1 : len.toInt < 300) : Par (F_X6_append K b len f) (fun r => r = (len + 1, upd f len.toNatClampNeg b)) := by
  unfold F_X6_append
  obtain ⟨n, rfl⟩ : ∃ n9, K = n9 + 1 := ⟨K - 1, by omega⟩
  rw [L_X6_append_e0]; unfold B_X6_append_0
  refine Par.not (by rw [Int32.le_iff_toInt_le]; simp only [Int32.reduceToInt]; omega) ?_
  exact Par.br (fun _ => Par.ret rfl) (fun _ => Par.no)
abbrev R3y : Type := Int32 × Int32 × (Nat → Int32)
abbrev R4y : Type := Int32 × Int32 × Int32 × (Nat → Int32)
def TySame (rc : R3y) (rm : R4y) : Prop := rc.1 = rm.1 ∧ rc.2.1 = rm.2.2.1 ∧ rc.2.2 = rm.2.2.2 ∧ TXb rm.2.2.2
theorem ty_loop (K : Nat) (hK : 1000000000 ≤ K) (j : Int64) (l3 th : Int32) : ∀ (k n1 : Nat) (l4 len : Int32) (f : Nat → Int32), l4.toInt = (k : Int) - 1 → k ≤ 8 → 0 ≤ len.toInt → len.toInt + (k : Int) ≤ 300 → TXb f →
    Par (L_X9_type K n1 2 j l3 l4 len f) (fun rc => ∀ n2 : Nat, Par (L_m_type K n2 1 j l3 l4 th len f) (fun rm => TySame rc rm)) := by
  intro k
  induction k with
  | zero =>
    intro n1 l4 len f h1 h2 h3 h4 hB
    have hneg : l4 < 0 := by rw [Int32.lt_iff_toInt_lt]; simp only [Int32.reduceToInt]; omega
    cases n1 with
    | zero => exact Par.no
    | succ n1 =>
      rw [L_X9_type_e2]; unfold B_X9_type_2
      refine Par.yes hneg (Par.ret (fun n2 => ?_))
      cases n2 with
      | zero => exact Par.no
      | succ n2 =>
        rw [L_m_type_e1]; unfold B_m_type_1
        exact Par.yes hneg (Par.ret ⟨rfl, rfl, rfl, hB⟩)
  | succ k ih =>
    intro n1 l4 len f h1 h2 h3 h4 hB
    have hpos : ¬ l4 < 0 := by rw [Int32.lt_iff_toInt_lt]; simp only [Int32.reduceToInt]; omega
    have hl1 : (l4 - 1).toInt = (k : Int) - 1 := by
      have : l4.toInt = (k : Int) := by omega
      simp only [Int32.toInt_sub, Int32.reduceToInt, this]
      rw [bmI (by omega) (by omega)]
    have hlen : (len + 1).toInt = len.toInt + 1 := adI len _ rfl h3 (by omega)
    have hby := byteEq j l4 (by omega) (by omega)
    cases n1 with
    | zero => exact Par.no
    | succ n1 =>
      rw [L_X9_type_e2]; unfold B_X9_type_2
      refine Par.not hpos ?_
      refine Par.bd (E_X6_append K hK _ len f h3 (by omega)) (fun o ho => ?_)
      subst ho
      rw [subOne]
      have hB2 : TXb (upd f len.toNatClampNeg ((((j).toUInt64 >>> (((8 * l4)).toInt64.toUInt64 &&& Int64.toUInt64 63)).toInt64).toInt32 &&& 255)) := hB.up _ (and255 _)
      refine (ih n1 (l4 - 1) (len + 1) _ hl1 (by omega) (by omega) (by omega) hB2).mono (fun rc hrc => fun n2 => ?_)
      cases n2 with
      | zero => exact Par.no
      | succ n2 =>
        rw [L_m_type_e1]; unfold B_m_type_1
        refine Par.not hpos ?_
        refine Par.br (fun _ => ?_) (fun _ => Par.no)
        rw [subOne, ← hby]
        exact hrc n2
theorem ty_same {K : Nat} (hK : 1000000000 ≤ K) {j : Int64} {l3 len ityped th : Int32} {f g : Nat → Int32} {rc : R3y} {rm : R4y} (he : len = ityped) (ht : f = g) (hB : TXb g) (h0 : 0 ≤ len.toInt) (h1 : len.toInt ≤ 300) (hc : F_X9_type K j l3 len f = some rc) (hm : F_m_type K j l3 th ityped g = some rm) : TySame rc rm := by
  subst he
  subst ht
  have key : Par (F_X9_type K j l3 len f) (fun rc => Par (F_m_type K j l3 th len f) (fun rm => TySame rc rm)) := by
    unfold F_X9_type F_m_type
    obtain ⟨n, hn⟩ : ∃ n9, K = n9 + 1 := ⟨K - 1, by omega⟩
    generalize hz : L_X9_type K K 0 j l3 0 len f = z
    have hz2 : z = L_X9_type K (n + 1) 0 j l3 0 len f := by rw [← hn, hz]
    generalize hy : L_m_type K K 0 j l3 0 th len f = y
    have hy2 : y = L_m_type K (n + 1) 0 j l3 0 th len f := by rw [← hn, hy]
    rw [hz2, hy2, L_X9_type_e0, L_m_type_e0]; unfold B_X9_type_0 B_m_type_0
    have hbad : ¬ (1 ≤ l3.toInt ∧ l3.toInt ≤ 8) → ∀ m : Nat, Par (L_X9_type K m 1 j l3 0 len f) (fun rc => Par ((F_m_in K l3 1 8).bind (fun o_1 => if o_1 = 0 then (some ((-1), 0, len, f)) else (if (len + l3) ≤ 300 then (L_m_type K n 1 j l3 (l3 - 1) 0 len f) else (some ((-3), 0, len, f))))) (fun rm => TySame rc rm)) := by
      intro hno m
      cases m with
      | zero => exact Par.no
      | succ m =>
        rw [L_X9_type_e1]; unfold B_X9_type_1
        refine Par.ret ?_
        refine Par.bd (T_m_in K hK l3 1 8 True.intro).pr (fun o ho => ?_)
        simp only [Int32.reduceToInt] at ho
        rcases ho with ⟨_, h⟩ | ⟨h, _⟩
        · exact absurd h hno
        · exact Par.yes h (Par.ret ⟨rfl, rfl, rfl, hB⟩)
    refine Par.br (fun a => hbad (fun h => ?_) n) (fun a => Par.br (fun b => ?_) (fun b => hbad (fun h => ?_) n))
    · rw [Int32.lt_iff_toInt_lt] at a
      simp only [Int32.reduceToInt] at a
      omega
    · rw [Int32.lt_iff_toInt_lt] at a
      rw [Int32.le_iff_toInt_le] at b
      simp only [Int32.reduceToInt] at a b
      have hin : ∀ (X Y : Option R4y) (Q : R4y → Prop), Par Y Q → Par ((F_m_in K l3 1 8).bind (fun o_1 => if o_1 = 0 then X else Y)) Q := by
        intro X Y Q hY
        refine Par.bd (T_m_in K hK l3 1 8 True.intro).pr (fun o ho => ?_)
        simp only [Int32.reduceToInt] at ho
        rcases ho with ⟨h, _⟩ | ⟨_, h⟩
        · exact Par.not (by rw [h]; decide) hY
        · omega
      have hsum : (len + l3).toInt = len.toInt + l3.toInt := by
        rw [Int32.toInt_add]; exact bmI (by omega) (by omega)
      refine Par.br (fun c => ?_) (fun c => ?_)
      · have c2 := c
        rw [Int32.le_iff_toInt_le, hsum] at c2
        simp only [Int32.reduceToInt] at c2
        have hl3 : (l3 - 1).toInt = ((l3.toInt.toNat : Nat) : Int) - 1 := by
          simp only [Int32.toInt_sub, Int32.reduceToInt]
          rw [bmI (by omega) (by omega)]
          omega
        refine (ty_loop K hK j l3 0 l3.toInt.toNat n (l3 - 1) len f hl3 (by omega) h0 (by omega) hB).mono (fun rc hrc => ?_)
        exact hin _ _ _ (Par.yes c (hrc n))
      · refine Par.ret (hin _ _ _ (Par.not c (Par.ret ⟨rfl, rfl, rfl, hB⟩)))
    · rw [Int32.le_iff_toInt_le] at b
      simp only [Int32.reduceToInt] at b
      omega
  exact key rc hc rm hm
theorem clr_same {x y : Int32} (h1 : x.toInt = 0) (h2 : y.toInt = 0) : x = y := Int32.toInt_inj.mp (by rw [h1, h2])
abbrev R21 : Type := Int32 × (Nat → Nat → Int32) × Nat × Int32 × Nat × Int32 × Int32 × Int32 × Int32 × Int32 × Int32 × Int32 × (Nat → Int32) × (Nat → Int32) × (Nat → Int32) × Int32 × Int32 × Int32 × Int32 × (Nat → Int32) × Int32
/-! the statements of the two programs lie apart; what a reading leaves -/
def PGd (f g : Nat → Option Nat) : Prop := ∀ i j a : Nat, i < 30 → j < 30 → f i = some a → g j = some a → False
theorem PGd.sw {f g : Nat → Option Nat} (h : PGd f g) : PGd g f := fun i j a hi hj e1 e2 => h j i a hj hi e2 e1
theorem nd_l {S T : List Nat} (h : (S ++ T).Nodup) : S.Nodup := (List.nodup_append.mp h).1
theorem nd_r {S T : List Nat} (h : (S ++ T).Nodup) : T.Nodup := (List.nodup_append.mp h).2.1
theorem nd_pl {A : Nat → Prop} {X : va_W} {L : List Nat} {f : Nat → va_E} (h : va_D A (X ++ va_pl L f)) : L.Nodup := by
  have hg : ∀ (k : Nat) (hk : k < L.length), (X ++ va_pl L f)[X.length + k]? = some (L[k], f L[k]) := by
    intro k hk
    rw [List.getElem?_append_right (Nat.le_add_right _ _), Nat.add_sub_cancel_left]
    unfold va_pl
    rw [List.getElem?_map, List.getElem?_eq_getElem hk]
    rfl
  rw [List.nodup_iff_pairwise_ne, List.pairwise_iff_getElem]
  intro i j hi hj hij e
  have := h.1 _ _ _ _ (hg i hi) (hg j hj) e
  omega
theorem PGn.inj {LL : List Nat} {f : Nat → Option Nat} (h : PGn 30 LL f) (hn : LL.Nodup) : PGi f := by
  intro i j a hi hj e1 e2
  obtain ⟨h0, h⟩ := h
  rw [← h i hi] at e1
  rw [← h j hj] at e2
  have := (List.getElem?_inj (i := 30 - 1 - i) (j := 30 - 1 - j) (by omega) hn).mp (by rw [e1, e2])
  omega
theorem PGn.dj {S T : List Nat} {f g : Nat → Option Nat} (h1 : PGn 30 T f) (h2 : PGn 30 S g) (hn : (S ++ T).Nodup) : PGd f g := by
  intro i j a hi hj e1 e2
  obtain ⟨_, a1, a2⟩ := h1.v i hi
  obtain ⟨_, b1, b2⟩ := h2.v j hj
  rw [e1] at a1
  rw [e2] at b1
  cases a1
  cases b1
  exact (List.nodup_append.mp hn).2.2 a b2 a a2 rfl
theorem FRow.keep {f g f2 g2 : Nat → Int32} {D : List SRc} {M N : Nat → Nat} {i : Nat} (h : FRow f g D M N i) (hi : i < 30) (h1 : ∀ p : Nat, p < 240 → f2 p = f p) (h2 : ∀ p : Nat, p < 300 → g2 p = g p) : FRow f2 g2 D M N i := by
  obtain ⟨r, cf, a1, a2, a3, a4, a5, a6, a7, a8, a9⟩ := h
  refine ⟨r, cf, a1, by rw [h1 _ (by omega)]; exact a2, by rw [h1 _ (by omega)]; exact a3, fun h => by rw [h1 _ (by omega)]; exact a4 h, by rw [h1 _ (by omega)]; exact a5, a6, fun t x hx => ?_, by rw [h1 _ (by omega)]; exact a8, by rw [h1 _ (by omega)]; exact a9⟩
  have ht : t < r.2.2.1.length := by
    rcases Nat.lt_or_ge t r.2.2.1.length with h | h
    · exact h
    · rw [List.getElem?_eq_none h] at hx; cases hx
  rw [h2 _ (by omega)]
  exact a7 t x hx
theorem SameP.keep {pg ppg : Nat → Option Nat} {sv sw : Nat → Nat → Int32} {pk : Nat → Int32} {sz cs ou us many many2 : Int32} {astm asm f2 g2 : Nat → Int32} (h : SameP pg sv pk sz cs ou us many astm asm) (hs : SvF ppg sv sw) (hd : PGd pg ppg) (he : many2 = many) (h1 : ∀ p : Nat, p < 240 → f2 p = astm p) (h2 : ∀ p : Nat, p < 300 → g2 p = asm p) : SameP pg sw pk sz cs ou us many2 f2 g2 := by
  subst he
  obtain ⟨D, M, N, b0, b1, b2, b3, b4, b5, b6, b7⟩ := h
  exact ⟨D, M, N, b0, b1, b2, b3, b4, b5, fun i hi => (b6 i hi).re (fun a ha z => hs a (fun j hj e => hd i j a (by omega) hj ha e) z) (fun _ _ => rfl) (Int.le_refl _) rfl rfl, fun i hi => (b7 i hi).keep (by omega) h1 h2⟩
theorem SameP.st {pg : Nat → Option Nat} {sv : Nat → Nat → Int32} {pk astm asm : Nat → Int32} : SameP pg sv pk 0 0 0 0 0 astm asm :=
  ⟨[], fun _ => 0, fun _ => 0, ⟨fun _ => 0, fun _ => 0, 0, s_end rfl, fun x h => by cases h⟩, Nat.zero_le _, rfl, rfl, rfl, rfl, fun _ h => absurd h (Nat.not_lt_zero _), fun _ h => absurd h (Nat.not_lt_zero _)⟩
theorem rd_same2 {K : Nat} (hK : 1000000000 ≤ K) {LL : List Nat} {sv : Nat → Nat → Int32} {p : Nat} {len : Int32} {tx : Nat → Int32} {pp : Nat} {ops cl mn at_ kd vl pl : Int32} {fk fv fp : Nat → Int32} {sz cs ou us : Int32} {pg ppg : Nat → Option Nat} {pk ppk : Nat → Int32} {psz pcs pou pus : Int32} {stp : Int32} {ithrown ityped inext itoken iplace ivalue ifault imany idrafts isumMany : Int32} {atxt astm asm asgn aopn aopp : Nat → Int32} {rc : R21} {rm : R16}
    (he : len = ityped) (ht : tx = atxt) (hB : TXb atxt) (h0 : 0 ≤ len.toInt) (h1 : len.toInt ≤ 300) (hpg : PGi ppg) (hpd : PGd pg ppg) (hne : p ≠ pp) (hsame : SameP pg sv pk psz pcs pou pus imany astm asm)
    (hc : F_X9_read K LL sv p len tx pp ops cl mn at_ kd vl pl fk fv fp sz cs ou us ppg ppk stp = some rc) (hm : F_m_read K ithrown ityped inext itoken iplace ivalue ifault imany idrafts isumMany atxt astm asm asgn aopn aopp = some rm) :
    rc.2.2.2.1 = rm.2.2.1 ∧ (rc.2.2.1 = p → SameP pg rc.2.1 pk psz pcs pou pus rm.2.2.2.2.2.2.2.2.1 rm.2.2.2.2.2.2.2.2.2.2.2.1 rm.2.2.2.2.2.2.2.2.2.2.2.2.1) ∧ (rc.2.2.1 = pp → SameP ppg rc.2.1 rc.2.2.2.2.2.2.2.2.2.2.2.2.2.2.2.2.2.2.2.1 rc.2.2.2.2.2.2.2.2.2.2.2.2.2.2.2.1 rc.2.2.2.2.2.2.2.2.2.2.2.2.2.2.2.2.1 rc.2.2.2.2.2.2.2.2.2.2.2.2.2.2.2.2.2.1 rc.2.2.2.2.2.2.2.2.2.2.2.2.2.2.2.2.2.2.1 rm.2.2.2.2.2.2.2.2.1 rm.2.2.2.2.2.2.2.2.2.2.2.1 rm.2.2.2.2.2.2.2.2.2.2.2.2.1) := by
  subst he
  subst ht
  have key : Par (F_X9_read K LL sv p len tx pp ops cl mn at_ kd vl pl fk fv fp sz cs ou us ppg ppk stp) (fun rc => rc.2.2.2.1 = rm.2.2.1 ∧ (rc.2.2.1 = p → SameP pg rc.2.1 pk psz pcs pou pus rm.2.2.2.2.2.2.2.2.1 rm.2.2.2.2.2.2.2.2.2.2.2.1 rm.2.2.2.2.2.2.2.2.2.2.2.2.1) ∧ (rc.2.2.1 = pp → SameP ppg rc.2.1 rc.2.2.2.2.2.2.2.2.2.2.2.2.2.2.2.2.2.2.2.1 rc.2.2.2.2.2.2.2.2.2.2.2.2.2.2.2.1 rc.2.2.2.2.2.2.2.2.2.2.2.2.2.2.2.2.1 rc.2.2.2.2.2.2.2.2.2.2.2.2.2.2.2.2.2.1 rc.2.2.2.2.2.2.2.2.2.2.2.2.2.2.2.2.2.2.1 rm.2.2.2.2.2.2.2.2.1 rm.2.2.2.2.2.2.2.2.2.2.2.1 rm.2.2.2.2.2.2.2.2.2.2.2.2.1)) := by
    unfold F_X9_read
    obtain ⟨n, hn⟩ : ∃ n9, K = n9 + 1 := ⟨K - 1, by omega⟩
    generalize hz : L_X9_read K K 0 LL sv p len tx pp ops cl mn at_ kd vl pl fk fv fp sz cs ou us ppg ppk stp = z
    have hz2 : z = L_X9_read K (n + 1) 0 LL sv p len tx pp ops cl mn at_ kd vl pl fk fv fp sz cs ou us ppg ppk stp := by rw [← hn, hz]
    rw [hz2, L_X9_read_e0]; unfold B_X9_read_0
    refine Par.bd (fun o ho => both_read K hK LL sv ops cl mn at_ kd vl pl fk fv fp sz cs ou us ppg ppk len tx ithrown inext itoken iplace ivalue ifault imany idrafts isumMany astm asm asgn aopn aopp ⟨h0, h1⟩ (fun i _ => hB i) hpg o rm ho hm) (fun o ho => ?_)
    obtain ⟨hsf, ho⟩ := ho
    rcases ho with ⟨a1, a2, a3⟩ | ⟨a1, a2, a3, a4, a5⟩
    · refine Par.yes a1 ?_
      refine Par.bd (P := fun _ => True) (fun _ _ => True.intro) (fun o1 _ => ?_)
      refine Par.bd (P := fun _ => True) (fun _ _ => True.intro) (fun o2 _ => ?_)
      exact Par.ret ⟨a2.symm, fun e => absurd e.symm hne, fun _ => a3⟩
    · refine Par.not a1 (Par.ret ⟨a2.symm, fun _ => hsame.keep hsf hpd a3 a4 a5, fun e => absurd e hne⟩)
  exact key rc hc
theorem cl_ans {K : Nat} (hK : 1000000000 ≤ K) {len ityped th : Int32} {rc : Int32 × Int32} {rm : Int32 × Int32 × Int32} (he : len = ityped) (hc : F_X9_clear K len = some rc) (hm : F_m_clear K th ityped = some rm) : rc.1 = rm.1 := by
  obtain ⟨n, rfl⟩ : ∃ n9, K = n9 + 1 := ⟨K - 1, by omega⟩
  unfold F_X9_clear at hc
  unfold F_m_clear at hm
  rw [L_X9_clear_e0] at hc
  rw [L_m_clear_e0] at hm
  unfold B_X9_clear_0 at hc
  unfold B_m_clear_0 at hm
  obtain rfl := Option.some.inj hc
  obtain rfl := Option.some.inj hm
  exact he
