/-! what a watcher sees of a run: the class's view, one long -/
def vsL (w : Int32) (out : List (Int32 × Int32)) : List Nat := ((out.take 20).filter (fun x => decide (wiP x.2 w))).map (fun x => x.1.toInt.toNat)
def snR : List Nat → Nat
  | [] => 1
  | x :: l => 4 * snR l + x
def snN (l : List Nat) : Nat := snR l.reverse
theorem snR_pos : ∀ l : List Nat, 1 ≤ snR l := by
  intro l
  induction l with
  | nil => exact Nat.le_refl _
  | cons x l ih => unfold snR; omega
theorem snR_lt : ∀ l : List Nat, (∀ x : Nat, x ∈ l → x < 4) → snR l < 2 * 4 ^ l.length := by
  intro l
  induction l with
  | nil => intro _; show 1 < 2 * 1; omega
  | cons x l ih =>
    intro h
    have h1 := ih (fun y hy => h y (List.mem_cons_of_mem _ hy))
    have h2 := h x List.mem_cons_self
    rw [List.length_cons, Nat.pow_succ]
    unfold snR
    omega
theorem snR_inj : ∀ l m : List Nat, (∀ x : Nat, x ∈ l → x < 4) → (∀ x : Nat, x ∈ m → x < 4) → snR l = snR m → l = m := by
  intro l
  induction l with
  | nil =>
    intro m _ _ h
    cases m with
    | nil => rfl
    | cons y m => have := snR_pos m; unfold snR at h; omega
  | cons x l ih =>
    intro m h1 h2 h
    cases m with
    | nil => have := snR_pos l; unfold snR at h; omega
    | cons y m =>
      have a := h1 x List.mem_cons_self
      have b := h2 y List.mem_cons_self
      have e : snR (x :: l) = 4 * snR l + x := rfl
      have e2 : snR (y :: m) = 4 * snR m + y := rfl
      rw [e, e2] at h
      have hxy : x = y := by omega
      rw [hxy, ih m (fun z hz => h1 z (List.mem_cons_of_mem _ hz)) (fun z hz => h2 z (List.mem_cons_of_mem _ hz)) (by omega)]
theorem snN_inj {l m : List Nat} (h1 : ∀ x : Nat, x ∈ l → x < 4) (h2 : ∀ x : Nat, x ∈ m → x < 4) (h : snN l = snN m) : l = m := by
  have := snR_inj l.reverse m.reverse (fun x hx => h1 x (List.mem_reverse.mp hx)) (fun x hx => h2 x (List.mem_reverse.mp hx)) h
  exact List.reverse_inj.mp this
theorem snN_snoc (l : List Nat) (x : Nat) : snN (l ++ [x]) = 4 * snN l + x := by
  unfold snN
  rw [List.reverse_append]
  rfl
theorem snN_lt {l : List Nat} (h : ∀ x : Nat, x ∈ l → x < 4) (hl : l.length ≤ 20) : snN l < 2 ^ 41 := by
  have h1 := snR_lt l.reverse (fun x hx => h x (List.mem_reverse.mp hx))
  rw [List.length_reverse] at h1
  have h2 : 4 ^ l.length ≤ 4 ^ 20 := Nat.pow_le_pow_right (by omega) hl
  have h3 : 2 * (4 : Nat) ^ 20 = 2 ^ 41 := by decide
  unfold snN
  omega
def OkO (s : RSt) : Prop := ∀ x : Int32 × Int32, x ∈ s.2.2 → v3 x.1
theorem exR_o {D : List SRc} {M N : Nat → Nat} {wo : Int32} (hV : VlD D) : ∀ (n i t : Nat) (s : RSt), OkS s → OkO s → OkO (exR D M N wo n i t s) := by
  intro n
  induction n with
  | zero => intro i t s _ h; exact h
  | succ n ih =>
    intro i t s hO h
    unfold exR
    by_cases hc : i < t ∧ s.2.1 < 400
    · rw [if_pos hc]
      refine ih _ _ _ (stR_ok hV (exR_ok hV n) hO hc.2) ?_
      have hb : OkS (s.1, s.2.1 + 1, s.2.2) := ⟨hO.1, by show s.2.1 + 1 ≤ 400; omega, by show s.2.2.length ≤ s.2.1 + 1; have := hO.2.2; omega⟩
      unfold stR
      split
      · exact h
      · split
        · exact h
        · split
          · intro x hx
            have hx : x ∈ s.2.2 ++ [(vlE (cod D i) s.1, nf D i)] := hx
            rcases List.mem_append.mp hx with e | e
            · exact h x e
            · rw [List.mem_singleton.mp e]; exact hV i s.1 hO.1
          · split
            · split
              · exact ih _ _ _ hb h
              · exact ih _ _ _ hb h
            · have key : ∀ (k : Nat) (u : RSt), OkS u → OkO u → OkO (itR (exR D M N wo n (i + 1) (N i)) k u) := by
                intro k
                induction k with
                | zero => intro u _ h9; exact h9
                | succ k ihk => intro u hu h9; exact ihk _ (exR_ok hV n _ _ _ hu) (ih _ _ _ hu h9)
              exact key _ _ hb h
    · rw [if_neg hc]; exact h
theorem vsL_4 {w : Int32} {out : List (Int32 × Int32)} (h : ∀ x : Int32 × Int32, x ∈ out → v3 x.1) : ∀ x : Nat, x ∈ vsL w out → x < 4 := by
  intro x hx
  unfold vsL at hx
  obtain ⟨y, hy, e⟩ := List.mem_map.mp hx
  have hy2 := h y (List.mem_of_mem_take (List.mem_filter.mp hy).1)
  have := (v3_nat hy2).2
  rw [← e]; exact this
theorem vsL_len {w : Int32} {out : List (Int32 × Int32)} : (vsL w out).length ≤ 20 := by
  unfold vsL
  rw [List.length_map]
  have h1 := List.length_filter_le (fun x : Int32 × Int32 => decide (wiP x.2 w)) (out.take 20)
  rw [List.length_take] at h1
  omega
theorem loP (i a b d e : Nat) (hd : d < 2 ^ i) (he : e < 2 ^ i) : (2 ^ i * a + d) &&& (2 ^ i * b + e) = 2 ^ i * (a &&& b) + (d &&& e) := by
  apply Nat.eq_of_testBit_eq
  intro j
  rw [Nat.testBit_and, Nat.testBit_two_pow_mul_add _ hd, Nat.testBit_two_pow_mul_add _ he, Nat.testBit_two_pow_mul_add _ (Nat.and_lt_two_pow d he), Nat.testBit_and, Nat.testBit_and]
  split <;> rfl
/-- a view's number -/
def VwN (w : Int32) (F : RSt) : Nat := snN (vsL w F.2.2) + 2 ^ 41 * (orV F.1 6).toBitVec.toNat + 2 ^ 53 * F.2.1
theorem i64s (x : Int32) (h : 0 ≤ x.toInt) : x.toInt64.toBitVec.toNat = x.toInt.toNat := by
  have hm : x.toBitVec.msb = false := by
    rw [BitVec.msb_eq_toInt]
    exact decide_eq_false (by show ¬ x.toInt < 0; omega)
  have e : x.toInt64.toBitVec = x.toBitVec.signExtend 64 := rfl
  rw [e, BitVec.signExtend_eq_setWidth_of_msb_false hm, BitVec.toNat_setWidth]
  have e2 : x.toInt = (x.toBitVec.toNat : Int) := by
    show x.toBitVec.toInt = _
    exact BitVec.toInt_eq_toNat_of_msb hm
  have := x.toBitVec.isLt
  rw [e2]
  omega
theorem PkW_n {w : Int32} {g : Nat → Int32} (h : PkW w g) : w.toBitVec.toNat < 4096 ∧ 0 ≤ w.toInt ∧ w.toInt.toNat = w.toBitVec.toNat := by
  have hlt : w.toBitVec.toNat < 2 ^ 12 := by
    refine Nat.lt_pow_two_of_testBit _ (fun i hi => ?_)
    exact h.1 i hi
  have e : w.toInt = (w.toBitVec.toNat : Int) := by
    show w.toBitVec.toInt = _
    exact BitVec.toInt_eq_toNat_of_lt (by omega)
  exact ⟨by omega, by omega, by omega⟩
theorem vw_sum (a b c : Nat) (x y z : BitVec 64) (hx : x.toNat = a) (hy : y.toNat = b) (hz : z.toNat = c) (ha : a < 2 ^ 41) (hb : b < 2 ^ 12) (hc : c < 2 ^ 9) : ((x ||| (y <<< 41)) ||| (z <<< 53)).toNat = a + 2 ^ 41 * b + 2 ^ 53 * c := by
  rw [BitVec.toNat_or, BitVec.toNat_or, BitVec.toNat_shiftLeft, BitVec.toNat_shiftLeft, hx, hy, hz, Nat.shiftLeft_eq, Nat.shiftLeft_eq, Nat.mod_eq_of_lt (by omega), Nat.mod_eq_of_lt (by omega)]
  have e1 : a ||| b * 2 ^ 41 = 2 ^ 41 * b + a := by
    rw [Nat.or_comm, Nat.mul_comm, ← Nat.two_pow_add_eq_or_of_lt ha]
  rw [e1]
  have e2 : 2 ^ 41 * b + a < 2 ^ 53 := by omega
  rw [Nat.or_comm, Nat.mul_comm c, ← Nat.two_pow_add_eq_or_of_lt e2]
  omega
theorem E_X8_viewOf (K : Nat) (hK : 1000000000 ≤ K) (w num st cm : Int32) (fn fl : Nat → Int32) (F : RSt) (hO : OkS F) (hV : OkO F) (hR : RlC F num st cm fn fl) : Par (F_X8_viewOf K w num st cm fn fl) (fun r => r.toBitVec.toNat = VwN w F) := by
  obtain ⟨hp, hst, hcm, htp⟩ := hR
  obtain ⟨n1, n2, n3⟩ := PkW_n hp
  have hnum : orV F.1 6 = num := orV_w hp hO.1
  have tk : ∀ (k : Nat) (x : Int32 × Int32), k < 20 → F.2.2[k]? = some x → vsL w (F.2.2.take (k + 1)) = vsL w (F.2.2.take k) ++ (if wiP x.2 w then [x.1.toInt.toNat] else []) := by
    intro k x hk hx
    unfold vsL
    rw [List.take_take, List.take_take, Nat.min_eq_right (by omega), Nat.min_eq_right (by omega), List.take_succ, hx]
    show (List.filter _ (F.2.2.take k ++ [x])).map _ = _
    rw [List.filter_append, List.map_append]
    congr 1
    by_cases h : wiP x.2 w
    · rw [if_pos h, List.filter_cons_of_pos (by rw [decide_eq_true h])]; rfl
    · rw [if_neg h, List.filter_cons_of_neg (by rw [decide_eq_false h]; decide)]; rfl
  have sml : ∀ k : Nat, snN (vsL w (F.2.2.take k)) < 2 ^ 41 := fun k => snN_lt (vsL_4 (fun x hx => hV x (List.mem_of_mem_take hx))) vsL_len
  have key : ∀ (n k : Nat) (z : Int64) (l4 l5 : Int32), l4.toInt = (if 20 ≤ cm.toInt then 20 else cm.toInt) → l5.toInt = (k : Int) → (k : Int) ≤ (if 20 ≤ cm.toInt then 20 else cm.toInt) → z.toBitVec.toNat = snN (vsL w (F.2.2.take k)) → Par (L_X8_viewOf K n 1 w z l4 l5 num st cm fn fl) (fun r => r.toBitVec.toNat = VwN w F) := by
    intro n
    induction n using Nat.strongRecOn with
    | _ n ih =>
    intro k z l4 l5 h4 h5 hk hz
    have hcn : (if 20 ≤ cm.toInt then (20 : Int) else cm.toInt) ≤ 20 ∧ (if 20 ≤ cm.toInt then (20 : Int) else cm.toInt) ≤ (F.2.2.length : Int) ∧ ((if 20 ≤ cm.toInt then (20 : Int) else cm.toInt) = 20 ∨ (if 20 ≤ cm.toInt then (20 : Int) else cm.toInt) = (F.2.2.length : Int)) := by
      split <;> omega
    generalize (if 20 ≤ cm.toInt then (20 : Int) else cm.toInt) = kp at h4 hk hcn ih
    cases n with
    | zero => exact Par.no
    | succ n =>
      rw [L_X8_viewOf_e1]; unfold B_X8_viewOf_1
      refine Par.br (fun h => ?_) (fun h => ?_)
      · rw [Int32.le_iff_toInt_le, h4, h5] at h
        have hall : vsL w (F.2.2.take k) = vsL w F.2.2 := by
          unfold vsL
          rw [List.take_take]
          rcases hcn.2.2 with e | e
          · have : k = 20 := by omega
            rw [this, Nat.min_self]
          · rw [List.take_of_length_le (i := min 20 k) (by omega), List.take_of_length_le (i := 20) (by omega)]
        refine Par.ret ?_
        have e : ((z ||| (num.toInt64 <<< ((41 : Int32).toInt64 &&& 63))) ||| (st.toInt64 <<< ((53 : Int32).toInt64 &&& 63))).toBitVec = (z.toBitVec ||| (num.toInt64.toBitVec <<< 41)) ||| (st.toInt64.toBitVec <<< 53) := rfl
        show ((z ||| (num.toInt64 <<< ((41 : Int32).toInt64 &&& 63))) ||| (st.toInt64 <<< ((53 : Int32).toInt64 &&& 63))).toBitVec.toNat = _
        have hO2 := hO.2.1
        rw [e, vw_sum _ _ _ _ _ _ hz (by rw [i64s num n2, n3]) (by rw [i64s st (by omega)]) (sml k) (by omega) (by omega)]
        unfold VwN
        rw [hall, hnum]
        have : st.toInt.toNat = F.2.1 := by omega
        rw [this]
      · rw [Int32.le_iff_toInt_le, h4, h5] at h
        have hkl : k < F.2.2.length := by omega
        have hx := List.getElem?_eq_getElem hkl
        generalize F.2.2[k] = x at hx
        obtain ⟨t1, t2⟩ := htp k x (by omega) hx
        have hxv := hV x (List.mem_of_getElem? hx)
        have htk := tk k x (by omega) hx
        have fin : ∀ (q : Nat) (y : Int64), q < n + 1 → y.toBitVec.toNat = snN (vsL w (F.2.2.take (k + 1))) → Par (L_X8_viewOf K q 2 w y l4 l5 num st cm fn fl) (fun r => r.toBitVec.toNat = VwN w F) := by
          intro q y hq hy
          cases q with
          | zero => exact Par.no
          | succ q =>
            rw [L_X8_viewOf_e2]; unfold B_X8_viewOf_2
            exact ih q (by omega) (k + 1) y l4 (l5 + 1) h4 (ad1 l5 k h5 (by omega)) (by omega) hy
        refine Par.br (fun _ => ?_) (fun _ => Par.no)
        rw [cl1 l5 k h5, t1, t2]
        refine Par.bd (E_X9_isWithin K hK x.2 w) (fun o ho => ?_)
        rcases ho with ⟨o1, o2⟩ | ⟨o1, o2⟩
        · refine Par.not (by rw [o1]; decide) ?_
          refine Par.br (fun _ => fin n _ (by omega) ?_) (fun _ => Par.no)
          rw [htk, if_pos o2, snN_snoc]
          obtain ⟨v1, v2⟩ := i64n x.1 hxv
          have hs := sml k
          have e : ((z <<< ((2 : Int32).toInt64 &&& 63)) ||| x.1.toInt64).toBitVec = (z.toBitVec <<< 2) ||| x.1.toInt64.toBitVec := rfl
          rw [e, bv_or2 _ _ (by omega) (by omega), hz, v1]
          omega
        · refine Par.yes o1 (fin n _ (by omega) ?_)
          rw [htk, if_neg o2, List.append_nil]
          exact hz
  unfold F_X8_viewOf
  obtain ⟨n, hn⟩ : ∃ n9, K = n9 + 1 := ⟨K - 1, by omega⟩
  generalize hz : L_X8_viewOf K K 0 w 0 0 0 num st cm fn fl = z
  have hz2 : z = L_X8_viewOf K (n + 1) 0 w 0 0 0 num st cm fn fl := by rw [← hn, hz]
  rw [hz2, L_X8_viewOf_e0]; unfold B_X8_viewOf_0
  refine Par.bd (E_X2_kept K hK cm) (fun o ho => ?_)
  refine key n 0 1 o 0 ho rfl ?_ rfl
  split <;> omega
/-! views through the lens -/
def stB2 (t : Int32) (x : Nat) : Nat := if t = 1 then x else 0
def lnN (bs : List Bool) (t : Int32) : Nat := (2 ^ 41 - 1) + 2 ^ 41 * mkB bs + 2 ^ 53 * (if t = 1 then 511 else 0)
theorem E_X8_lens (bs : List Bool) (hb : bs.length = 6) (t : Int32) : ((2199023255551 ||| ((mkI bs).toInt64 <<< ((41 : Int32).toInt64 &&& 63))) ||| (if t = 1 then 4602678819172646912 else 0) : Int64).toBitVec.toNat = lnN bs t := by
  obtain ⟨c1, c2, c3⟩ := coP bs hb
  have hmk : (mkI bs).toBitVec.toNat = mkB bs := ofN_nat _ c3
  have h0 : (mkI bs).toInt = (mkB bs : Int) := ofn_i _ (by omega)
  have e : ((2199023255551 ||| ((mkI bs).toInt64 <<< ((41 : Int32).toInt64 &&& 63))) ||| (if t = 1 then 4602678819172646912 else 0) : Int64).toBitVec = ((2199023255551#64 ||| ((mkI bs).toInt64.toBitVec <<< 41)) ||| (BitVec.ofNat 64 (if t = 1 then 511 else 0) <<< 53)) := by
    by_cases ht : t = 1
    · rw [if_pos ht, if_pos ht]; rfl
    · rw [if_neg ht, if_neg ht]; rfl
  rw [e, vw_sum (2 ^ 41 - 1) (mkB bs) (if t = 1 then 511 else 0) _ _ _ rfl (by rw [i64s _ (by omega), h0]; omega) (by
    rw [BitVec.toNat_ofNat]
    split <;> rfl) (by omega) (by omega) (by split <;> omega)]
  rfl
theorem mk_dg : ∀ (bs : List Bool) (x c : Nat), dgN (x &&& mkB bs) c = if bs[c]? = some true then dgN x c else 0 := by
  intro bs
  induction bs with
  | nil =>
    intro x c
    have : ¬ (([] : List Bool)[c]? = some true) := by simp
    rw [if_neg this]
    show dgN (x &&& 0) c = 0
    rw [Nat.and_zero]
    unfold dgN
    rw [Nat.zero_div]
  | cons b bs ih =>
    intro x c
    have hx : x = 4 * (x / 4) + x % 4 := by omega
    have h4 : x % 4 < 4 := Nat.mod_lt _ (by omega)
    have hand : x &&& mkB (b :: bs) = 4 * (x / 4 &&& mkB bs) + (if b = true then x % 4 else 0) := by
      have em : mkB (b :: bs) = (if b = true then 3 else 0) + 4 * mkB bs := rfl
      rw [em]
      by_cases hb : b = true
      · rw [if_pos hb, if_pos hb, Nat.add_comm 3]
        have e2 := (lo4 (x / 4) (mkB bs) (x % 4) 3 h4 (by omega)).2.1
        rw [← hx] at e2
        rw [e2]
        congr 1
        have := Nat.and_two_pow_sub_one_eq_mod (x % 4) 2
        have e : 2 ^ 2 - 1 = 3 := rfl
        rw [e] at this
        rw [this]; omega
      · rw [if_neg hb, if_neg hb, Nat.zero_add]
        have e2 := (lo4 (x / 4) (mkB bs) (x % 4) 0 h4 (by omega)).2.1
        rw [← hx, Nat.add_zero] at e2
        rw [e2, Nat.and_zero]
    cases c with
    | zero =>
      rw [dgN_0, dgN_0, hand, List.getElem?_cons_zero]
      by_cases hb : b = true
      · rw [if_pos hb, if_pos (by rw [hb])]; omega
      · rw [if_neg hb, if_neg (fun h => hb (Option.some.inj h))]; omega
    | succ c =>
      rw [dgN_s, dgN_s, hand, List.getElem?_cons_succ]
      have e : (4 * (x / 4 &&& mkB bs) + (if b = true then x % 4 else 0)) / 4 = x / 4 &&& mkB bs := by split <;> omega
      rw [e]
      exact ih _ _
theorem dg_ext : ∀ (n x y : Nat), x < 4 ^ n → y < 4 ^ n → (∀ c : Nat, c < n → dgN x c = dgN y c) → x = y := by
  intro n
  induction n with
  | zero => intro x y hx hy _; rw [Nat.pow_zero] at hx hy; omega
  | succ n ih =>
    intro x y hx hy h
    rw [Nat.pow_succ] at hx hy
    have h0 := h 0 (by omega)
    rw [dgN_0, dgN_0] at h0
    have := ih (x / 4) (y / 4) (by omega) (by omega) (fun c hc => by
      have := h (c + 1) (by omega)
      rw [dgN_s, dgN_s] at this
      exact this)
    omega
theorem PkW_dg {w : Int32} {g : Nat → Int32} (h : PkW w g) (c : Nat) (hc : c < 6) : g c = gN w.toBitVec.toNat c := by
  have h9 := (PkW_n h).1
  have e : w = Int32.ofNat w.toBitVec.toNat := by
    rw [← Int32.toBitVec_inj]
    apply BitVec.eq_of_toNat_eq
    rw [ofN_nat _ h9]
  have := PkW_N w.toBitVec.toNat h9
  rw [← e] at this
  rw [← h.2 c hc, this.2 c hc]
theorem gN_inj {x y c : Nat} : gN x c = gN y c ↔ dgN x c = dgN y c := by
  constructor
  · intro h
    have h1 := ofn_i (dgN x c) (by have := dgN_lt x c; omega)
    have h2 := ofn_i (dgN y c) (by have := dgN_lt y c; omega)
    unfold gN at h
    rw [h, h2] at h1
    omega
  · intro h; unfold gN; rw [h]
/-- two runs that a watcher can't tell apart -/
def SAl (w t : Int32) (bs : List Bool) (F G : RSt) : Prop := vsL w F.2.2 = vsL w G.2.2 ∧ (∀ c : Nat, c < 6 → bs[c]? = some true → F.1 c = G.1 c) ∧ (t = 1 → F.2.1 = G.2.1)
theorem orV_pk {g : Nat → Int32} (h : vl3 g) : PkW (orV g 6) g := by
  -- the packed numbers of g
  have key : ∀ n : Nat, n ≤ 6 → ∀ j : Nat, j < 32 → (orV g n).toBitVec.getLsbD j = (decide (j < 2 * n) && (g (j / 2)).toBitVec.getLsbD (j % 2)) := by
    intro n
    induction n with
    | zero =>
      intro _ j _
      show (0#32).getLsbD j = _
      simp
    | succ n ih =>
      intro hn j hj
      have e : (orV g (n + 1)).toBitVec = (orV g n).toBitVec ||| (g n <<< ((2 * Int32.ofNat n) &&& 31)).toBitVec := rfl
      obtain ⟨y, hy⟩ := v3_fin (g n) (h n (by omega))
      have e2 := (asW_tab ⟨n, by omega⟩ y ⟨j, hj⟩).2
      simp only at e2
      rw [e, BitVec.getLsbD_or, ih (by omega) j hj, hy, e2]
      by_cases h1 : j < 2 * n
      · have h2 : ¬ 2 * n ≤ j := by omega
        have h3 : j < 2 * (n + 1) := by omega
        simp [h1, h2, h3]
      · have h2 : 2 * n ≤ j := by omega
        by_cases h3 : j < 2 * (n + 1)
        · have h5 : j - 2 * n = j % 2 := by omega
          have h6 : j / 2 = n := by omega
          simp [h1, h2, h3, h5, h6, hy]
        · have h5 : 2 ≤ j - 2 * n := by omega
          have h7 := x4_hi y ⟨j - 2 * n, by omega⟩ h5
          simp only at h7
          rw [h7]
          simp [h1, h3]
  refine ⟨fun j hj => ?_, fun c hc => ?_⟩
  · by_cases h32 : j < 32
    · rw [key 6 (Nat.le_refl _) j h32]
      have : ¬ j < 2 * 6 := by omega
      simp [this]
    · exact BitVec.getLsbD_of_ge _ _ (by omega)
  · rw [← Int32.toBitVec_inj, cvW_bv _ c hc]
    apply BitVec.eq_of_getLsbD_eq
    intro i hi
    rw [bv3]
    obtain ⟨y, hy⟩ := v3_fin (g c) (h c hc)
    by_cases h2 : i < 2
    · rw [key 6 (Nat.le_refl _) _ (by omega)]
      have h5 : 2 * c + i < 2 * 6 := by omega
      have h6 : (2 * c + i) / 2 = c := by omega
      have h7 : (2 * c + i) % 2 = i := by omega
      simp [h2, h5, h6, h7]
    · have h7 := x4_hi y ⟨i, hi⟩ (by show 2 ≤ i; omega)
      simp only at h7
      rw [hy, h7]
      simp [h2]
theorem vw_eq {w t : Int32} {bs : List Bool} (hb : bs.length = 6) {F G : RSt} (hF : OkS F) (hFo : OkO F) (hG : OkS G) (hGo : OkO G) {a b l : Int64} (ha : a.toBitVec.toNat = VwN w F) (hb2 : b.toBitVec.toNat = VwN w G) (hl : l.toBitVec.toNat = lnN bs t) : (a &&& l) = (b &&& l) ↔ SAl w t bs F G := by
  have hmk : mkB bs < 2 ^ 12 := (coP bs hb).2.2
  have fld : ∀ (F : RSt) (a : Int64), OkS F → OkO F → a.toBitVec.toNat = VwN w F → (a &&& l).toBitVec.toNat = snN (vsL w F.2.2) + 2 ^ 41 * ((orV F.1 6).toBitVec.toNat &&& mkB bs) + 2 ^ 53 * stB2 t F.2.1 := by
    intro F a hF hFo ha
    have hs := snN_lt (vsL_4 (w := w) (fun x hx => hFo x hx)) (vsL_len (out := F.2.2))
    have hn := (PkW_n (orV_pk hF.1)).1
    have hst := hF.2.1
    have e : (a &&& l).toBitVec = a.toBitVec &&& l.toBitVec := rfl
    rw [e, BitVec.toNat_and, ha, hl]
    unfold VwN lnN
    have r1 : snN (vsL w F.2.2) + 2 ^ 41 * (orV F.1 6).toBitVec.toNat + 2 ^ 53 * F.2.1 = 2 ^ 53 * F.2.1 + (2 ^ 41 * (orV F.1 6).toBitVec.toNat + snN (vsL w F.2.2)) := by omega
    have r2 : 2 ^ 41 - 1 + 2 ^ 41 * mkB bs + 2 ^ 53 * (if t = 1 then 511 else 0) = 2 ^ 53 * (if t = 1 then 511 else 0) + (2 ^ 41 * mkB bs + (2 ^ 41 - 1)) := by omega
    rw [r1, r2, loP 53 _ _ _ _ (by omega) (by omega), loP 41 _ _ _ _ hs (by omega), Nat.and_two_pow_sub_one_eq_mod, Nat.mod_eq_of_lt hs]
    have r3 : F.2.1 &&& (if t = 1 then 511 else 0) = stB2 t F.2.1 := by
      unfold stB2
      split
      · have := Nat.and_two_pow_sub_one_eq_mod F.2.1 9
        have e : 2 ^ 9 - 1 = 511 := rfl
        rw [e] at this
        rw [this]; omega
      · exact Nat.and_zero _
    rw [r3]
    omega
  have hfa := fld F a hF hFo ha
  have hfb := fld G b hG hGo hb2
  have hsF := snN_lt (vsL_4 (w := w) (fun x hx => hFo x hx)) (vsL_len (out := F.2.2))
  have hsG := snN_lt (vsL_4 (w := w) (fun x hx => hGo x hx)) (vsL_len (out := G.2.2))
  have hnF := (PkW_n (orV_pk hF.1)).1
  have hnG := (PkW_n (orV_pk hG.1)).1
  have hmF : ((orV F.1 6).toBitVec.toNat &&& mkB bs) < 2 ^ 12 := Nat.and_lt_two_pow _ hmk
  have hmG : ((orV G.1 6).toBitVec.toNat &&& mkB bs) < 2 ^ 12 := Nat.and_lt_two_pow _ hmk
  have hcell : ((orV F.1 6).toBitVec.toNat &&& mkB bs) = ((orV G.1 6).toBitVec.toNat &&& mkB bs) ↔ ∀ c : Nat, c < 6 → bs[c]? = some true → F.1 c = G.1 c := by
    constructor
    · intro h c hc hbc
      have h1 := mk_dg bs (orV F.1 6).toBitVec.toNat c
      have h2 := mk_dg bs (orV G.1 6).toBitVec.toNat c
      rw [if_pos hbc] at h1 h2
      rw [PkW_dg (orV_pk hF.1) c hc, PkW_dg (orV_pk hG.1) c hc, gN_inj, ← h1, ← h2, h]
    · intro h
      refine dg_ext 6 _ _ (by have e : (4 : Nat) ^ 6 = 2 ^ 12 := by decide
                              omega) (by have e : (4 : Nat) ^ 6 = 2 ^ 12 := by decide
                                         omega) (fun c hc => ?_)
      rw [mk_dg, mk_dg]
      by_cases hbc : bs[c]? = some true
      · rw [if_pos hbc, if_pos hbc, ← gN_inj, ← PkW_dg (orV_pk hF.1) c hc, ← PkW_dg (orV_pk hG.1) c hc]
        exact h c hc hbc
      · rw [if_neg hbc, if_neg hbc]
  have heq : (a &&& l) = (b &&& l) ↔ (a &&& l).toBitVec.toNat = (b &&& l).toBitVec.toNat := by
    constructor
    · intro h; rw [h]
    · intro h; exact Int64.toBitVec_inj.mp (BitVec.eq_of_toNat_eq h)
  rw [heq, hfa, hfb]
  unfold SAl
  rw [← hcell]
  constructor
  · intro h
    refine ⟨snN_inj (vsL_4 (fun x hx => hFo x hx)) (vsL_4 (fun x hx => hGo x hx)) (by omega), by omega, fun ht => ?_⟩
    unfold stB2 at h
    rw [if_pos ht, if_pos ht] at h
    omega
  · rintro ⟨h1, h2, h3⟩
    rw [h1, h2]
    unfold stB2
    split
    · rename_i ht; rw [h3 ht]
    · rfl
