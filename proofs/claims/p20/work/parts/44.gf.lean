/-! p3: the reference's reading of a sum goes with the machine of sums -/
def STR2 (E : Nat) (k v : Nat → Int32) : Prop :=
  E ≤ 400 ∧ k E = 0 ∧ (∀ j : Nat, j < E → k j ≠ 0) ∧ (∀ j : Nat, j ≤ E → 0 ≤ (v j).toInt ∧ (v j).toInt ≤ 9 ∧ (k j = 2 → (v j).toInt ≤ 5))
theorem STR2.go {E : Nat} {k v : Nat → Int32} (h : STR2 E k v) {j : Nat} (hj : j ≤ E) (hk : k j ≠ 0 ∧ k j ≠ 1) : j + 1 ≤ E := by
  rcases Nat.lt_or_ge j E with h1 | h1
  · exact h1
  · have : j = E := Nat.le_antisymm hj h1
    subst this
    exact absurd h.2.1 hk.1
/-- what the reference has at hand, when token j is the one -/
def RTk (k v nx : Nat → Int32) (j : Nat) (inext itoken iplace ivalue : Int32) : Prop :=
  inext = nx j ∧ Rtq (k j) (v j) itoken ivalue ∧ 0 ≤ iplace.toInt
def RStq (K E : Nat) (ityped : Int32) (atxt : Nat → Int32) (k v nx : Nat → Int32) : Prop :=
  ∀ j : Nat, j < E → k j ≠ 1 → ∀ itoken iplace ivalue : Int32, Par (F_m_advances K ityped (nx j) itoken iplace ivalue atxt) (fun r => RTk k v nx (j + 1) r.1 r.2.1 r.2.2.1 r.2.2.2)
theorem RStq.adv {K E : Nat} {ityped : Int32} {atxt k v nx : Nat → Int32} (h : RStq K E ityped atxt k v nx) (hS : STR2 E k v) {j : Nat} (hj : j ≤ E) {inext itoken iplace ivalue : Int32} (hT : RTk k v nx j inext itoken iplace ivalue) (hk : k j ≠ 0 ∧ k j ≠ 1) :
    Par (F_m_advances K ityped inext itoken iplace ivalue atxt) (fun r => RTk k v nx (j + 1) r.1 r.2.1 r.2.2.1 r.2.2.2) := by
  rw [hT.1]; exact h j (hS.go hj hk) hk.2 itoken iplace ivalue
def NTop : List Int32 → Prop
  | [] => True
  | x :: _ => x ≠ 33
theorem popNq_of {S : List Int32} (h : NTop S) (o : Int) (out : List Int32) : popNq S o out = (S, o, out) := by
  cases S with
  | nil => rfl
  | cons x S => have : x ≠ 33 := h; simp only [popNq, if_neg this]
theorem popNq_nt : ∀ (S : List Int32) (o : Int) (out : List Int32), NTop (popNq S o out).1 := by
  intro S
  induction S with
  | nil => intro o out; exact True.intro
  | cons x S ih =>
    intro o out
    by_cases h : x = 33
    · simp only [popNq, if_pos h]; exact ih _ _
    · simp only [popNq, if_neg h]; exact h
abbrev RFlt (r : RRs) : Int32 := r.2.2.2.2.1
/-- what a refused reading leaves of the rows -/
def KpR (asm astm : Nat → Int32) (l1 : Int32) (r : RRs) : Prop := r.2.2.2.2.2.2.2.1 = asm ∧ ∃ x : Int32, r.2.2.2.2.2.2.1 = upd astm (l1 + 3).toNatClampNeg x
/-- how a reading of a sum ends, from a place of the machine -/
def RSQ (E : Nat) (k v nx : Nat → Int32) (a : Int32) (g0 : Nat → Int32) (l1 : Int32) (astm : Nat → Int32) (c : SCg) (r : RRs) : Prop :=
  (0 ≤ (RFlt r).toInt ∧ Fls k v c ∧ (∀ p : Nat, p < 300 → r.2.2.2.2.2.2.2.1 p = g0 p) ∧ ∃ x : Int32, r.2.2.2.2.2.2.1 = upd astm (l1 + 3).toNatClampNeg x) ∨
  ((RFlt r).toInt < 0 ∧ ∃ (j' : Nat) (e : List Int32), Hlt k v c (j', e) ∧ j' ≤ E ∧ RTk k v nx j' r.1 r.2.1 r.2.2.1 r.2.2.2.1 ∧ EMr a g0 r.2.2.2.2.2.1 r.2.2.2.2.2.2.2.1 e ∧ r.2.2.2.2.2.2.1 = upd astm (l1 + 3).toNatClampNeg (r.2.2.2.2.2.1 - astm (l1 + 2).toNatClampNeg))
theorem RSQ.back {E : Nat} {k v nx : Nat → Int32} {a : Int32} {g0 : Nat → Int32} {l1 : Int32} {astm : Nat → Int32} {c d : SCg} {r : RRs} (h : Rch k v c d) (hr : RSQ E k v nx a g0 l1 astm d r) : RSQ E k v nx a g0 l1 astm c r := by
  rcases hr with ⟨h1, h2, h4⟩ | ⟨h1, j', e, h2, h3⟩
  · exact Or.inl ⟨h1, h.fl h2, h4⟩
  · exact Or.inr ⟨h1, j', e, h.hl h2, h3⟩
section FAIL
variable (K : Nat) (l1 ityped ifault : Int32) (atxt : Nat → Int32)
theorem f21 (n : Nat) (l2 l3 l4 l5 l6 inext itoken iplace ivalue sm : Int32) (astm asm asgn : Nat → Int32) :
    Par (L_m_readsSum K n 21 l1 l2 l3 l4 l5 l6 0 0 0 ityped inext itoken iplace ivalue ifault sm atxt astm asm asgn) (fun r => RFlt r = ifault ∧ KpR asm astm l1 r) := by
  cases n with
  | zero => exact Par.no
  | succ n =>
    rw [L_m_readsSum_e21]; unfold B_m_readsSum_21
    exact Par.br (fun _ => Par.br (fun _ => Par.ret ⟨rfl, rfl, _, rfl⟩) (fun _ => Par.no)) (fun _ => Par.no)
theorem f20 (hK : 1000000000 ≤ K) (hf : 0 ≤ ifault.toInt) (n : Nat) (l2 l3 l4 l5 l6 inext itoken iplace ivalue sm : Int32) (astm asm asgn : Nat → Int32) :
    Par (L_m_readsSum K n 20 l1 l2 l3 l4 l5 l6 0 0 0 ityped inext itoken iplace ivalue ifault sm atxt astm asm asgn) (fun r => RFlt r = ifault ∧ KpR asm astm l1 r) := by
  cases n with
  | zero => exact Par.no
  | succ n =>
    rw [L_m_readsSum_e20]; unfold B_m_readsSum_20
    refine Par.bd (T_m_isWell K hK ifault True.intro).pr (fun o ho => ?_)
    rcases ho with ⟨_, h⟩ | ⟨h, _⟩
    · omega
    · exact Par.yes h (f21 K l1 ityped ifault atxt n l2 l3 l4 l5 l6 inext itoken iplace ivalue sm astm asm asgn)
theorem f19 (hK : 1000000000 ≤ K) (hf : 0 ≤ ifault.toInt) (n : Nat) (l2 l3 l4 l5 l6 inext itoken iplace ivalue sm : Int32) (astm asm asgn : Nat → Int32) :
    Par (L_m_readsSum K n 19 l1 l2 l3 l4 l5 l6 0 0 0 ityped inext itoken iplace ivalue ifault sm atxt astm asm asgn) (fun r => RFlt r = ifault ∧ KpR asm astm l1 r) := by
  cases n with
  | zero => exact Par.no
  | succ n =>
    rw [L_m_readsSum_e19]; unfold B_m_readsSum_19
    refine Par.bd (T_m_isWell K hK ifault True.intro).pr (fun o ho => ?_)
    rcases ho with ⟨_, h⟩ | ⟨h, _⟩
    · omega
    · exact Par.yes h (f20 K l1 ityped ifault atxt hK hf n l2 l3 l4 l5 l6 inext itoken iplace ivalue sm astm asm asgn)
theorem f1 (hK : 1000000000 ≤ K) (hf : 0 ≤ ifault.toInt) (n : Nat) (l2 l3 l4 l5 inext itoken iplace ivalue sm : Int32) (astm asm asgn : Nat → Int32) :
    Par (L_m_readsSum K n 1 l1 l2 l3 l4 l5 1 0 0 0 ityped inext itoken iplace ivalue ifault sm atxt astm asm asgn) (fun r => RFlt r = ifault ∧ KpR asm astm l1 r) := by
  cases n with
  | zero => exact Par.no
  | succ n =>
    rw [L_m_readsSum_e1]; unfold B_m_readsSum_1
    refine Par.not (by decide) ?_
    refine Par.bd (T_m_isWell K hK ifault True.intro).pr (fun o ho => ?_)
    rcases ho with ⟨_, h⟩ | ⟨h, _⟩
    · omega
    · exact Par.yes h (f19 K l1 ityped ifault atxt hK hf n l2 l3 l4 l5 1 inext itoken iplace ivalue sm astm asm asgn)
end FAIL
/-- the token does not stand there: the reading of the sum ends -/
theorem f9 (K : Nat) (hK : 1000000000 ≤ K) (l1 ityped ifault : Int32) (atxt : Nat → Int32) (n : Nat) (l2 l3 l4 l7 l8 inext itoken iplace ivalue sm : Int32) (astm asm asgn : Nat → Int32) (hp : 0 ≤ iplace.toInt) :
    Par (L_m_readsSum K n 9 l1 l2 l3 l4 1 1 l7 l8 0 ityped inext itoken iplace ivalue ifault sm atxt astm asm asgn) (fun r => 0 ≤ (RFlt r).toInt ∧ KpR asm astm l1 r) := by
  cases n with
  | zero => exact Par.no
  | succ n =>
    rw [L_m_readsSum_e9]; unfold B_m_readsSum_9
    refine Par.bd (T_m_fails K hK iplace ifault hp).pr (fun q hq => ?_)
    cases n with
    | zero => exact Par.no
    | succ n =>
      rw [L_m_readsSum_e10]; unfold B_m_readsSum_10
      cases n with
      | zero => exact Par.no
      | succ n =>
        rw [L_m_readsSum_e18]; unfold B_m_readsSum_18
        refine Par.not (by decide) ?_
        exact (f1 K l1 ityped q atxt hK hq n l2 l3 l4 1 inext itoken iplace ivalue sm astm asm asgn).mono (fun r hr => ⟨by rw [hr.1]; exact hq, hr.2⟩)
/-- the signs that are left come out, and the length is written down -/
theorem e20 (K : Nat) (hK : 1000000000 ≤ K) (B : Int) (a : Int32) (g0 : Nat → Int32) (l1 l3 l4 l5 l6 ityped inext itoken iplace ivalue ifault : Int32) (atxt astm asgn : Nat → Int32) (o : Int) (hw : ifault.toInt < 0) :
    ∀ (S : List Int32) (out : List Int32) (n : Nat) (l2 sm : Int32) (asm : Nat → Int32), StkR S asgn S.length → l2.toInt = (S.length : Int) → S.length ≤ 80 → EMr a g0 sm asm out →
    Par (L_m_readsSum K n 20 l1 l2 l3 l4 l5 l6 0 0 0 ityped inext itoken iplace ivalue ifault sm atxt astm asm asgn) (fun r => RFlt r = ifault ∧ r.1 = inext ∧ r.2.1 = itoken ∧ r.2.2.1 = iplace ∧ r.2.2.2.1 = ivalue ∧ EMr a g0 r.2.2.2.2.2.1 r.2.2.2.2.2.2.2.1 (out ++ S) ∧ r.2.2.2.2.2.2.1 = upd astm (l1 + 3).toNatClampNeg (r.2.2.2.2.2.1 - astm (l1 + 2).toNatClampNeg)) := by
  intro S
  induction S with
  | nil =>
    intro out n l2 sm asm hs h2 h80 hE
    have h0 : l2.toInt = 0 := by simpa using h2
    cases n with
    | zero => exact Par.no
    | succ n =>
      rw [L_m_readsSum_e20]; unfold B_m_readsSum_20
      refine Par.bd (T_m_isWell K hK ifault True.intro).pr (fun q hq => ?_)
      rcases hq with ⟨h, _⟩ | ⟨_, h⟩
      · refine Par.not (by rw [h]; decide) ?_
        refine Par.yes (by rw [Int32.le_iff_toInt_le]; simp only [Int32.reduceToInt]; omega) ?_
        cases n with
        | zero => exact Par.no
        | succ n =>
          rw [L_m_readsSum_e21]; unfold B_m_readsSum_21
          refine Par.br (fun _ => Par.br (fun _ => Par.ret ⟨rfl, rfl, rfl, rfl, rfl, ?_, rfl⟩) (fun _ => Par.no)) (fun _ => Par.no)
          rw [List.append_nil]; exact hE
      · omega
  | cons x S ih =>
    intro out n l2 sm asm hs h2 h80 hE
    obtain ⟨h', e1, e2, e3⟩ := hs
    have hh : h' = S.length := by simpa using e1.symm
    subst hh
    rw [List.length_cons] at h2 h80
    have h2' : (l2 - 1).toInt = (S.length : Int) := subI l2 _ (by omega)
    have h2n : (l2 - 1).toNatClampNeg = S.length := cl1 _ _ h2'
    cases n with
    | zero => exact Par.no
    | succ n =>
      rw [L_m_readsSum_e20]; unfold B_m_readsSum_20
      refine Par.bd (T_m_isWell K hK ifault True.intro).pr (fun q hq => ?_)
      rcases hq with ⟨h, _⟩ | ⟨_, h⟩
      · refine Par.not (by rw [h]; decide) ?_
        refine Par.not (by rw [Int32.le_iff_toInt_le]; simp only [Int32.reduceToInt]; omega) ?_
        refine Par.br (fun _ => ?_) (fun _ => Par.no)
        simp only [subOne]
        rw [h2n, e2]
        refine Par.bd (E_m_putsP K hK x sm asm hE.nn) (fun r hr => ?_)
        refine (ih (out ++ [x]) n (l2 - 1) r.1 r.2 e3 h2' (by omega) (by rw [hr.2.2]; exact hE.one hr.1 hr.2.1)).mono (fun r9 h9 => ?_)
        rw [List.append_assoc] at h9
        exact h9
      · omega
