/-! p3: factor, term, sum, comparison of the class against the machine of sums -/
theorem small5 {v : Int32} (h0 : 0 ≤ v.toInt) (h1 : v.toInt ≤ 5) : v = 0 ∨ v = 1 ∨ v = 2 ∨ v = 3 ∨ v = 4 ∨ v = 5 := by
  have h : v.toInt = (0 : Int32).toInt ∨ v.toInt = (1 : Int32).toInt ∨ v.toInt = (2 : Int32).toInt ∨ v.toInt = (3 : Int32).toInt ∨ v.toInt = (4 : Int32).toInt ∨ v.toInt = (5 : Int32).toInt := by
    simp only [Int32.reduceToInt]; omega
  simpa only [Int32.toInt_inj] using h
theorem enc_cell {v : Int32} (h0 : 0 ≤ v.toInt) (h1 : v.toInt ≤ 5) : 4 + 2 * v = encc (10 + v) := by
  rcases small5 h0 h1 with rfl | rfl | rfl | rfl | rfl | rfl <;> decide
theorem enc_num {v : Int32} (h0 : 0 ≤ v.toInt) (h1 : v.toInt ≤ 3) : v = encc v := by
  rcases small5 h0 (by omega) with rfl | rfl | rfl | rfl | rfl | rfl <;> first | decide | (simp only [Int32.reduceToInt] at h1; omega)
theorem cm_cell {v : Int32} (h0 : 0 ≤ v.toInt) (h1 : v.toInt ≤ 5) (c : Int32) : CMk [10 + v] c = c ||| (3 <<< ((2 * v) &&& 31)) := by
  rcases small5 h0 h1 with rfl | rfl | rfl | rfl | rfl | rfl <;> rfl
theorem cm_num {v : Int32} (h0 : 0 ≤ v.toInt) (h1 : v.toInt ≤ 3) (c : Int32) : CMk [v] c = c := by
  rcases small5 h0 (by omega) with rfl | rfl | rfl | rfl | rfl | rfl <;> first | rfl | (simp only [Int32.reduceToInt] at h1; omega)
theorem clo_of3 {x : Int32} (h : clo x < 4) (h1 : x ≠ 42) (h2 : x ≠ 38) : clo x < 3 := by
  unfold clo
  rw [if_neg (by rintro (h | h) <;> contradiction)]
  split <;> (try split) <;> omega
theorem clo_of2 {x : Int32} (h : clo x < 3) (h1 : x ≠ 43) (h2 : x ≠ 45) : clo x < 2 := by
  unfold clo at *
  split at h
  · omega
  · rename_i h9
    rw [if_neg h9, if_neg (by rintro (h | h) <;> contradiction)]
    split <;> omega
theorem clo_le (x : Int32) : clo x < 4 := by
  unfold clo
  split <;> (try split) <;> (try split) <;> omega
theorem clo_of1 {x : Int32} (h : clo x < 2) (h1 : x ≠ 60) (h2 : x ≠ 61) : clo x = 0 := by
  unfold clo at *
  split at h
  · omega
  · rename_i h9
    split at h
    · omega
    · rename_i h8
      rw [if_neg h9, if_neg h8, if_neg (by rintro (h | h) <;> contradiction)]
theorem SOkq.tr {mn : Int32} {fk fv : Nat → Int32} {j : Nat} {cl cs : Int32} {f : Nat → Int32} {r q : R9t} {e e2 : List Int32} {lv1 j1 lv2 j2 : Nat} (h0 : 0 ≤ cs.toInt) (h1 : SOkq mn fk fv j cl cs f r e lv1 j1) (h2 : SOkq mn fk fv j1 r.2.2.1 r.2.2.2.2.2.2.2.1 r.2.2.2.2.2.2.2.2 q e2 lv2 j2) : SOkq mn fk fv j cl cs f q (e ++ e2) lv2 j2 := by
  obtain ⟨a1, a2, a3, a4, a5, a6⟩ := h1
  obtain ⟨b1, b2, b3, b4, b5, b6⟩ := h2
  exact ⟨b1, b2, b3, EMt.tr h0 a4 b4, by rw [List.length_append]; omega, by rw [CMk_app, ← a6]; exact b6⟩
def LooP (c : Nat) (mn : Int32) (fk fv : Nat → Int32) (o : Int) (lv j : Nat) (cl cs : Int32) (f : Nat → Int32) (r : R9t) : Prop :=
  (r.1 = 0 ∧ ∀ S Q out, TopLt c S → (∀ x ∈ Q, c ≤ clo x) → Fls fk fv (false, Q ++ S, o, lv, j, out)) ∨
  (r.1 = 1 ∧ ∃ (e : List Int32) (lv' j' : Nat), SOkq mn fk fv j cl cs f r e lv' j' ∧ clo (fk j') < c ∧ ∀ S Q out, TopLt c S → (∀ x ∈ Q, c ≤ clo x) → ∃ Q' out1, (∀ x ∈ Q', c ≤ clo x) ∧ out1 ++ Q' = out ++ Q ++ e ∧ Rch fk fv (false, Q ++ S, o, lv, j, out) (false, Q' ++ S, o, lv', j', out1))
theorem TopLt.up {c : Nat} {S : List Int32} (h : TopLt c S) : TopLt (c + 1) S := by
  cases S with
  | nil => exact True.intro
  | cons x S => exact ⟨Nat.lt_succ_of_lt h.1, h.2⟩
theorem FacP.pen {mn : Int32} {fk fv : Nat → Int32} {o : Int} {lv j : Nat} {cl cs : Int32} {f : Nat → Int32} {r : R9t} (h : FacP mn fk fv o lv j cl cs f r) : PenP 4 mn fk fv o lv j cl cs f r := by
  rcases h with ⟨h1, h2⟩ | ⟨h1, e, lv', j', h2, h3, h4⟩
  · exact Or.inl ⟨h1, fun S out _ => h2 S out⟩
  · refine Or.inr ⟨h1, e, lv', j', h2, h3, clo_le _, fun S out hS => ⟨[], out ++ e, fun x hx => absurd hx List.not_mem_nil, by simp, ?_⟩⟩
    have := h4 S out
    rw [pnC_top hS] at this
    exact this
/-- the class's row that holds code behind an emitted sign -/
theorem SOkq.em {mn : Int32} {fk fv : Nat → Int32} {j : Nat} {cl cs : Int32} {f : Nat → Int32} {r : R9t} {e : List Int32} {lv1 j1 : Nat} (h0 : 0 ≤ cs.toInt) (x op ds : Int32) (g : Nat → Int32) (r1 : Int32) (h1 : SOkq mn fk fv (j + 1) cl cs f r e lv1 j1) (hd : ds.toInt = r.2.2.2.2.2.2.2.1.toInt + 1) (hg : g = upd r.2.2.2.2.2.2.2.2 r.2.2.2.2.2.2.2.1.toNatClampNeg op) (hx : op = encc x) (hc : cs.toInt ≤ (j : Int)) (hm : ∀ c : Int32, CMk [x] c = c) : SOkq mn fk fv j cl cs f (r1, r.2.1, r.2.2.1, r.2.2.2.1, r.2.2.2.2.1, r.2.2.2.2.2.1, r.2.2.2.2.2.2.1, ds, g) (e ++ [x]) lv1 j1 := by
  obtain ⟨a1, a2, ⟨c1, c2, c3, c4, c5, c6⟩, a4, a5, a6⟩ := h1
  have hl := a4.1
  refine ⟨a1, a2, ⟨c1, c2, c3, c4, ?_, ?_⟩, ?_, ?_, ?_⟩
  · show 0 ≤ ds.toInt
    omega
  · show ds.toInt ≤ _
    omega
  · show EMt cs f ds g (e ++ [x])
    rw [hg]
    exact EMt.tr h0 a4 (EMt.one c5 hd hx)
  · rw [List.length_append, List.length_singleton]; omega
  · show r.2.2.1 = _
    rw [CMk_app, hm]; exact a6
set_option maxHeartbeats 4000000 in
set_option maxRecDepth 100000 in
theorem Q_X3_takeFactor (K : Nat) (hK : 1000000000 ≤ K) (cS cT cF cC : Int32 → Int32 → Int32 → Int32 → Int32 → Int32 → Int32 → Int32 → (Nat → Int32) → (Nat → Int32) → (Nat → Int32) → Int32 → (Nat → Int32) → Option R9t) (hF : SpF FacP (fun _ _ => True) cF) (hS : SpF (PenP 2) (fun _ _ => True) cS) (hC : SpF CmpP (fun fk j => clo (fk j) < 2) cC) :
    SpF FacP (fun _ _ => True) (fun l1 ops cl mn at_ kd vl pl fk fv fp cs f => L_X3_takeFactor K cS cT cF cC K 0 l1 ops cl mn at_ kd vl pl fk fv fp cs f) := by
  intro l1 ops cl mn at_ kd vl pl fk fv fp cs f o lv j hSt hCs hl1 ho0 ho hops hlv _
  have hCs0 := hCs
  obtain ⟨ha, hj, hk, hv, hc0, hc1⟩ := hCs
  have hmn := hSt.2.1
  have hval := hSt.2.2.2.2 j hj.1
  have hf1 : ∀ n st1 st2 st3 st4 st5 st6 st7 st8 st9 st10 st11 st12, Par (L_X3_takeFactor K cS cT cF cC n 1 l1 st1 st2 st3 st4 st5 st6 st7 st8 st9 st10 st11 st12) (fun r => r.1 = 0) := by
    intro n; intros
    cases n with
    | zero => exact Par.no
    | succ n => rw [L_X3_takeFactor_e1]; unfold B_X3_takeFactor_1; exact Par.ret rfl
  have hf2 : ∀ n st1 st2 st3 st4 st5 st6 st7 st8 st9 st10 st11 st12, Par (L_X3_takeFactor K cS cT cF cC n 2 l1 st1 st2 st3 st4 st5 st6 st7 st8 st9 st10 st11 st12) (fun r => r.1 = 0) := by
    intro n; intros
    cases n with
    | zero => exact Par.no
    | succ n => rw [L_X3_takeFactor_e2]; unfold B_X3_takeFactor_2; exact Par.ret rfl
  show Par (L_X3_takeFactor K cS cT cF cC K 0 l1 ops cl mn at_ kd vl pl fk fv fp cs f) (FacP mn fk fv o lv j cl cs f)
  generalize hn : L_X3_takeFactor K cS cT cF cC K 0 l1 ops cl mn at_ kd vl pl fk fv fp cs f = z
  obtain ⟨n, hn2⟩ : ∃ n9, K = n9 + 1 := ⟨K - 1, by omega⟩
  have hz : z = L_X3_takeFactor K cS cT cF cC (n + 1) 0 l1 ops cl mn at_ kd vl pl fk fv fp cs f := by rw [← hn2, hn]
  clear hn
  rw [hz, L_X3_takeFactor_e0]; unfold B_X3_takeFactor_0
  refine Par.br (fun h => ?_) (fun hn2 => Par.br (fun h => ?_) (fun hn3 => Par.br (fun h => ?_) (fun hn33 => Par.br (fun h => ?_) (fun hn40 => ?_))))
  · have hkj : fk j = 2 := by rw [← hk]; exact h
    have hv5 : (fv j).toInt ≤ 5 := hval.2.2.1 hkj
    have hv0 : 0 ≤ (fv j).toInt := hval.1
    refine Par.bd (E_X3_takeOperand K hK _ ops mn at_ kd vl pl fk fv fp cs f j (10 + fv j) hSt hCs0 (by rw [hkj]; decide) (by rw [hv]; exact enc_cell hv0 hv5) ⟨by omega, by omega⟩) (fun r hr => ?_)
    refine Par.br (fun _ => ?_) (fun _ => Par.no)
    refine Par.ret ?_
    rcases hr with ⟨r0, h24⟩ | ⟨r1, h24, h3, h4, h5⟩
    · exact Or.inl ⟨r0, fun S out => sb_wfl (by rw [hkj]; rintro ⟨h | h, _⟩ <;> revert h <;> decide) (by omega)⟩
    · refine Or.inr ⟨r1, [10 + fv j], lv + 1, j + 1, ⟨?_, by omega, h4, h5, by simp, ?_⟩, by omega, fun S out => ?_⟩
      · show r.2.1.toInt = _
        omega
      · show cl ||| _ = _
        rw [cm_cell hv0 hv5, hv]
      · have := sb_leaf (k := fk) (v := fv) (S := S) (o := o) (lv := lv) (j := j) (out := out) (Or.inl hkj) (by omega)
        rw [hkj] at this
        exact this
  · have hkj : fk j = 3 := by rw [← hk]; exact h
    have hv0 : 0 ≤ (fv j).toInt := hval.1
    refine Par.br (fun h3 => ?_) (fun h3 => ?_)
    · refine (hf1 _ _ _ _ _ _ _ _ _ _ _ _ _).mono (fun r hr => Or.inl ⟨hr, fun S out => sb_wfl (by rw [hkj]; rintro ⟨h | h, _⟩ <;> revert h <;> decide) ?_⟩)
      rw [hkj]
      rintro ⟨h4 | ⟨_, h4⟩, _⟩
      · revert h4; decide
      · rw [Int32.lt_iff_toInt_lt] at h4 h3
        rw [hv] at h3
        simp only [Int32.reduceToInt] at h3 h4
        omega
    · rw [Int32.lt_iff_toInt_lt, hv] at h3
      simp only [Int32.reduceToInt] at h3
      have hv3 : (fv j).toInt ≤ 3 := by omega
      refine Par.bd (E_X3_takeOperand K hK _ ops mn at_ kd vl pl fk fv fp cs f j (fv j) hSt hCs0 (by rw [hkj]; decide) (by rw [hv]; exact enc_num hv0 hv3) ⟨by omega, by omega⟩) (fun r hr => ?_)
      rcases hr with ⟨r0, h24⟩ | ⟨r1, h24, h3, h4, h5⟩
      · refine Par.yes r0 ?_
        exact (hf1 _ _ _ _ _ _ _ _ _ _ _ _ _).mono (fun r hr => Or.inl ⟨hr, fun S out => sb_wfl (by rw [hkj]; rintro ⟨h | h, _⟩ <;> revert h <;> decide) (by omega)⟩)
      · refine Par.not (by rw [r1]; decide) ?_
        refine Par.ret (Or.inr ⟨rfl, [fv j], lv + 1, j + 1, ⟨?_, by omega, h4, h5, by simp, ?_⟩, by omega, fun S out => ?_⟩)
        · show r.2.1.toInt = _
          omega
        · show cl = _
          rw [cm_num hv0 hv3]
        · have := sb_leaf (k := fk) (v := fv) (S := S) (o := o) (lv := lv) (j := j) (out := out) (Or.inr ⟨hkj, by rw [Int32.lt_iff_toInt_lt]; simp only [Int32.reduceToInt]; omega⟩) (by omega)
          rw [hkj] at this
          exact this
  · have hkj : fk j = 33 := by rw [← hk]; exact h
    refine Par.br (fun h8 => ?_) (fun h8 => ?_)
    · rw [Int32.lt_iff_toInt_lt] at h8
      simp only [Int32.reduceToInt] at h8
      refine Par.bd (E_X7_advance K hK mn at_ kd vl pl fk fv fp j hSt ha hj (by rw [hkj]; decide)) (fun a hA => ?_)
      refine Par.bd (hF (l1 + 1) ops cl mn a.1 a.2.1 a.2.2.1 a.2.2.2 fk fv fp cs f (o + 1) lv (j + 1) hSt ⟨hA.1, hA.2.1, hA.2.2.1, hA.2.2.2, hc0, by omega⟩ (adI l1 o hl1 ho0 (by omega)) (by omega) (by omega) hops hlv True.intro) (fun r hr => ?_)
      have hop : ∀ S out, Rch fk fv (true, S, o, lv, j, out) (true, 33 :: S, o + 1, lv, j + 1, out) := fun S out => by
        have := sb_open (k := fk) (v := fv) (S := S) (o := o) (lv := lv) (j := j) (out := out) (Or.inl hkj) (by omega)
        rw [hkj] at this
        exact this
      rcases hr with ⟨r0, h2⟩ | ⟨r1, e, lv', j', h2, h3, h4⟩
      · refine Par.yes r0 (Par.ret (Or.inl ⟨rfl, fun S out => (hop S out).fl (h2 _ _)⟩))
      · refine Par.not (by rw [r1]; decide) ?_
        have h2' := h2
        obtain ⟨a1, a2, ⟨c1, c2, c3, c4, c5, c6⟩, a4, a5, a6⟩ := h2'
        have hl := a4.1
        refine Par.bd (E_X4_emit K hK 20 _ _ c5 (by omega)) (fun q hq => ?_)
        refine Par.ret (Or.inr ⟨rfl, e ++ [33], lv', j', SOkq.em hc0 33 20 _ _ 1 h2 hq.1 hq.2 (by decide) hc1 (fun _ => rfl), by omega, fun S out => ?_⟩)
        refine (hop S out).tr ?_
        have := h4 (33 :: S) out
        rw [pnC_not, List.append_assoc] at this
        exact this
    · rw [Int32.lt_iff_toInt_lt] at h8
      simp only [Int32.reduceToInt] at h8
      exact Par.ret (Or.inl ⟨rfl, fun S out => sb_wfl (by omega) (by rw [hkj]; rintro ⟨h | ⟨h, _⟩, _⟩ <;> revert h <;> decide)⟩)
  · have hkj : fk j = 40 := by rw [← hk]; exact h
    refine Par.br (fun h8 => ?_) (fun h8 => ?_)
    · rw [Int32.lt_iff_toInt_lt] at h8
      simp only [Int32.reduceToInt] at h8
      refine Par.bd (E_X7_advance K hK mn at_ kd vl pl fk fv fp j hSt ha hj (by rw [hkj]; decide)) (fun a hA => ?_)
      refine Par.bd (hS (l1 + 1) ops cl mn a.1 a.2.1 a.2.2.1 a.2.2.2 fk fv fp cs f (o + 1) lv (j + 1) hSt ⟨hA.1, hA.2.1, hA.2.2.1, hA.2.2.2, hc0, by omega⟩ (adI l1 o hl1 ho0 (by omega)) (by omega) (by omega) hops hlv True.intro) (fun r hr => ?_)
      have hop : ∀ S out, Rch fk fv (true, S, o, lv, j, out) (true, 40 :: S, o + 1, lv, j + 1, out) := fun S out => by
        have := sb_open (k := fk) (v := fv) (S := S) (o := o) (lv := lv) (j := j) (out := out) (Or.inr hkj) (by omega)
        rw [hkj] at this
        exact this
      have htp : ∀ S : List Int32, TopLt 2 (40 :: S) := fun S => ⟨by rw [clo40]; omega, by decide⟩
      rcases hr with ⟨r0, h2⟩ | ⟨r1, e, lv1, j1, h2, h3, hcl, h4⟩
      · refine Par.yes r0 ?_
        exact (hf2 _ _ _ _ _ _ _ _ _ _ _ _ _).mono (fun r hr => Or.inl ⟨hr, fun S out => (hop S out).fl (h2 _ _ (htp S))⟩)
      · refine Par.not (by rw [r1]; decide) ?_
        have h2' := h2
        obtain ⟨a1, a2, hc1', a4, a5, a6⟩ := h2'
        refine Par.bd (hC (l1 + 1) r.2.1 r.2.2.1 mn r.2.2.2.1 r.2.2.2.2.1 r.2.2.2.2.2.1 r.2.2.2.2.2.2.1 fk fv fp r.2.2.2.2.2.2.2.1 r.2.2.2.2.2.2.2.2 (o + 1) lv1 j1 hSt hc1' (adI l1 o hl1 ho0 (by omega)) (by omega) (by omega) a1 a2 hcl) (fun q hq => ?_)
        rcases hq with ⟨q0, h5⟩ | ⟨q1, e2, lv2, j2, h5, h6⟩
        · refine Par.yes q0 ?_
          refine (hf2 _ _ _ _ _ _ _ _ _ _ _ _ _).mono (fun r hr => Or.inl ⟨hr, fun S out => ?_⟩)
          obtain ⟨Q, out1, hQ, hO, hR⟩ := h4 (40 :: S) out (htp S)
          exact ((hop S out).tr hR).fl (h5 S Q out1 hQ)
        · refine Par.not (by rw [q1]; decide) ?_
          have h5' := h5
          obtain ⟨b1, b2, hc2', b4, b5, b6⟩ := h5'
          refine Par.bd (E_X3_take K hK 41 mn q.2.2.2.1 q.2.2.2.2.1 q.2.2.2.2.2.1 q.2.2.2.2.2.2.1 fk fv fp j2 q.2.2.2.2.2.2.2.1 hSt hc2' (by decide)) (fun t ht => ?_)
          rcases ht with ⟨t0, h7⟩ | ⟨t1, h7, h8'⟩
          · refine Par.yes t0 ?_
            refine (hf2 _ _ _ _ _ _ _ _ _ _ _ _ _).mono (fun r hr => Or.inl ⟨hr, fun S out => ?_⟩)
            obtain ⟨Q, out1, hQ, hO, hR⟩ := h4 (40 :: S) out (htp S)
            obtain ⟨Q2, out2, hQ2, hO2, hR2, hE2⟩ := h6 S Q out1 hQ
            exact (((hop S out).tr hR).tr hR2).fl (sb_efl hE2 h7 (hasO_q _ _))
          · refine Par.not (by rw [t1]; decide) ?_
            have h9 := SOkq.tr hc0 h2 h5
            obtain ⟨d1, d2, d3, d4, d5, d6⟩ := h9
            refine Par.ret (Or.inr ⟨rfl, e ++ e2, lv2, j2 + 1, ⟨d1, d2, h8', d4, by omega, d6⟩, by omega, fun S out => ?_⟩)
            obtain ⟨Q, out1, hQ, hO, hR⟩ := h4 (40 :: S) out (htp S)
            obtain ⟨Q2, out2, hQ2, hO2, hR2, hE2⟩ := h6 S Q out1 hQ
            have hcz := sb_close (k := fk) (v := fv) (S := Q2 ++ 40 :: S) (o := o + 1) (lv := lv2) (j := j2) (out := out2) h7 (hasO_q _ _)
            rw [popTo_q Q2 S out2 hQ2, Int.add_sub_cancel] at hcz
            have heq : out2 ++ Q2 = out ++ (e ++ e2) := by rw [hO2, hO, List.append_assoc]
            have hcz2 : Rch fk fv (false, Q2 ++ 40 :: S, o + 1, lv2, j2, out2) (pnC S o lv2 (j2 + 1) (out2 ++ Q2)) := hcz
            rw [heq] at hcz2
            exact (((hop S out).tr hR).tr hR2).tr hcz2
    · rw [Int32.lt_iff_toInt_lt] at h8
      simp only [Int32.reduceToInt] at h8
      exact Par.ret (Or.inl ⟨rfl, fun S out => sb_wfl (by omega) (by rw [hkj]; rintro ⟨h | ⟨h, _⟩, _⟩ <;> revert h <;> decide)⟩)
  · have hk2 : fk j ≠ 2 := by rw [← hk]; exact hn2
    have hk3 : fk j ≠ 3 := by rw [← hk]; exact hn3
    have hk33 : fk j ≠ 33 := by rw [← hk]; exact hn33
    have hk40 : fk j ≠ 40 := by rw [← hk]; exact hn40
    exact Par.ret (Or.inl ⟨rfl, fun S out => sb_wfl (by rintro ⟨h | h, _⟩ <;> contradiction) (by rintro ⟨h | ⟨h, _⟩, _⟩ <;> contradiction)⟩)
set_option maxHeartbeats 4000000 in
set_option maxRecDepth 100000 in
theorem Q_X3_takeTerm (K : Nat) (hK : 1000000000 ≤ K) (cS cT cF cC : Int32 → Int32 → Int32 → Int32 → Int32 → Int32 → Int32 → Int32 → (Nat → Int32) → (Nat → Int32) → (Nat → Int32) → Int32 → (Nat → Int32) → Option R9t) (hX : SpF (PenP 4) (fun _ _ => True) cF) :
    SpF (PenP 3) (fun _ _ => True) (fun l1 ops cl mn at_ kd vl pl fk fv fp cs f => L_X3_takeTerm K cS cT cF cC K 0 l1 0 0 ops cl mn at_ kd vl pl fk fv fp cs f) := by
  intro l1 ops cl mn at_ kd vl pl fk fv fp cs f o lv j hSt hCs hl1 ho0 ho hops hlv _
  have hmn := hSt.2.1
  have hlp : ∀ n : Nat, ∀ (l2 s0 ops cl at_ kd vl pl cs : Int32) (f : Nat → Int32) (lv j : Nat), CSt mn fk fv j at_ kd vl pl cs → ops.toInt = (lv : Int) → lv ≤ 24 → clo (fk j) < 4 → 0 ≤ l2.toInt → 2 * l2.toInt ≤ (j : Int) →
      Par (L_X3_takeTerm K cS cT cF cC n 1 l1 l2 s0 ops cl mn at_ kd vl pl fk fv fp cs f) (LooP 3 mn fk fv o lv j cl cs f) := by
    intro n
    induction n using Nat.strongRecOn with
    | ind n ih =>
      intro l2 s0 ops cl at_ kd vl pl cs f lv j hCs hops hlv hcl h20 h2j
      have hCs0 := hCs
      obtain ⟨ha, hj, hk, hv, hc0, hc1⟩ := hCs
      have hend : ∀ m s1, fk j ≠ 42 → fk j ≠ 38 → Par (L_X3_takeTerm K cS cT cF cC m 4 l1 l2 s1 ops cl mn at_ kd vl pl fk fv fp cs f) (LooP 3 mn fk fv o lv j cl cs f) := by
        intro m s1 h1 h2
        cases m with
        | zero => exact Par.no
        | succ m =>
          rw [L_X3_takeTerm_e4]; unfold B_X3_takeTerm_4
          refine Par.ret (Or.inr ⟨rfl, [], lv, j, ⟨hops, hlv, hCs0, EMt.rf, by simp, rfl⟩, clo_of3 hcl h1 h2, fun S Q out hS hQ => ⟨Q, out, hQ, by simp, Rch.rf⟩⟩)
      have hgo : ∀ m op s1, fk j = op → clo op = 3 → op ≠ 33 → op ≠ 0 → s1 = encc op → (∀ c : Int32, CMk [op] c = c) → m < n → Par (L_X3_takeTerm K cS cT cF cC m 3 l1 l2 s1 ops cl mn at_ kd vl pl fk fv fp cs f) (LooP 3 mn fk fv o lv j cl cs f) := by
        intro m op s1 hkj hco h33 hz0 hs1 hcm hmn'
        cases m with
        | zero => exact Par.no
        | succ m =>
          rw [L_X3_takeTerm_e3]; unfold B_X3_takeTerm_3
          refine Par.bd (E_X7_advance K hK mn at_ kd vl pl fk fv fp j hSt ha hj (by rw [hkj]; exact hz0)) (fun a hA => ?_)
          refine Par.bd (hX l1 ops cl mn a.1 a.2.1 a.2.2.1 a.2.2.2 fk fv fp cs f o lv (j + 1) hSt ⟨hA.1, hA.2.1, hA.2.2.1, hA.2.2.2, hc0, by omega⟩ hl1 ho0 ho hops hlv True.intro) (fun r hr => ?_)
          have hop : ∀ S Q out, TopLt 3 S → (∀ x ∈ Q, 3 ≤ clo x) → Rch fk fv (false, Q ++ S, o, lv, j, out) (true, op :: S, o, lv, j + 1, out ++ Q) := fun S Q out hS hQ => by
            have := sb_op (k := fk) (v := fv) (S := Q ++ S) (o := o) (lv := lv) (j := j) (out := out) (Or.inl (by rw [hkj, hco]; omega))
            rw [hkj, hco, popGe_all hS Q out hQ] at this
            exact this
          have htp : ∀ S : List Int32, TopLt 4 (op :: S) := fun S => ⟨by rw [hco]; omega, h33⟩
          rcases hr with ⟨r0, h2⟩ | ⟨r1, e, lv1, j1, h2, h3, hcl1, h4⟩
          · exact Par.yes r0 (Par.ret (Or.inl ⟨rfl, fun S Q out hS hQ => (hop S Q out hS hQ).fl (h2 _ _ (htp S))⟩))
          · refine Par.not (by rw [r1]; decide) ?_
            have h2' := h2
            obtain ⟨a1, a2, ⟨c1, c2, c3, c4, c5, c6⟩, a4, a5, a6⟩ := h2'
            have hl := a4.1
            refine Par.bd (E_X4_emit K hK s1 _ _ c5 (by omega)) (fun q hq => ?_)
            have h5 : SOkq mn fk fv j cl cs f (1, r.2.1, r.2.2.1, r.2.2.2.1, r.2.2.2.2.1, r.2.2.2.2.2.1, r.2.2.2.2.2.2.1, q.1, q.2) (e ++ [op]) lv1 j1 := SOkq.em hc0 op s1 _ _ 1 h2 hq.1 hq.2 hs1 hc1 hcm
            have h5' := h5
            obtain ⟨d1, d2, d3, d4, d5, d6⟩ := h5'
            refine (ih m (by omega) (l2 + 1) 0 r.2.1 r.2.2.1 r.2.2.2.1 r.2.2.2.2.1 r.2.2.2.2.2.1 r.2.2.2.2.2.2.1 q.1 q.2 lv1 j1 d3 d1 d2 hcl1 ?_ ?_).mono (fun t ht => ?_)
            · simp only [Int32.toInt_add, Int32.reduceToInt]
              rw [bmI (by omega) (by omega)]
              omega
            · simp only [Int32.toInt_add, Int32.reduceToInt]
              rw [bmI (by omega) (by omega)]
              omega
            · have hstep : ∀ S Q out, TopLt 3 S → (∀ x ∈ Q, 3 ≤ clo x) → ∃ Q1 out1, (∀ x ∈ Q1, 3 ≤ clo x) ∧ out1 ++ Q1 = out ++ Q ++ (e ++ [op]) ∧ Rch fk fv (false, Q ++ S, o, lv, j, out) (false, Q1 ++ S, o, lv1, j1, out1) := by
                intro S Q out hS hQ
                obtain ⟨Q1, out1, hQ1, hO, hR⟩ := h4 (op :: S) (out ++ Q) (htp S)
                refine ⟨Q1 ++ [op], out1, ?_, ?_, ?_⟩
                · intro x hx
                  rcases List.mem_append.mp hx with hx | hx
                  · have := hQ1 x hx; omega
                  · rw [List.mem_singleton.mp hx, hco]; exact Nat.le_refl _
                · rw [← List.append_assoc, hO, List.append_assoc, List.append_assoc]
                · have := (hop S Q out hS hQ).tr hR
                  rw [List.append_assoc, List.singleton_append]
                  exact this
              rcases ht with ⟨t0, h6⟩ | ⟨t1, e2, lv2, j2, h6, h7, h8⟩
              · refine Or.inl ⟨t0, fun S Q out hS hQ => ?_⟩
                obtain ⟨Q1, out1, hQ1, hO, hR⟩ := hstep S Q out hS hQ
                exact hR.fl (h6 S Q1 out1 hS hQ1)
              · refine Or.inr ⟨t1, (e ++ [op]) ++ e2, lv2, j2, SOkq.tr hc0 h5 h6, h7, fun S Q out hS hQ => ?_⟩
                obtain ⟨Q1, out1, hQ1, hO, hR⟩ := hstep S Q out hS hQ
                obtain ⟨Q2, out2, hQ2, hO2, hR2⟩ := h8 S Q1 out1 hS hQ1
                exact ⟨Q2, out2, hQ2, by rw [hO2, hO]; simp only [List.append_assoc], hR.tr hR2⟩
      cases n with
      | zero => exact Par.no
      | succ n =>
        rw [L_X3_takeTerm_e1]; unfold B_X3_takeTerm_1
        refine Par.not (by rw [Int32.le_iff_toInt_le]; simp only [Int32.reduceToInt]; omega) ?_
        refine Par.br (fun h => ?_) (fun h1 => Par.br (fun h => ?_) (fun h2 => ?_))
        · cases n with
          | zero => exact Par.no
          | succ n =>
            rw [L_X3_takeTerm_e2]; unfold B_X3_takeTerm_2
            refine Par.yes h ?_
            exact hgo n 42 18 (by rw [← hk]; exact h) (by decide) (by decide) (by decide) (by decide) (fun _ => rfl) (by omega)
        · cases n with
          | zero => exact Par.no
          | succ n =>
            rw [L_X3_takeTerm_e2]; unfold B_X3_takeTerm_2
            refine Par.not h1 ?_
            exact hgo n 38 19 (by rw [← hk]; exact h) (by decide) (by decide) (by decide) (by decide) (fun _ => rfl) (by omega)
        · exact hend n 0 (by rw [← hk]; exact h1) (by rw [← hk]; exact h2)
  show Par (L_X3_takeTerm K cS cT cF cC K 0 l1 0 0 ops cl mn at_ kd vl pl fk fv fp cs f) (PenP 3 mn fk fv o lv j cl cs f)
  generalize hn : L_X3_takeTerm K cS cT cF cC K 0 l1 0 0 ops cl mn at_ kd vl pl fk fv fp cs f = z
  obtain ⟨n, hn2⟩ : ∃ n9, K = n9 + 1 := ⟨K - 1, by omega⟩
  have hz : z = L_X3_takeTerm K cS cT cF cC (n + 1) 0 l1 0 0 ops cl mn at_ kd vl pl fk fv fp cs f := by rw [← hn2, hn]
  clear hn
  have hCs0 := hCs
  obtain ⟨ha, hj, hk, hv, hc0, hc1⟩ := hCs
  rw [hz, L_X3_takeTerm_e0]; unfold B_X3_takeTerm_0
  refine Par.bd (hX l1 ops cl mn at_ kd vl pl fk fv fp cs f o lv j hSt hCs0 hl1 ho0 ho hops hlv True.intro) (fun r hr => ?_)
  rcases hr with ⟨r0, h2⟩ | ⟨r1, e, lv1, j1, h2, h3, hcl1, h4⟩
  · exact Par.yes r0 (Par.ret (Or.inl ⟨rfl, fun S out hS => h2 S out hS.up⟩))
  · refine Par.not (by rw [r1]; decide) ?_
    have h2' := h2
    obtain ⟨a1, a2, a3, a4, a5, a6⟩ := h2'
    refine (hlp n 0 0 r.2.1 r.2.2.1 r.2.2.2.1 r.2.2.2.2.1 r.2.2.2.2.2.1 r.2.2.2.2.2.2.1 r.2.2.2.2.2.2.2.1 r.2.2.2.2.2.2.2.2 lv1 j1 a3 a1 a2 hcl1 (by decide) (by simp only [Int32.reduceToInt]; omega)).mono (fun t ht => ?_)
    rcases ht with ⟨t0, h6⟩ | ⟨t1, e2, lv2, j2, h6, h7, h8⟩
    · refine Or.inl ⟨t0, fun S out hS => ?_⟩
      obtain ⟨Q1, out1, hQ1, hO, hR⟩ := h4 S out hS.up
      exact hR.fl (h6 S Q1 out1 hS (fun x hx => Nat.le_of_succ_le (hQ1 x hx)))
    · have h9 := h6.2.2.2.2.1
      refine Or.inr ⟨t1, e ++ e2, lv2, j2, SOkq.tr hc0 h2 h6, by omega, h7, fun S out hS => ?_⟩
      obtain ⟨Q1, out1, hQ1, hO, hR⟩ := h4 S out hS.up
      obtain ⟨Q2, out2, hQ2, hO2, hR2⟩ := h8 S Q1 out1 hS (fun x hx => Nat.le_of_succ_le (hQ1 x hx))
      exact ⟨Q2, out2, hQ2, by rw [hO2, hO, List.append_assoc], hR.tr hR2⟩
set_option maxHeartbeats 4000000 in
set_option maxRecDepth 100000 in
theorem Q_X3_takeSum (K : Nat) (hK : 1000000000 ≤ K) (cS cT cF cC : Int32 → Int32 → Int32 → Int32 → Int32 → Int32 → Int32 → Int32 → (Nat → Int32) → (Nat → Int32) → (Nat → Int32) → Int32 → (Nat → Int32) → Option R9t) (hX : SpF (PenP 3) (fun _ _ => True) cT) :
    SpF (PenP 2) (fun _ _ => True) (fun l1 ops cl mn at_ kd vl pl fk fv fp cs f => L_X3_takeSum K cS cT cF cC K 0 l1 0 0 ops cl mn at_ kd vl pl fk fv fp cs f) := by
  intro l1 ops cl mn at_ kd vl pl fk fv fp cs f o lv j hSt hCs hl1 ho0 ho hops hlv _
  have hmn := hSt.2.1
  have hlp : ∀ n : Nat, ∀ (l2 s0 ops cl at_ kd vl pl cs : Int32) (f : Nat → Int32) (lv j : Nat), CSt mn fk fv j at_ kd vl pl cs → ops.toInt = (lv : Int) → lv ≤ 24 → clo (fk j) < 3 → 0 ≤ l2.toInt → 2 * l2.toInt ≤ (j : Int) →
      Par (L_X3_takeSum K cS cT cF cC n 1 l1 l2 s0 ops cl mn at_ kd vl pl fk fv fp cs f) (LooP 2 mn fk fv o lv j cl cs f) := by
    intro n
    induction n using Nat.strongRecOn with
    | ind n ih =>
      intro l2 s0 ops cl at_ kd vl pl cs f lv j hCs hops hlv hcl h20 h2j
      have hCs0 := hCs
      obtain ⟨ha, hj, hk, hv, hc0, hc1⟩ := hCs
      have hend : ∀ m s1, fk j ≠ 43 → fk j ≠ 45 → Par (L_X3_takeSum K cS cT cF cC m 4 l1 l2 s1 ops cl mn at_ kd vl pl fk fv fp cs f) (LooP 2 mn fk fv o lv j cl cs f) := by
        intro m s1 h1 h2
        cases m with
        | zero => exact Par.no
        | succ m =>
          rw [L_X3_takeSum_e4]; unfold B_X3_takeSum_4
          refine Par.ret (Or.inr ⟨rfl, [], lv, j, ⟨hops, hlv, hCs0, EMt.rf, by simp, rfl⟩, clo_of2 hcl h1 h2, fun S Q out hS hQ => ⟨Q, out, hQ, by simp, Rch.rf⟩⟩)
      have hgo : ∀ m op s1, fk j = op → clo op = 2 → op ≠ 33 → op ≠ 0 → s1 = encc op → (∀ c : Int32, CMk [op] c = c) → m < n → Par (L_X3_takeSum K cS cT cF cC m 3 l1 l2 s1 ops cl mn at_ kd vl pl fk fv fp cs f) (LooP 2 mn fk fv o lv j cl cs f) := by
        intro m op s1 hkj hco h33 hz0 hs1 hcm hmn'
        cases m with
        | zero => exact Par.no
        | succ m =>
          rw [L_X3_takeSum_e3]; unfold B_X3_takeSum_3
          refine Par.bd (E_X7_advance K hK mn at_ kd vl pl fk fv fp j hSt ha hj (by rw [hkj]; exact hz0)) (fun a hA => ?_)
          refine Par.bd (hX l1 ops cl mn a.1 a.2.1 a.2.2.1 a.2.2.2 fk fv fp cs f o lv (j + 1) hSt ⟨hA.1, hA.2.1, hA.2.2.1, hA.2.2.2, hc0, by omega⟩ hl1 ho0 ho hops hlv True.intro) (fun r hr => ?_)
          have hop : ∀ S Q out, TopLt 2 S → (∀ x ∈ Q, 2 ≤ clo x) → Rch fk fv (false, Q ++ S, o, lv, j, out) (true, op :: S, o, lv, j + 1, out ++ Q) := fun S Q out hS hQ => by
            have := sb_op (k := fk) (v := fv) (S := Q ++ S) (o := o) (lv := lv) (j := j) (out := out) (Or.inl (by rw [hkj, hco]; omega))
            rw [hkj, hco, popGe_all hS Q out hQ] at this
            exact this
          have htp : ∀ S : List Int32, TopLt 3 (op :: S) := fun S => ⟨by rw [hco]; omega, h33⟩
          rcases hr with ⟨r0, h2⟩ | ⟨r1, e, lv1, j1, h2, h3, hcl1, h4⟩
          · exact Par.yes r0 (Par.ret (Or.inl ⟨rfl, fun S Q out hS hQ => (hop S Q out hS hQ).fl (h2 _ _ (htp S))⟩))
          · refine Par.not (by rw [r1]; decide) ?_
            have h2' := h2
            obtain ⟨a1, a2, ⟨c1, c2, c3, c4, c5, c6⟩, a4, a5, a6⟩ := h2'
            have hl := a4.1
            refine Par.bd (E_X4_emit K hK s1 _ _ c5 (by omega)) (fun q hq => ?_)
            have h5 : SOkq mn fk fv j cl cs f (1, r.2.1, r.2.2.1, r.2.2.2.1, r.2.2.2.2.1, r.2.2.2.2.2.1, r.2.2.2.2.2.2.1, q.1, q.2) (e ++ [op]) lv1 j1 := SOkq.em hc0 op s1 _ _ 1 h2 hq.1 hq.2 hs1 hc1 hcm
            have h5' := h5
            obtain ⟨d1, d2, d3, d4, d5, d6⟩ := h5'
            refine (ih m (by omega) (l2 + 1) 0 r.2.1 r.2.2.1 r.2.2.2.1 r.2.2.2.2.1 r.2.2.2.2.2.1 r.2.2.2.2.2.2.1 q.1 q.2 lv1 j1 d3 d1 d2 hcl1 ?_ ?_).mono (fun t ht => ?_)
            · simp only [Int32.toInt_add, Int32.reduceToInt]
              rw [bmI (by omega) (by omega)]
              omega
            · simp only [Int32.toInt_add, Int32.reduceToInt]
              rw [bmI (by omega) (by omega)]
              omega
            · have hstep : ∀ S Q out, TopLt 2 S → (∀ x ∈ Q, 2 ≤ clo x) → ∃ Q1 out1, (∀ x ∈ Q1, 2 ≤ clo x) ∧ out1 ++ Q1 = out ++ Q ++ (e ++ [op]) ∧ Rch fk fv (false, Q ++ S, o, lv, j, out) (false, Q1 ++ S, o, lv1, j1, out1) := by
                intro S Q out hS hQ
                obtain ⟨Q1, out1, hQ1, hO, hR⟩ := h4 (op :: S) (out ++ Q) (htp S)
                refine ⟨Q1 ++ [op], out1, ?_, ?_, ?_⟩
                · intro x hx
                  rcases List.mem_append.mp hx with hx | hx
                  · have := hQ1 x hx; omega
                  · rw [List.mem_singleton.mp hx, hco]; exact Nat.le_refl _
                · rw [← List.append_assoc, hO, List.append_assoc, List.append_assoc]
                · have := (hop S Q out hS hQ).tr hR
                  rw [List.append_assoc, List.singleton_append]
                  exact this
              rcases ht with ⟨t0, h6⟩ | ⟨t1, e2, lv2, j2, h6, h7, h8⟩
              · refine Or.inl ⟨t0, fun S Q out hS hQ => ?_⟩
                obtain ⟨Q1, out1, hQ1, hO, hR⟩ := hstep S Q out hS hQ
                exact hR.fl (h6 S Q1 out1 hS hQ1)
              · refine Or.inr ⟨t1, (e ++ [op]) ++ e2, lv2, j2, SOkq.tr hc0 h5 h6, h7, fun S Q out hS hQ => ?_⟩
                obtain ⟨Q1, out1, hQ1, hO, hR⟩ := hstep S Q out hS hQ
                obtain ⟨Q2, out2, hQ2, hO2, hR2⟩ := h8 S Q1 out1 hS hQ1
                exact ⟨Q2, out2, hQ2, by rw [hO2, hO]; simp only [List.append_assoc], hR.tr hR2⟩
      cases n with
      | zero => exact Par.no
      | succ n =>
        rw [L_X3_takeSum_e1]; unfold B_X3_takeSum_1
        refine Par.not (by rw [Int32.le_iff_toInt_le]; simp only [Int32.reduceToInt]; omega) ?_
        refine Par.br (fun h => ?_) (fun h1 => Par.br (fun h => ?_) (fun h2 => ?_))
        · cases n with
          | zero => exact Par.no
          | succ n =>
            rw [L_X3_takeSum_e2]; unfold B_X3_takeSum_2
            refine Par.yes h ?_
            exact hgo n 43 16 (by rw [← hk]; exact h) (by decide) (by decide) (by decide) (by decide) (fun _ => rfl) (by omega)
        · cases n with
          | zero => exact Par.no
          | succ n =>
            rw [L_X3_takeSum_e2]; unfold B_X3_takeSum_2
            refine Par.not h1 ?_
            exact hgo n 45 17 (by rw [← hk]; exact h) (by decide) (by decide) (by decide) (by decide) (fun _ => rfl) (by omega)
        · exact hend n 0 (by rw [← hk]; exact h1) (by rw [← hk]; exact h2)
  show Par (L_X3_takeSum K cS cT cF cC K 0 l1 0 0 ops cl mn at_ kd vl pl fk fv fp cs f) (PenP 2 mn fk fv o lv j cl cs f)
  generalize hn : L_X3_takeSum K cS cT cF cC K 0 l1 0 0 ops cl mn at_ kd vl pl fk fv fp cs f = z
  obtain ⟨n, hn2⟩ : ∃ n9, K = n9 + 1 := ⟨K - 1, by omega⟩
  have hz : z = L_X3_takeSum K cS cT cF cC (n + 1) 0 l1 0 0 ops cl mn at_ kd vl pl fk fv fp cs f := by rw [← hn2, hn]
  clear hn
  have hCs0 := hCs
  obtain ⟨ha, hj, hk, hv, hc0, hc1⟩ := hCs
  rw [hz, L_X3_takeSum_e0]; unfold B_X3_takeSum_0
  refine Par.bd (hX l1 ops cl mn at_ kd vl pl fk fv fp cs f o lv j hSt hCs0 hl1 ho0 ho hops hlv True.intro) (fun r hr => ?_)
  rcases hr with ⟨r0, h2⟩ | ⟨r1, e, lv1, j1, h2, h3, hcl1, h4⟩
  · exact Par.yes r0 (Par.ret (Or.inl ⟨rfl, fun S out hS => h2 S out hS.up⟩))
  · refine Par.not (by rw [r1]; decide) ?_
    have h2' := h2
    obtain ⟨a1, a2, a3, a4, a5, a6⟩ := h2'
    refine (hlp n 0 0 r.2.1 r.2.2.1 r.2.2.2.1 r.2.2.2.2.1 r.2.2.2.2.2.1 r.2.2.2.2.2.2.1 r.2.2.2.2.2.2.2.1 r.2.2.2.2.2.2.2.2 lv1 j1 a3 a1 a2 hcl1 (by decide) (by simp only [Int32.reduceToInt]; omega)).mono (fun t ht => ?_)
    rcases ht with ⟨t0, h6⟩ | ⟨t1, e2, lv2, j2, h6, h7, h8⟩
    · refine Or.inl ⟨t0, fun S out hS => ?_⟩
      obtain ⟨Q1, out1, hQ1, hO, hR⟩ := h4 S out hS.up
      exact hR.fl (h6 S Q1 out1 hS (fun x hx => Nat.le_of_succ_le (hQ1 x hx)))
    · have h9 := h6.2.2.2.2.1
      refine Or.inr ⟨t1, e ++ e2, lv2, j2, SOkq.tr hc0 h2 h6, by omega, h7, fun S out hS => ?_⟩
      obtain ⟨Q1, out1, hQ1, hO, hR⟩ := h4 S out hS.up
      obtain ⟨Q2, out2, hQ2, hO2, hR2⟩ := h8 S Q1 out1 hS (fun x hx => Nat.le_of_succ_le (hQ1 x hx))
      exact ⟨Q2, out2, hQ2, by rw [hO2, hO, List.append_assoc], hR.tr hR2⟩
set_option maxHeartbeats 4000000 in
set_option maxRecDepth 100000 in
theorem Q_X3_takeComparison (K : Nat) (hK : 1000000000 ≤ K) (cS cT cF cC : Int32 → Int32 → Int32 → Int32 → Int32 → Int32 → Int32 → Int32 → (Nat → Int32) → (Nat → Int32) → (Nat → Int32) → Int32 → (Nat → Int32) → Option R9t) (hS : SpF (PenP 2) (fun _ _ => True) cS) :
    SpF CmpP (fun fk j => clo (fk j) < 2) (fun l1 ops cl mn at_ kd vl pl fk fv fp cs f => L_X3_takeComparison K cS cT cF cC K 0 l1 0 ops cl mn at_ kd vl pl fk fv fp cs f) := by
  intro l1 ops cl mn at_ kd vl pl fk fv fp cs f o lv j hSt hCs hl1 ho0 ho hops hlv hcl
  have hmn := hSt.2.1
  have hCs0 := hCs
  obtain ⟨ha, hj, hk, hv, hc0, hc1⟩ := hCs
  have hgo : ∀ m op s1, fk j = op → clo op = 1 → op ≠ 33 → op ≠ 0 → s1 = encc op → (∀ c : Int32, CMk [op] c = c) → Par (L_X3_takeComparison K cS cT cF cC m 2 l1 s1 ops cl mn at_ kd vl pl fk fv fp cs f) (CmpP mn fk fv o lv j cl cs f) := by
    intro m op s1 hkj hco h33 hz0 hs1 hcm
    cases m with
    | zero => exact Par.no
    | succ m =>
      rw [L_X3_takeComparison_e2]; unfold B_X3_takeComparison_2
      refine Par.bd (E_X7_advance K hK mn at_ kd vl pl fk fv fp j hSt ha hj (by rw [hkj]; exact hz0)) (fun a hA => ?_)
      refine Par.bd (hS l1 ops cl mn a.1 a.2.1 a.2.2.1 a.2.2.2 fk fv fp cs f o lv (j + 1) hSt ⟨hA.1, hA.2.1, hA.2.2.1, hA.2.2.2, hc0, by omega⟩ hl1 ho0 ho hops hlv True.intro) (fun r hr => ?_)
      have hop : ∀ S Q out, (∀ x ∈ Q, 2 ≤ clo x) → Rch fk fv (false, Q ++ 40 :: S, o, lv, j, out) (true, op :: 40 :: S, o, lv, j + 1, out ++ Q) := fun S Q out hQ => by
        have := sb_op (k := fk) (v := fv) (S := Q ++ 40 :: S) (o := o) (lv := lv) (j := j) (out := out) (Or.inr ⟨by rw [hkj, hco], mayC_q Q S (fun x hx => hQ x hx)⟩)
        rw [hkj, hco, popGe_all (c := 1) (S := 40 :: S) ⟨by rw [clo40]; omega, by decide⟩ Q out (fun x hx => Nat.le_of_succ_le (hQ x hx))] at this
        exact this
      have htp : ∀ S : List Int32, TopLt 2 (op :: S) := fun S => ⟨by rw [hco]; omega, h33⟩
      rcases hr with ⟨r0, h2⟩ | ⟨r1, e, lv1, j1, h2, h3, hcl1, h4⟩
      · exact Par.yes r0 (Par.ret (Or.inl ⟨rfl, fun S Q out hQ => (hop S Q out hQ).fl (h2 _ _ (htp _))⟩))
      · refine Par.not (by rw [r1]; decide) ?_
        have h2' := h2
        obtain ⟨a1, a2, ⟨c1, c2, c3, c4, c5, c6⟩, a4, a5, a6⟩ := h2'
        have hl := a4.1
        refine Par.bd (E_X4_emit K hK s1 _ _ c5 (by omega)) (fun q hq => ?_)
        refine Par.ret (Or.inr ⟨rfl, e ++ [op], lv1, j1, SOkq.em hc0 op s1 _ _ 1 h2 hq.1 hq.2 hs1 hc1 hcm, fun S Q out hQ => ?_⟩)
        obtain ⟨Q1, out1, hQ1, hO, hR⟩ := h4 (op :: 40 :: S) (out ++ Q) (htp _)
        refine ⟨Q1 ++ [op], out1, ?_, ?_, ?_, ?_⟩
        · intro x hx
          rcases List.mem_append.mp hx with hx | hx
          · have := hQ1 x hx; omega
          · rw [List.mem_singleton.mp hx, hco]; exact Nat.one_pos
        · rw [← List.append_assoc, hO, List.append_assoc, List.append_assoc]
        · have := (hop S Q out hQ).tr hR
          rw [List.append_assoc, List.singleton_append]
          exact this
        · rw [List.append_assoc, List.singleton_append]
          rintro (h9 | ⟨_, h9⟩)
          · omega
          · rw [mayC_n Q1 op (40 :: S) (fun x hx => hQ1 x hx) hco] at h9
            cases h9
  show Par (L_X3_takeComparison K cS cT cF cC K 0 l1 0 ops cl mn at_ kd vl pl fk fv fp cs f) (CmpP mn fk fv o lv j cl cs f)
  generalize hn : L_X3_takeComparison K cS cT cF cC K 0 l1 0 ops cl mn at_ kd vl pl fk fv fp cs f = z
  obtain ⟨n, hn2⟩ : ∃ n9, K = n9 + 1 + 1 := ⟨K - 2, by omega⟩
  have hz : z = L_X3_takeComparison K cS cT cF cC (n + 1 + 1) 0 l1 0 ops cl mn at_ kd vl pl fk fv fp cs f := by rw [← hn2, hn]
  clear hn
  rw [hz, L_X3_takeComparison_e0]; unfold B_X3_takeComparison_0
  refine Par.br (fun h => ?_) (fun h1 => Par.br (fun h => ?_) (fun h2 => ?_))
  · rw [L_X3_takeComparison_e1]; unfold B_X3_takeComparison_1
    refine Par.yes h ?_
    exact hgo n 60 21 (by rw [← hk]; exact h) (by decide) (by decide) (by decide) (by decide) (fun _ => rfl)
  · rw [L_X3_takeComparison_e1]; unfold B_X3_takeComparison_1
    refine Par.not h1 ?_
    exact hgo n 61 22 (by rw [← hk]; exact h) (by decide) (by decide) (by decide) (by decide) (fun _ => rfl)
  · have hc9 : clo (fk j) = 0 := clo_of1 hcl (by rw [← hk]; exact h1) (by rw [← hk]; exact h2)
    refine Par.ret (Or.inr ⟨rfl, [], lv, j, ⟨hops, hlv, hCs0, EMt.rf, by simp, rfl⟩, fun S Q out hQ => ⟨Q, out, fun x hx => Nat.lt_of_succ_lt (hQ x hx), by simp, Rch.rf, ?_⟩⟩)
    rw [hc9]
    rintro (h9 | ⟨h9, _⟩) <;> omega
theorem SpF.pen {cal : Int32 → Int32 → Int32 → Int32 → Int32 → Int32 → Int32 → Int32 → (Nat → Int32) → (Nat → Int32) → (Nat → Int32) → Int32 → (Nat → Int32) → Option R9t} (h : SpF FacP (fun _ _ => True) cal) : SpF (PenP 4) (fun _ _ => True) cal :=
  fun l1 ops cl mn at_ kd vl pl fk fv fp cs f o lv j a b c d e g h9 i9 => (h l1 ops cl mn at_ kd vl pl fk fv fp cs f o lv j a b c d e g h9 i9).mono (fun _ hr => hr.pen)
theorem Q_sum_d (K : Nat) (hK : 1000000000 ≤ K) : ∀ d : Nat, SpF (PenP 2) (fun _ _ => True) (DD_sum K d).1 ∧ SpF (PenP 3) (fun _ _ => True) (DD_sum K d).2.1 ∧ SpF FacP (fun _ _ => True) (DD_sum K d).2.2.1 ∧ SpF CmpP (fun fk j => clo (fk j) < 2) (DD_sum K d).2.2.2 := by
  intro d
  induction d with
  | zero =>
    refine ⟨?_, ?_, ?_, ?_⟩ <;> (intro l1; intros; exact Par.no)
  | succ d ih =>
    obtain ⟨h1, h2, h3, h4⟩ := ih
    exact ⟨Q_X3_takeSum K hK _ _ _ _ h2, Q_X3_takeTerm K hK _ _ _ _ h3.pen, Q_X3_takeFactor K hK _ _ _ _ h3 h1 h4, Q_X3_takeComparison K hK _ _ _ _ h1⟩
theorem Q_X3_sum (K : Nat) (hK : 1000000000 ≤ K) : SpF (PenP 2) (fun _ _ => True) (F_X3_takeSum K) := (Q_sum_d K hK 48).1
/-- a whole sum from the class, and the machine's end -/
theorem Q_X3_whole (K : Nat) (hK : 1000000000 ≤ K) (cl mn at_ kd vl pl : Int32) (fk fv fp : Nat → Int32) (cs : Int32) (f : Nat → Int32) (j : Nat) (hSt : STRq mn fk fv fp) (hCs : CSt mn fk fv j at_ kd vl pl cs) :
    Par (F_X3_takeSum K 0 0 cl mn at_ kd vl pl fk fv fp cs f) (fun r => (r.1 = 0 ∧ Fls fk fv (true, [], 0, 0, j, [])) ∨ (r.1 = 1 ∧ ∃ (e : List Int32) (lv' j' : Nat), SOkq mn fk fv j cl cs f r e lv' j' ∧ j < j' ∧ Hlt fk fv (true, [], 0, 0, j, []) (j', e))) := by
  refine (Q_X3_sum K hK 0 0 cl mn at_ kd vl pl fk fv fp cs f 0 0 j hSt hCs (by decide) (by omega) (by omega) (by decide) (by omega) True.intro).mono (fun r hr => ?_)
  rcases hr with ⟨r0, h2⟩ | ⟨r1, e, lv1, j1, h2, h3, hcl1, h4⟩
  · exact Or.inl ⟨r0, h2 [] [] True.intro⟩
  · obtain ⟨Q, out1, hQ, hO, hR⟩ := h4 [] [] True.intro
    refine Or.inr ⟨r1, e, lv1, j1, h2, h3, ?_⟩
    rw [List.append_nil] at hR
    have hE := sb_end (k := fk) (v := fv) (S := Q) (o := 0) (lv := lv1) (j := j1) (out := out1) (by rw [mayC_e Q (fun x hx => hQ x hx)]; rintro (h | ⟨_, h⟩) <;> first | omega | cases h) (hasO_e Q (fun x hx => Nat.lt_of_succ_lt (hQ x hx)))
    rw [hO, List.nil_append] at hE
    exact hR.hl hE
