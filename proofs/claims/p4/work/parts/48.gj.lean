/-! p3: braces, loops, ifs, statements of the class against the machine -/
theorem get_at (D X : List Int32) (x : Int32) : (D ++ [x] ++ X)[D.length]? = some x := by simp
theorem E_X3_take0 (K : Nat) (hK : 1000000000 ≤ K) (kd9 mn at_ kd vl pl : Int32) (fk fv fp : Nat → Int32) (j : Nat) (cs : Int32) (hS : STRq mn fk fv fp) (hC : CSt mn fk fv j at_ kd vl pl cs) (h9 : kd9 ≠ 0) :
    Par (F_X3_take K kd9 mn at_ kd vl pl fk fv fp) (fun r => (r.1 = 0 ∧ fk j ≠ kd9 ∧ CSt mn fk fv j r.2.1 r.2.2.1 r.2.2.2.1 r.2.2.2.2 cs) ∨ (r.1 = 1 ∧ fk j = kd9 ∧ CSt mn fk fv (j + 1) r.2.1 r.2.2.1 r.2.2.2.1 r.2.2.2.2 cs)) := by
  have hC0 := hC
  obtain ⟨ha, hj, hk, hv, hc0, hc1⟩ := hC
  unfold F_X3_take
  obtain ⟨n, rfl⟩ : ∃ n9, K = n9 + 1 := ⟨K - 1, by omega⟩
  rw [L_X3_take_e0]; unfold B_X3_take_0
  refine Par.br (fun h => ?_) (fun h => ?_)
  · have hk9 : fk j = kd9 := by rw [← hk]; exact h
    refine Par.bd (E_X7_advance _ hK mn at_ kd vl pl fk fv fp j hS ha hj (by rw [hk9]; exact h9)) (fun r hr => ?_)
    exact Par.ret (Or.inr ⟨rfl, hk9, hr.1, hr.2.1, hr.2.2.1, hr.2.2.2, hc0, by omega⟩)
  · exact Par.ret (Or.inl ⟨rfl, by rw [← hk]; exact h, hC0⟩)
theorem E_X4_append (K : Nat) (hK : 1000000000 ≤ K) (l1 : Int32) (LL : List Nat) (sv : Nat → Nat → Int32) (sz : Int32) (ppg : Nat → Option Nat) (d : Nat) (h : sz.toInt = (d : Int)) (hd : d < 30) :
    Par (F_X4_append K l1 LL sv sz ppg) (fun r => r.2.2.toInt = (d : Int) + 1) := by
  unfold F_X4_append
  obtain ⟨n, rfl⟩ : ∃ n9, K = n9 + 1 := ⟨K - 1, by omega⟩
  rw [L_X4_append_e0]; unfold B_X4_append_0
  have hi : (if 29 < sz then 29 else sz) = sz := by
    rw [if_neg]
    rw [Int32.lt_iff_toInt_lt]; simp only [Int32.reduceToInt]; omega
  rw [hi]
  have hs : (sz + 1).toInt = (d : Int) + 1 := by rw [ad1 sz d h (by omega)]; rfl
  refine Par.br (fun _ => ?_) (fun _ => Par.no)
  refine Par.bd (P := fun _ => True) (fun _ _ => True.intro) (fun a _ => ?_)
  refine Par.br (fun _ => ?_) (fun _ => Par.no)
  refine Par.bd (P := fun _ => True) (fun _ _ => True.intro) (fun q _ => ?_)
  refine Par.br (fun _ => ?_) (fun _ => Par.no)
  refine Par.bd (P := fun _ => True) (fun _ _ => True.intro) (fun a2 _ => ?_)
  exact Par.br (fun _ => Par.ret hs) (fun _ => Par.no)
theorem E_X4_isFull (K : Nat) (hK : 1000000000 ≤ K) (sz : Int32) : Par (F_X4_isFull K sz) (fun r => (r = 0 ∧ sz.toInt < 30) ∨ (r = 1 ∧ 30 ≤ sz.toInt)) := by
  unfold F_X4_isFull
  obtain ⟨n, rfl⟩ : ∃ n9, K = n9 + 1 := ⟨K - 1, by omega⟩
  rw [L_X4_isFull_e0]; unfold B_X4_isFull_0
  refine Par.br (fun h => Par.ret (Or.inl ⟨rfl, ?_⟩)) (fun h => Par.ret (Or.inr ⟨rfl, ?_⟩)) <;> rw [Int32.lt_iff_toInt_lt] at h <;> simp only [Int32.reduceToInt] at h <;> omega
theorem E_X3_begins (K : Nat) (hK : 1000000000 ≤ K) (kd : Int32) : Par (F_X3_beginsStatement K kd) (fun r => (r = 0 ∧ ¬ begK kd) ∨ (r = 1 ∧ begK kd)) := by
  unfold F_X3_beginsStatement
  have h1 : ∀ n a, begK kd → Par (L_X3_beginsStatement K n 1 a kd) (fun r => (r = 0 ∧ ¬ begK kd) ∨ (r = 1 ∧ begK kd)) := by
    intro n a hb
    cases n with
    | zero => exact Par.no
    | succ n => rw [L_X3_beginsStatement_e1]; unfold B_X3_beginsStatement_1; exact Par.ret (Or.inr ⟨rfl, hb⟩)
  obtain ⟨n, hn⟩ : ∃ n9, K = n9 + 1 := ⟨K - 1, by omega⟩
  generalize hz : L_X3_beginsStatement K K 0 0 kd = z
  have hz2 : z = L_X3_beginsStatement K (n + 1) 0 0 kd := by rw [← hn, hz]
  rw [hz2, L_X3_beginsStatement_e0]; unfold B_X3_beginsStatement_0
  refine Par.br (fun h => h1 _ _ (Or.inl h)) (fun a1 => Par.br (fun h => h1 _ _ (Or.inr (Or.inl h))) (fun a2 => Par.br (fun h => h1 _ _ (Or.inr (Or.inr (Or.inl h)))) (fun a3 => Par.br (fun h => h1 _ _ (Or.inr (Or.inr (Or.inr h)))) (fun a4 => Par.ret (Or.inl ⟨rfl, ?_⟩)))))
  rintro (h | h | h | h) <;> contradiction
theorem Q_X3_takeBraced (K : Nat) (hK : 1000000000 ≤ K) (cS cT : CStT) (cI cL : Nat → CStT) (cB : CStT) (hS : SpS cS) :
    SpB (fun l1 l2 LL sv ops cl mn at_ kd vl pl fk fv fp sz cs ou us ppg ppk => L_X3_takeBraced K cS cT cI cL cB K 0 l1 l2 LL sv ops cl mn at_ kd vl pl fk fv fp sz cs ou us ppg ppk) := by
  intro l1 l2 LL sv ops cl mn at_ kd vl pl fk fv fp sz cs ou us ppg ppk D b j hSt hCs hl2 hb hsz hD ho
  have hf : ∀ n b0 b1 s c1 c2 c3 c4 c5 c6 c7 c8 c9 c10 c11, Par (L_X3_takeBraced K cS cT cI cL cB n 1 b0 b1 LL s c1 c2 mn c3 c4 c5 c6 fk fv fp c7 c8 c9 c10 ppg c11) (fun r => r.1 = 0) := by
    intro n; intros
    cases n with
    | zero => exact Par.no
    | succ n => rw [L_X3_takeBraced_e1]; unfold B_X3_takeBraced_1; exact Par.ret rfl
  show Par (L_X3_takeBraced K cS cT cI cL cB K 0 l1 l2 LL sv ops cl mn at_ kd vl pl fk fv fp sz cs ou us ppg ppk) (BrcP mn fk fv D b j)
  generalize hz : L_X3_takeBraced K cS cT cI cL cB K 0 l1 l2 LL sv ops cl mn at_ kd vl pl fk fv fp sz cs ou us ppg ppk = z
  obtain ⟨n, hn⟩ : ∃ n9, K = n9 + 1 := ⟨K - 1, by omega⟩
  have hz2 : z = L_X3_takeBraced K cS cT cI cL cB (n + 1) 0 l1 l2 LL sv ops cl mn at_ kd vl pl fk fv fp sz cs ou us ppg ppk := by rw [← hn, hz]
  rw [hz2, L_X3_takeBraced_e0]; unfold B_X3_takeBraced_0
  refine Par.br (fun h => ?_) (fun h => ?_)
  · rw [Int32.le_iff_toInt_le] at h
    simp only [Int32.reduceToInt] at h
    exact (hf _ _ _ _ _ _ _ _ _ _ _ _ _ _ _).mono (fun r hr => Or.inl ⟨hr, Or.inl (fun h9 => by omega)⟩)
  · rw [Int32.le_iff_toInt_le] at h
    simp only [Int32.reduceToInt] at h
    refine Par.bd (E_X3_take K hK 123 mn at_ kd vl pl fk fv fp j cs hSt hCs (by decide)) (fun p hp => ?_)
    rcases hp with ⟨e1, e2⟩ | ⟨e1, e2, e3⟩
    · refine Par.yes e1 ?_
      exact (hf _ _ _ _ _ _ _ _ _ _ _ _ _ _ _).mono (fun r hr => Or.inl ⟨hr, Or.inl (fun h9 => e2 h9.1)⟩)
    · refine Par.not (by rw [e1]; decide) ?_
      have hok : fk j = 123 ∧ b < 6 := ⟨e2, by omega⟩
      refine Par.bd (hS l1 (l2 + 1) LL sv ops cl mn _ _ _ _ fk fv fp sz cs ou us ppg ppk D (b + 1) (j + 1) hSt e3 (ad1 l2 b hl2 (by omega)) (by omega) hsz hD ho) (fun q hq => ?_)
      rcases hq with ⟨g1, g2⟩ | ⟨g1, X, j', g2, g3, g4⟩
      · refine Par.yes g1 ?_
        exact (hf _ _ _ _ _ _ _ _ _ _ _ _ _ _ _).mono (fun r hr => Or.inl ⟨hr, Or.inr ⟨hok, fun i p9 S hS9 => g2 _ (by rw [List.length_cons, hS9])⟩⟩)
      · refine Par.not (by rw [g1]; decide) ?_
        refine Par.bd (E_X3_take K hK 125 mn _ _ _ _ fk fv fp j' _ hSt g2.1 (by decide)) (fun p2 hp2 => ?_)
        rcases hp2 with ⟨i1, i2⟩ | ⟨i1, i2, i3⟩
        · refine Par.yes i1 ?_
          exact (hf _ _ _ _ _ _ _ _ _ _ _ _ _ _ _).mono (fun r hr => Or.inl ⟨hr, Or.inr ⟨hok, fun i p9 S hS9 => (g4 _ (by rw [List.length_cons, hS9])).fl (s_ncl g3 i2)⟩⟩)
        · refine Par.not (by rw [i1]; decide) (Par.ret (Or.inr ⟨rfl, hok, X, j', i2, ⟨i3, g2.2⟩, fun i p9 S hS9 => g4 _ (by rw [List.length_cons, hS9])⟩))
theorem Q_X3_takeLoop (K : Nat) (hK : 1000000000 ≤ K) (cS cT : CStT) (cI cL : Nat → CStT) (cB : CStT) (hB : SpB cB) :
    SpI 7 (fun a1 l2 l3 LL sv ops cl mn at_ kd vl pl fk fv fp sz cs ou us ppg ppk => L_X3_takeLoop K cS cT cI cL cB K 0 a1 l2 l3 LL sv ops cl mn at_ kd vl pl fk fv fp sz cs ou us ppg ppk) := by
  intro a1 l2 l3 LL sv ops cl mn at_ kd vl pl fk fv fp sz cs ou us ppg ppk D b j hSt hCs hl3 hb hsz hD ho hk
  have hf : ∀ n b0 b1 b2 s c1 c2 c3 c4 c5 c6 c7 c8 c9 c10 c11, Par (L_X3_takeLoop K cS cT cI cL cB n 1 b0 b1 b2 LL s c1 c2 mn c3 c4 c5 c6 fk fv fp c7 c8 c9 c10 ppg c11) (fun r => r.1 = 0) := by
    intro n; intros
    cases n with
    | zero => exact Par.no
    | succ n => rw [L_X3_takeLoop_e1]; unfold B_X3_takeLoop_1; exact Par.br (fun _ => Par.ret rfl) (fun _ => Par.no)
  show Par (L_X3_takeLoop K cS cT cI cL cB K 0 a1 l2 l3 LL sv ops cl mn at_ kd vl pl fk fv fp sz cs ou us ppg ppk) (StnP mn fk fv D b j)
  generalize hz : L_X3_takeLoop K cS cT cI cL cB K 0 a1 l2 l3 LL sv ops cl mn at_ kd vl pl fk fv fp sz cs ou us ppg ppk = z
  obtain ⟨n, hn⟩ : ∃ n9, K = n9 + 1 := ⟨K - 1, by omega⟩
  have hz2 : z = L_X3_takeLoop K cS cT cI cL cB (n + 1) 0 a1 l2 l3 LL sv ops cl mn at_ kd vl pl fk fv fp sz cs ou us ppg ppk := by rw [← hn, hz]
  rw [hz2, L_X3_takeLoop_e0]; unfold B_X3_takeLoop_0
  refine Par.br (fun _ => ?_) (fun _ => Par.no)
  obtain ⟨ha, hj, hkk, hv, hc0, hc1⟩ := hCs
  refine Par.bd (E_X7_advance K hK mn at_ kd vl pl fk fv fp j hSt ha hj (by rw [hk]; decide)) (fun q hq => ?_)
  have hC1 : CSt mn fk fv (j + 1) q.1 q.2.1 q.2.2.1 q.2.2.2 cs := ⟨hq.1, hq.2.1, hq.2.2.1, hq.2.2.2, hc0, by omega⟩
  refine Par.bd (E_X3_takeNumber K hK a1 8 LL _ mn _ _ _ _ fk fv fp cs (j + 1) hSt hC1) (fun p hp => ?_)
  rcases hp with ⟨e1, e2⟩ | ⟨e1, e2, e3⟩
  · refine Par.yes e1 ?_
    exact (hf _ _ _ _ _ _ _ _ _ _ _ _ _ _ _ _).mono (fun r hr => Or.inl ⟨hr, fun S hS => s_loop1 hk hD e2⟩)
  · refine Par.not (by rw [e1]; decide) ?_
    refine Par.bd (hB l2 l3 LL _ ops cl mn _ _ _ _ fk fv fp sz cs ou us ppg ppk (D ++ [3]) b (j + 2) hSt e3 hl3 hb (by rw [hsz, List.length_append, List.length_singleton]; rfl) (by rw [List.length_append, List.length_singleton]; omega) (by rw [ho, cn1_0 D 3 (by decide)])) (fun w hw => ?_)
    rcases hw with ⟨g1, g2⟩ | ⟨g1, g2, X, j', g3, g4, g5⟩
    · refine Par.yes g1 ?_
      refine (hf _ _ _ _ _ _ _ _ _ _ _ _ _ _ _ _).mono (fun r hr => Or.inl ⟨hr, fun S hS => ?_⟩)
      rcases g2 with g2 | ⟨g2, g3⟩
      · exact s_loop3 hk hD e2 (by rw [hS]; exact g2)
      · exact (s_loop hk hD e2 (by rw [hS]; exact g2)).fl (g3 _ _ S hS)
    · refine Par.not (by rw [g1]; decide) (Par.ret (Or.inr ⟨rfl, [3] ++ X, j' + 1, ?_, by simp, fun S hS => ?_⟩))
      · rw [← List.append_assoc]; exact g4
      · rw [← List.append_assoc]
        refine ((s_loop hk hD e2 (by rw [hS]; exact g2)).tr (g5 _ _ S hS)).tr (s_cl g3 ?_)
        rintro ⟨_, h9, _⟩
        rw [get_at] at h9
        exact absurd h9 (by decide)
theorem Q_X3_takeIf (K : Nat) (hK : 1000000000 ≤ K) (cS cT : CStT) (cI cL : Nat → CStT) (cB : CStT) (hB : SpB cB) :
    SpI 5 (fun a1 l2 l3 LL sv ops cl mn at_ kd vl pl fk fv fp sz cs ou us ppg ppk => L_X3_takeIf K cS cT cI cL cB K 0 a1 l2 l3 LL sv ops cl mn at_ kd vl pl fk fv fp sz cs ou us ppg ppk) := by
  intro a1 l2 l3 LL sv ops cl mn at_ kd vl pl fk fv fp sz cs ou us ppg ppk D b j hSt hCs hl3 hb hsz hD ho hk
  have hf : ∀ n b0 b1 b2 s c1 c2 c3 c4 c5 c6 c7 c8 c9 c10 c11, Par (L_X3_takeIf K cS cT cI cL cB n 1 b0 b1 b2 LL s c1 c2 mn c3 c4 c5 c6 fk fv fp c7 c8 c9 c10 ppg c11) (fun r => r.1 = 0) := by
    intro n; intros
    cases n with
    | zero => exact Par.no
    | succ n => rw [L_X3_takeIf_e1]; unfold B_X3_takeIf_1; exact Par.br (fun _ => Par.ret rfl) (fun _ => Par.no)
  have hg : ∀ (Q : R13 → Prop) n b0 b1 b2 s c1 c2 c3 c4 c5 c6 c7 c8 c9 c10 c11, Q (1, s, c1, c2, c3, c4, c5, c6, c7, c8, c9, c10, c11) → Par (L_X3_takeIf K cS cT cI cL cB n 2 b0 b1 b2 LL s c1 c2 mn c3 c4 c5 c6 fk fv fp c7 c8 c9 c10 ppg c11) Q := by
    intro Q n b0 b1 b2 s c1 c2 c3 c4 c5 c6 c7 c8 c9 c10 c11 hQ
    cases n with
    | zero => exact Par.no
    | succ n => rw [L_X3_takeIf_e2]; unfold B_X3_takeIf_2; exact Par.br (fun _ => Par.ret hQ) (fun _ => Par.no)
  show Par (L_X3_takeIf K cS cT cI cL cB K 0 a1 l2 l3 LL sv ops cl mn at_ kd vl pl fk fv fp sz cs ou us ppg ppk) (StnP mn fk fv D b j)
  generalize hz : L_X3_takeIf K cS cT cI cL cB K 0 a1 l2 l3 LL sv ops cl mn at_ kd vl pl fk fv fp sz cs ou us ppg ppk = z
  obtain ⟨n, hn⟩ : ∃ n9, K = n9 + 1 := ⟨K - 1, by omega⟩
  have hz2 : z = L_X3_takeIf K cS cT cI cL cB (n + 1) 0 a1 l2 l3 LL sv ops cl mn at_ kd vl pl fk fv fp sz cs ou us ppg ppk := by rw [← hn, hz]
  rw [hz2, L_X3_takeIf_e0]; unfold B_X3_takeIf_0
  refine Par.br (fun _ => ?_) (fun _ => Par.no)
  obtain ⟨ha, hj, hkk, hv, hc0, hc1⟩ := hCs
  refine Par.bd (E_X7_advance K hK mn at_ kd vl pl fk fv fp j hSt ha hj (by rw [hk]; decide)) (fun q hq => ?_)
  have hC1 : CSt mn fk fv (j + 1) q.1 q.2.1 q.2.2.1 q.2.2.2 cs := ⟨hq.1, hq.2.1, hq.2.2.1, hq.2.2.2, hc0, by omega⟩
  refine Par.bd (E_X3_wholeSum K hK a1 LL _ ops cl mn _ _ _ _ fk fv fp cs ppk (j + 1) hSt hC1) (fun p hp => ?_)
  rcases hp with ⟨e1, e2⟩ | ⟨e1, e, j1, e2, e3⟩
  · refine Par.yes e1 ?_
    exact (hf _ _ _ _ _ _ _ _ _ _ _ _ _ _ _ _).mono (fun r hr => Or.inl ⟨hr, fun S hS => s_if2 hk hD e2⟩)
  · refine Par.not (by rw [e1]; decide) ?_
    refine Par.bd (hB l2 l3 LL _ _ _ mn _ _ _ _ fk fv fp sz _ ou us ppg _ (D ++ [2]) b j1 hSt e3 hl3 hb (by rw [hsz, List.length_append, List.length_singleton]; rfl) (by rw [List.length_append, List.length_singleton]; omega) (by rw [ho, cn1_0 D 2 (by decide)])) (fun w hw => ?_)
    rcases hw with ⟨g1, g2⟩ | ⟨g1, g2, X, j2, g3, g4, g5⟩
    · refine Par.yes g1 ?_
      refine (hf _ _ _ _ _ _ _ _ _ _ _ _ _ _ _ _).mono (fun r hr => Or.inl ⟨hr, fun S hS => ?_⟩)
      rcases g2 with g2 | ⟨g2, g3⟩
      · exact s_if3 hk hD e2 (by rw [hS]; exact g2)
      · exact (s_if hk hD e2 (by rw [hS]; exact g2)).fl (g3 _ _ S hS)
    · refine Par.not (by rw [g1]; decide) ?_
      have hin : ∀ S : List (Nat × Bool), S.length = b → Rc2 fk fv (D, S, j) (D ++ [2] ++ X, (D.length, false) :: S, j2) := fun S hS => (s_if hk hD e2 (by rw [hS]; exact g2)).tr (g5 _ _ S hS)
      refine Par.bd (E_X3_take0 K hK 6 mn _ _ _ _ fk fv fp (j2 + 1) _ hSt g4.1 (by decide)) (fun p2 hp2 => ?_)
      rcases hp2 with ⟨i1, i2, i3⟩ | ⟨i1, i2, i3⟩
      · refine Par.yes i1 ?_
        refine hg _ _ _ _ _ _ _ _ _ _ _ _ _ _ _ _ _ (Or.inr ⟨rfl, [2] ++ X, j2 + 1, ?_, by simp, fun S hS => ?_⟩)
        · rw [← List.append_assoc]; exact ⟨i3, g4.2⟩
        · rw [← List.append_assoc]
          refine (hin S hS).tr (s_cl g3 ?_)
          rintro ⟨_, _, h9⟩
          exact i2 h9
      · refine Par.not (by rw [i1]; decide) ?_
        have hel : ∀ S : List (Nat × Bool), (false = false ∧ (D ++ [2] ++ X)[D.length]? = some 2 ∧ fk (j2 + 1) = 6) := fun _ => ⟨rfl, get_at D X 2, i2⟩
        refine Par.bd (hB l2 l3 LL _ _ _ mn _ _ _ _ fk fv fp _ _ _ _ ppg _ (D ++ [2] ++ X) b (j2 + 2) hSt i3 hl3 hb g4.2.1 g4.2.2.1 g4.2.2.2) (fun u hu => ?_)
        rcases hu with ⟨o1, o2⟩ | ⟨o1, o2, Y, j3, o3, o4, o5⟩
        · refine Par.yes o1 (Par.ret (Or.inl ⟨rfl, fun S hS => ?_⟩))
          rcases o2 with o2 | ⟨o2, o3⟩
          · have h123 : fk (j2 + 2) ≠ 123 := fun h => o2 ⟨h, g2.2⟩
            exact (hin S hS).fl (s_else1 g3 (hel S) h123)
          · exact ((hin S hS).tr (s_else g3 (hel S) o2.1)).fl (o3 _ _ S hS)
        · refine Par.not (by rw [o1]; decide) ?_
          refine hg _ _ _ _ _ _ _ _ _ _ _ _ _ _ _ _ _ (Or.inr ⟨rfl, [2] ++ X ++ Y, j3 + 1, ?_, by simp, fun S hS => ?_⟩)
          · rw [← List.append_assoc, ← List.append_assoc]; exact o4
          · rw [← List.append_assoc, ← List.append_assoc]
            refine (((hin S hS).tr (s_else g3 (hel S) o2.1)).tr (o5 _ _ S hS)).tr (s_cl o3 ?_)
            rintro ⟨h9, _⟩
            cases h9
theorem Q_X3_takeStatement (K : Nat) (hK : 1000000000 ≤ K) (cS cT : CStT) (cI cL : Nat → CStT) (cB : CStT) (hI : SpI 5 cI) (hL : SpI 7 cL) :
    SpT (fun l1 l2 LL sv ops cl mn at_ kd vl pl fk fv fp sz cs ou us ppg ppk => L_X3_takeStatement K cS cT cI cL cB K 0 l1 l2 0 0 0 LL sv ops cl mn at_ kd vl pl fk fv fp sz cs ou us ppg ppk) := by
  intro l1 l2 LL sv ops cl mn at_ kd vl pl fk fv fp sz cs ou us ppg ppk D b j hSt hCs hl2 hb hsz hD ho hk
  have hg : ∀ (Q : R13 → Prop) n b0 b1 b2 a4 l5 s c1 c2 c3 c4 c5 c6 c7 c8 c9 c10 c11, (∀ s' c10', Q (l5, s', c1, c2, c3, c4, c5, c6, c7, c8, c9, c10', c11)) → Par (L_X3_takeStatement K cS cT cI cL cB n 1 b0 b1 b2 a4 l5 LL s c1 c2 mn c3 c4 c5 c6 fk fv fp c7 c8 c9 c10 ppg c11) Q := by
    intro Q n b0 b1 b2 a4 l5 s c1 c2 c3 c4 c5 c6 c7 c8 c9 c10 c11 hQ
    cases n with
    | zero => exact Par.no
    | succ n => rw [L_X3_takeStatement_e1]; unfold B_X3_takeStatement_1; exact Par.br (fun _ => Par.br (fun _ => Par.ret (hQ _ _)) (fun _ => Par.no)) (fun _ => Par.no)
  show Par (L_X3_takeStatement K cS cT cI cL cB K 0 l1 l2 0 0 0 LL sv ops cl mn at_ kd vl pl fk fv fp sz cs ou us ppg ppk) (StnP mn fk fv D b j)
  generalize hz : L_X3_takeStatement K cS cT cI cL cB K 0 l1 l2 0 0 0 LL sv ops cl mn at_ kd vl pl fk fv fp sz cs ou us ppg ppk = z
  obtain ⟨n, hn⟩ : ∃ n9, K = n9 + 1 := ⟨K - 1, by omega⟩
  have hz2 : z = L_X3_takeStatement K cS cT cI cL cB (n + 1) 0 l1 l2 0 0 0 LL sv ops cl mn at_ kd vl pl fk fv fp sz cs ou us ppg ppk := by rw [← hn, hz]
  rw [hz2, L_X3_takeStatement_e0]; unfold B_X3_takeStatement_0
  refine Par.bd (E_X4_append K hK l1 LL sv sz ppg (D.length) hsz hD) (fun p hp => ?_)
  refine Par.br (fun _ => ?_) (fun _ => Par.no)
  have hkd : kd = fk j := hCs.2.2.1
  refine Par.br (fun h2 => ?_) (fun h2 => Par.br (fun h3 => ?_) (fun h3 => Par.br (fun h4 => ?_) (fun h4 => Par.br (fun h5 => ?_) (fun h5 => ?_))))
  · refine Par.bd (E_X3_takeAssignment K hK _ LL _ ops cl mn at_ kd vl pl fk fv fp cs us ppk j D hSt hCs (by rw [← hkd]; exact h2) hD) (fun q hq => ?_)
    refine hg _ _ _ _ _ _ _ _ _ _ _ _ _ _ _ _ _ _ _ (fun s' c10' => ?_)
    rcases hq with ⟨g1, g2⟩ | ⟨g1, j', g2, g3⟩
    · exact Or.inl ⟨g1, fun S _ => g2 S⟩
    · refine Or.inr ⟨g1, [0], j', ⟨g2, ?_, ?_, ?_⟩, by simp, fun S _ => g3 S⟩
      · rw [List.length_append, List.length_singleton]; exact hp
      · rw [List.length_append, List.length_singleton]; omega
      · rw [cn1_0 D 0 (by decide)]; exact ho
  · exfalso
    rw [hkd] at h3
    rcases hk with h | h | h | h <;> rw [h] at h3 <;> revert h3 <;> decide
  · refine Par.bd (E_X3_takeOut K hK _ LL _ ops cl mn at_ kd vl pl fk fv fp cs ou ppk j D hSt hCs (by rw [← hkd]; exact h4) hD ho) (fun q hq => ?_)
    refine hg _ _ _ _ _ _ _ _ _ _ _ _ _ _ _ _ _ _ _ (fun s' c10' => ?_)
    rcases hq with ⟨g1, g2⟩ | ⟨g1, j', g2, g4, g3⟩
    · exact Or.inl ⟨g1, fun S _ => g2 S⟩
    · refine Or.inr ⟨g1, [1], j', ⟨g2, ?_, ?_, g4⟩, by simp, fun S _ => g3 S⟩
      · rw [List.length_append, List.length_singleton]; exact hp
      · rw [List.length_append, List.length_singleton]; omega
  · refine Par.bd (hI _ sz l2 LL _ ops cl mn at_ kd vl pl fk fv fp _ cs ou us ppg ppk D b j hSt hCs hl2 hb hp hD ho (by rw [← hkd]; exact h5)) (fun q hq => ?_)
    refine hg _ _ _ _ _ _ _ _ _ _ _ _ _ _ _ _ _ _ _ (fun s' c10' => ?_)
    rcases hq with ⟨g1, g2⟩ | ⟨g1, X, j', g2, g3, g4⟩
    · exact Or.inl ⟨g1, g2⟩
    · exact Or.inr ⟨g1, X, j', g2, g3, g4⟩
  · have h7 : fk j = 7 := by
      rw [hkd] at h2 h4 h5
      rcases hk with h | h | h | h
      · exact absurd h h2
      · exact absurd h h4
      · exact absurd h h5
      · exact h
    refine Par.bd (hL _ sz l2 LL _ ops cl mn at_ kd vl pl fk fv fp _ cs ou us ppg ppk D b j hSt hCs hl2 hb hp hD ho h7) (fun q hq => ?_)
    refine hg _ _ _ _ _ _ _ _ _ _ _ _ _ _ _ _ _ _ _ (fun s' c10' => ?_)
    rcases hq with ⟨g1, g2⟩ | ⟨g1, X, j', g2, g3, g4⟩
    · exact Or.inl ⟨g1, g2⟩
    · exact Or.inr ⟨g1, X, j', g2, g3, g4⟩
theorem Q_X3_takeStatements (K : Nat) (hK : 1000000000 ≤ K) (cS cT : CStT) (cI cL : Nat → CStT) (cB : CStT) (hT : SpT cT) :
    SpS (fun l1 l2 LL sv ops cl mn at_ kd vl pl fk fv fp sz cs ou us ppg ppk => L_X3_takeStatements K cS cT cI cL cB K 0 l1 l2 0 LL sv ops cl mn at_ kd vl pl fk fv fp sz cs ou us ppg ppk) := by
  intro l1 l2 LL sv ops cl mn at_ kd vl pl fk fv fp sz cs ou us ppg ppk D b j hSt hCs hl2 hb hsz hD ho
  have h2 : ∀ n b0 b1 b2 s c1 c2 c3 c4 c5 c6 c7 c8 c9 c10 c11, Par (L_X3_takeStatements K cS cT cI cL cB n 2 b0 b1 b2 LL s c1 c2 mn c3 c4 c5 c6 fk fv fp c7 c8 c9 c10 ppg c11) (fun r => r.1 = 0) := by
    intro n; intros
    cases n with
    | zero => exact Par.no
    | succ n => rw [L_X3_takeStatements_e2]; unfold B_X3_takeStatements_2; exact Par.ret rfl
  have h3 : ∀ (Q : R13 → Prop) n b0 b1 b2 s c1 c2 c3 c4 c5 c6 c7 c8 c9 c10 c11, Q (1, s, c1, c2, c3, c4, c5, c6, c7, c8, c9, c10, c11) → Par (L_X3_takeStatements K cS cT cI cL cB n 3 b0 b1 b2 LL s c1 c2 mn c3 c4 c5 c6 fk fv fp c7 c8 c9 c10 ppg c11) Q := by
    intro Q n b0 b1 b2 s c1 c2 c3 c4 c5 c6 c7 c8 c9 c10 c11 hQ
    cases n with
    | zero => exact Par.no
    | succ n => rw [L_X3_takeStatements_e3]; unfold B_X3_takeStatements_3; exact Par.ret hQ
  have hl : ∀ (n : Nat) (X : List Int32) (j1 : Nat) (l3 : Int32) s c1 c2 c3 c4 c5 c6 c7 c8 c9 c10 c11, SSt mn fk fv (D ++ X) j1 (1, s, c1, c2, c3, c4, c5, c6, c7, c8, c9, c10, c11) → 0 ≤ l3.toInt → l3.toInt ≤ (X.length : Int) → (∀ S : List (Nat × Bool), S.length = b → Rc2 fk fv (D, S, j) (D ++ X, S, j1)) →
      Par (L_X3_takeStatements K cS cT cI cL cB n 1 l1 l2 l3 LL s c1 c2 mn c3 c4 c5 c6 fk fv fp c7 c8 c9 c10 ppg c11) (StsP mn fk fv D b j) := by
    intro n
    induction n with
    | zero => intros; exact Par.no
    | succ n ih =>
      intro X j1 l3 s c1 c2 c3 c4 c5 c6 c7 c8 c9 c10 c11 hX hl0 hl3 hR
      obtain ⟨x1, x2, x3, x4⟩ := hX
      have hXl : X.length ≤ 30 := by rw [List.length_append] at x3; omega
      rw [L_X3_takeStatements_e1]; unfold B_X3_takeStatements_1
      refine Par.not (by rw [Int32.lt_iff_toInt_lt]; simp only [Int32.reduceToInt]; omega) ?_
      have hkd : c4 = fk j1 := x1.2.2.1
      refine Par.bd (E_X3_begins K hK c4) (fun p hp => ?_)
      rcases hp with ⟨p1, p2⟩ | ⟨p1, p2⟩
      · refine Par.yes p1 ?_
        exact h3 _ _ _ _ _ _ _ _ _ _ _ _ _ _ _ _ _ (Or.inr ⟨rfl, X, j1, ⟨x1, x2, x3, x4⟩, by rw [← hkd]; exact p2, hR⟩)
      · refine Par.not (by rw [p1]; decide) ?_
        rw [hkd] at p2
        refine Par.bd (E_X4_isFull K hK c7) (fun q hq => ?_)
        have x2' : c7.toInt = ((D ++ X).length : Int) := x2
        rcases hq with ⟨q1, q2⟩ | ⟨q1, q2⟩
        · refine Par.yes q1 ?_
          refine Par.bd (hT l1 l2 LL s c1 c2 mn c3 c4 c5 c6 fk fv fp c7 c8 c9 c10 ppg c11 (D ++ X) b j1 hSt x1 hl2 hb x2 (by omega) x4 p2) (fun w hw => ?_)
          rcases hw with ⟨g1, g2⟩ | ⟨g1, Y, j2, g2, g3, g4⟩
          · refine Par.yes g1 ?_
            exact (h2 _ _ _ _ _ _ _ _ _ _ _ _ _ _ _ _).mono (fun r hr => Or.inl ⟨hr, fun S hS => (hR S hS).fl (g2 S hS)⟩)
          · refine Par.not (by rw [g1]; decide) ?_
            have hl1 : (l3 + 1).toInt = l3.toInt + 1 := adI l3 _ rfl hl0 (by omega)
            refine ih (X ++ Y) j2 (l3 + 1) _ _ _ _ _ _ _ _ _ _ _ _ ?_ (by omega) ?_ (fun S hS => ?_)
            · rw [← List.append_assoc]; exact g2
            · rw [List.length_append]; omega
            · rw [← List.append_assoc]; exact (hR S hS).tr (g4 S hS)
        · refine Par.not (by rw [q1]; decide) ?_
          exact (h2 _ _ _ _ _ _ _ _ _ _ _ _ _ _ _ _).mono (fun r hr => Or.inl ⟨hr, fun S hS => (hR S hS).fl (s_full p2 (by omega))⟩)
  show Par (L_X3_takeStatements K cS cT cI cL cB K 0 l1 l2 0 LL sv ops cl mn at_ kd vl pl fk fv fp sz cs ou us ppg ppk) (StsP mn fk fv D b j)
  generalize hz : L_X3_takeStatements K cS cT cI cL cB K 0 l1 l2 0 LL sv ops cl mn at_ kd vl pl fk fv fp sz cs ou us ppg ppk = z
  obtain ⟨n, hn⟩ : ∃ n9, K = n9 + 1 := ⟨K - 1, by omega⟩
  have hz2 : z = L_X3_takeStatements K cS cT cI cL cB (n + 1) 0 l1 l2 0 LL sv ops cl mn at_ kd vl pl fk fv fp sz cs ou us ppg ppk := by rw [← hn, hz]
  rw [hz2, L_X3_takeStatements_e0]; unfold B_X3_takeStatements_0
  refine hl n [] j 0 sv ops cl at_ kd vl pl sz cs ou us ppk ?_ (by decide) (by decide) (fun S hS => ?_)
  · rw [List.append_nil]; exact ⟨hCs, hsz, hD, ho⟩
  · rw [List.append_nil]; exact Rc2.rf
theorem Q_stm_d (K : Nat) (hK : 1000000000 ≤ K) : ∀ d : Nat, SpS (DD_stm K d).1 ∧ SpT (DD_stm K d).2.1 ∧ SpI 5 (DD_stm K d).2.2.1 ∧ SpI 7 (DD_stm K d).2.2.2.1 ∧ SpB (DD_stm K d).2.2.2.2 := by
  intro d
  induction d with
  | zero => refine ⟨?_, ?_, ?_, ?_, ?_⟩ <;> (intro l1; intros; exact Par.no)
  | succ d ih =>
    obtain ⟨h1, h2, h3, h4, h5⟩ := ih
    exact ⟨Q_X3_takeStatements K hK _ _ _ _ _ h2, Q_X3_takeStatement K hK _ _ _ _ _ h3 h4, Q_X3_takeIf K hK _ _ _ _ _ h5, Q_X3_takeLoop K hK _ _ _ _ _ h5, Q_X3_takeBraced K hK _ _ _ _ _ h1⟩
theorem Q_X3_stms (K : Nat) (hK : 1000000000 ≤ K) : SpS (F_X3_takeStatements K) := (Q_stm_d K hK 40).1
