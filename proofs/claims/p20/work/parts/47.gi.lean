/-! the rows of the class's program; its assignments and outs against the machine -/
abbrev R13 : Type := Int32 × (Nat → Nat → Int32) × Int32 × Int32 × Int32 × Int32 × Int32 × Int32 × Int32 × Int32 × Int32 × Int32 × (Nat → Int32)
abbrev CStT : Type := Int32 → Int32 → (List Nat) → (Nat → Nat → Int32) → Int32 → Int32 → Int32 → Int32 → Int32 → Int32 → Int32 → (Nat → Int32) → (Nat → Int32) → (Nat → Int32) → Int32 → Int32 → Int32 → Int32 → (Nat → Option Nat) → (Nat → Int32) → Option R13
theorem sU_eq (sv : Nat → Nat → Int32) (a k : Nat) (v : Int32) : sU sv a k v a k = v := by simp [sU]
theorem sU_ne (sv : Nat → Nat → Int32) (a : Nat) {k f : Nat} (v : Int32) (h : f ≠ k) : sU sv a k v a f = sv a f := by simp [sU, h]
theorem sU_fr (sv : Nat → Nat → Int32) {a b : Nat} (k f : Nat) (v : Int32) (h : b ≠ a) : sU sv a k v b f = sv b f := by simp [sU, h]
def cn1 (D : List SRc) : Nat := (D.filter (fun r => decide (r.1 = 1))).length
theorem cn1_0 (D : List SRc) (r : SRc) (h : r.1 ≠ 1) : cn1 (D ++ [r]) = cn1 D := by unfold cn1; simp [List.filter_append, h]
theorem cn1_1 (D : List SRc) (r : SRc) (h : r.1 = 1) : cn1 (D ++ [r]) = cn1 D + 1 := by unfold cn1; simp [List.filter_append, h]
theorem cn1_le (D : List SRc) : cn1 D ≤ D.length := List.length_filter_le _ _
/-- the cells that occur in a statement -/
def rowU (r : SRc) : Int32 := (if r.1 = 0 then (3 : Int32) <<< ((2 * r.2.1) &&& 31) else 0) ||| CMk r.2.2.1 0
def usX : List SRc → Int32
  | [] => 0
  | r :: X => rowU r ||| usX X
theorem usX_app : ∀ (X Y : List SRc), usX (X ++ Y) = usX X ||| usX Y := by
  intro X
  induction X with
  | nil => intro Y; simp [usX]
  | cons r X ih => intro Y; simp only [List.cons_append, usX, ih, Int32.or_assoc]
/-- row i of the class's program -/
def RowC (ppg : Nat → Option Nat) (sv : Nat → Nat → Int32) (ppk : Nat → Int32) (D : List SRc) (M N : Nat → Nat) (cs : Int) (i : Nat) : Prop :=
  ∃ (r : SRc) (a cf : Nat), D[i]? = some r ∧ ppg i = some a ∧ sv a 0 = r.1 ∧ sv a 1 = r.2.1 ∧ sv a 3 = r.2.2.2 ∧ (sv a 4).toInt = (cf : Int) ∧ (sv a 5).toInt = ((cf + r.2.2.1.length : Nat) : Int) ∧ ((cf + r.2.2.1.length : Nat) : Int) ≤ cs ∧
    (∀ (t : Nat) (x : Int32), r.2.2.1[t]? = some x → ppk (cf + t) = encc x) ∧ sv a 6 = CMk r.2.2.1 0 ∧ (r.1 = 2 → (sv a 7).toInt = (M i : Int)) ∧ (sv a 8).toInt = (((if r.1 = 2 ∨ r.1 = 3 then N i else i + 1) : Nat) : Int) ∧ (r.1 = 1 → (sv a 2).toInt = (cn1 (D.take i) : Int))
theorem RowC.mono {ppg : Nat → Option Nat} {sv sw : Nat → Nat → Int32} {f g : Nat → Int32} {D X : List SRc} {M N M2 N2 : Nat → Nat} {cs ds : Int} {i : Nat} (h : RowC ppg sv f D M N cs i) (hs : ∀ a : Nat, ppg i = some a → ∀ z : Nat, sw a z = sv a z) (hg : ∀ t : Nat, (t : Int) < cs → g t = f t) (hc : cs ≤ ds) (hM : M2 i = M i) (hN : N2 i = N i) : RowC ppg sw g (D ++ X) M2 N2 ds i := by
  obtain ⟨r, a, cf, h1, h2, h3, h4, h5, h6, h7, h8, h9, h10, h11, h12, h13⟩ := h
  have hi : i < D.length := by
    rcases Nat.lt_or_ge i D.length with h | h
    · exact h
    · rw [List.getElem?_eq_none h] at h1; cases h1
  have e := hs a h2
  refine ⟨r, a, cf, by rw [List.getElem?_append_left hi]; exact h1, h2, by rw [e]; exact h3, by rw [e]; exact h4, by rw [e]; exact h5, by rw [e]; exact h6, by rw [e]; exact h7, by omega, fun t x hx => ?_, by rw [e]; exact h10, fun hk => by rw [e, hM]; exact h11 hk, ?_, fun hk => ?_⟩
  · have ht : t < r.2.2.1.length := by
      rcases Nat.lt_or_ge t r.2.2.1.length with h | h
      · exact h
      · rw [List.getElem?_eq_none h] at hx; cases hx
    rw [hg _ (by omega)]
    exact h9 t x hx
  · rw [e, hN]; exact h12
  · rw [e, List.take_append_of_le_length (by omega)]; exact h13 hk
def SSt (mn : Int32) (fk fv : Nat → Int32) (D : List SRc) (j : Nat) (r : R13) : Prop :=
  CSt mn fk fv j r.2.2.2.2.1 r.2.2.2.2.2.1 r.2.2.2.2.2.2.1 r.2.2.2.2.2.2.2.1 r.2.2.2.2.2.2.2.2.2.1 ∧ (r.2.2.2.2.2.2.2.2.1).toInt = (D.length : Int) ∧ D.length ≤ 30 ∧ (r.2.2.2.2.2.2.2.2.2.2.1).toInt = (cn1 D : Int)
def PGi (ppg : Nat → Option Nat) : Prop := ∀ (i j a : Nat), i < 30 → j < 30 → ppg i = some a → ppg j = some a → i = j
/-- what a reading from D on has left in the rows -/
def ConT (ppg : Nat → Option Nat) (D X : List SRc) (sv : Nat → Nat → Int32) (ppk : Nat → Int32) (cs us : Int32) (M N M2 N2 : Nat → Nat) (r : R13) : Prop :=
  (∀ i : Nat, i < D.length → M2 i = M i ∧ N2 i = N i) ∧
  (∀ a : Nat, (∀ i : Nat, D.length ≤ i → i < 30 → ppg i ≠ some a) → ∀ z : Nat, r.2.1 a z = sv a z) ∧
  (∀ t : Nat, (t : Int) < cs.toInt → r.2.2.2.2.2.2.2.2.2.2.2.2 t = ppk t) ∧ cs.toInt ≤ (r.2.2.2.2.2.2.2.2.2.1).toInt ∧
  (∀ i : Nat, D.length ≤ i → i < (D ++ X).length → RowC ppg r.2.1 r.2.2.2.2.2.2.2.2.2.2.2.2 (D ++ X) M2 N2 (r.2.2.2.2.2.2.2.2.2.1).toInt i) ∧
  r.2.2.2.2.2.2.2.2.2.2.2.1 = us ||| usX X
theorem ConT.tr {ppg : Nat → Option Nat} {D X Y : List SRc} {sv : Nat → Nat → Int32} {ppk : Nat → Int32} {cs us : Int32} {M N M1 N1 M2 N2 : Nat → Nat} {r q : R13} (hi : PGi ppg) (hl : (D ++ X).length ≤ 30) (h1 : ConT ppg D X sv ppk cs us M N M1 N1 r) (h2 : ConT ppg (D ++ X) Y r.2.1 r.2.2.2.2.2.2.2.2.2.2.2.2 r.2.2.2.2.2.2.2.2.2.1 r.2.2.2.2.2.2.2.2.2.2.2.1 M1 N1 M2 N2 q) : ConT ppg D (X ++ Y) sv ppk cs us M N M2 N2 q := by
  obtain ⟨a1, a2, a3, a4, a5, a6⟩ := h1
  obtain ⟨b1, b2, b3, b4, b5, b6⟩ := h2
  have hlen : (D ++ X).length = D.length + X.length := List.length_append
  refine ⟨fun i h => ?_, fun a h z => ?_, fun t h => ?_, by omega, fun i h h9 => ?_, ?_⟩
  · obtain ⟨c1, c2⟩ := b1 i (by omega)
    obtain ⟨d1, d2⟩ := a1 i h
    exact ⟨by rw [c1, d1], by rw [c2, d2]⟩
  · rw [b2 a (fun i h3 h4 => h i (by omega) h4), a2 a h]
  · rw [b3 t (by omega), a3 t h]
  · rw [← List.append_assoc]
    rw [← List.append_assoc] at h9
    rcases Nat.lt_or_ge i (D ++ X).length with h8 | h8
    · refine (a5 i h h8).mono (fun a ha z => ?_) b3 b4 (b1 i h8).1 (b1 i h8).2
      refine b2 a (fun i2 h3 h4 h5 => ?_) z
      have := hi i i2 a (by omega) h4 ha h5
      omega
    · exact b5 i h8 h9
  · rw [b6, a6, usX_app, Int32.or_assoc]
theorem ConT.rf {ppg : Nat → Option Nat} {D : List SRc} {sv : Nat → Nat → Int32} {ppk : Nat → Int32} {cs us : Int32} {M N : Nat → Nat} {r : R13} (h1 : r.2.1 = sv) (h2 : r.2.2.2.2.2.2.2.2.2.2.2.2 = ppk) (h3 : r.2.2.2.2.2.2.2.2.2.1 = cs) (h4 : r.2.2.2.2.2.2.2.2.2.2.2.1 = us) : ConT ppg D [] sv ppk cs us M N M N r := by
  refine ⟨fun _ _ => ⟨rfl, rfl⟩, fun a _ z => by rw [h1], fun t _ => by rw [h2], by rw [h3]; exact Int.le_refl _, fun i h h9 => ?_, ?_⟩
  · rw [List.append_nil] at h9; omega
  · rw [h4]; simp [usX]
def StsP (mn : Int32) (fk fv : Nat → Int32) (ppg : Nat → Option Nat) (l1 : Int32) (D : List SRc) (M N : Nat → Nat) (sv : Nat → Nat → Int32) (ppk : Nat → Int32) (cs us : Int32) (b : Nat) (j : Nat) (r : R13) : Prop :=
  (r.1 = 0 ∧ ∀ S : List (Nat × Bool), S.length = b → parO S = l1 → Fl2 fk fv (D, M, N, S, j)) ∨ (r.1 = 1 ∧ ∃ (X : List SRc) (M2 N2 : Nat → Nat) (j' : Nat), SSt mn fk fv (D ++ X) j' r ∧ ConT ppg D X sv ppk cs us M N M2 N2 r ∧ ¬ begK (fk j') ∧ ∀ S : List (Nat × Bool), S.length = b → parO S = l1 → Rc2 fk fv (D, M, N, S, j) (D ++ X, M2, N2, S, j'))
def StnP (mn : Int32) (fk fv : Nat → Int32) (ppg : Nat → Option Nat) (l1 : Int32) (D : List SRc) (M N : Nat → Nat) (sv : Nat → Nat → Int32) (ppk : Nat → Int32) (cs us : Int32) (b : Nat) (j : Nat) (r : R13) : Prop :=
  (r.1 = 0 ∧ ∀ S : List (Nat × Bool), S.length = b → parO S = l1 → Fl2 fk fv (D, M, N, S, j)) ∨ (r.1 = 1 ∧ ∃ (X : List SRc) (M2 N2 : Nat → Nat) (j' : Nat), SSt mn fk fv (D ++ X) j' r ∧ ConT ppg D X sv ppk cs us M N M2 N2 r ∧ 0 < X.length ∧ ∀ S : List (Nat × Bool), S.length = b → parO S = l1 → Rc2 fk fv (D, M, N, S, j) (D ++ X, M2, N2, S, j'))
theorem E_X3_wholeSum (K : Nat) (hK : 1000000000 ≤ K) (a1 : Nat) (LL : List Nat) (sv : Nat → Nat → Int32) (ops cl mn at_ kd vl pl : Int32) (fk fv fp : Nat → Int32) (cs : Int32) (f : Nat → Int32) (j : Nat) (hSt : STRq mn fk fv fp) (hCs : CSt mn fk fv j at_ kd vl pl cs) :
    Par (F_X3_takeWholeSum K a1 LL sv ops cl mn at_ kd vl pl fk fv fp cs f) (fun r => (r.1 = 0 ∧ Fls fk fv (true, [], 0, 0, j, [])) ∨ (r.1 = 1 ∧ ∃ (e : List Int32) (j' : Nat), Hlt fk fv (true, [], 0, 0, j, []) (j', e) ∧ CSt mn fk fv j' r.2.2.2.2.1 r.2.2.2.2.2.1 r.2.2.2.2.2.2.1 r.2.2.2.2.2.2.2.1 r.2.2.2.2.2.2.2.2.1 ∧ r.2.1 = sU (sU (sU sv a1 4 cs) a1 5 r.2.2.2.2.2.2.2.2.1) a1 6 (CMk e 0) ∧ EMt cs f r.2.2.2.2.2.2.2.2.1 r.2.2.2.2.2.2.2.2.2 e)) := by
  unfold F_X3_takeWholeSum
  obtain ⟨n, rfl⟩ : ∃ n9, K = n9 + 1 := ⟨K - 1, by omega⟩
  rw [L_X3_takeWholeSum_e0]; unfold B_X3_takeWholeSum_0
  refine Par.br (fun _ => ?_) (fun _ => Par.no)
  refine Par.bd (Q_X3_whole _ hK 0 mn at_ kd vl pl fk fv fp cs f j hSt hCs) (fun q hq => ?_)
  refine Par.br (fun _ => Par.ret ?_) (fun _ => Par.no)
  rcases hq with ⟨h1, h2⟩ | ⟨h1, e, lv', j', h2, h3, h4⟩
  · exact Or.inl ⟨h1, h2⟩
  · refine Or.inr ⟨h1, e, j', h4, h2.2.2.1, ?_, h2.2.2.2.1⟩
    show sU (sU (sU sv a1 4 cs) a1 5 _) a1 6 q.2.2.1 = _
    rw [h2.2.2.2.2.2]
theorem E_X3_takeNumber (K : Nat) (hK : 1000000000 ≤ K) (a1 : Nat) (l2 : Int32) (LL : List Nat) (sv : Nat → Nat → Int32) (mn at_ kd vl pl : Int32) (fk fv fp : Nat → Int32) (cs : Int32) (j : Nat) (hSt : STRq mn fk fv fp) (hCs : CSt mn fk fv j at_ kd vl pl cs) :
    Par (F_X3_takeNumber K a1 l2 LL sv mn at_ kd vl pl fk fv fp) (fun r => (r.1 = 0 ∧ ¬ (fk j = 3 ∧ fv j ≤ l2)) ∨ (r.1 = 1 ∧ (fk j = 3 ∧ fv j ≤ l2) ∧ CSt mn fk fv (j + 1) r.2.2.1 r.2.2.2.1 r.2.2.2.2.1 r.2.2.2.2.2 cs ∧ r.2.1 = sU sv a1 1 (fv j))) := by
  unfold F_X3_takeNumber
  have hv : vl = fv j := hCs.2.2.2.1
  have h1 : ∀ n q s b1 b2 b3 b4, Par (L_X3_takeNumber K n 1 a1 q LL s mn b1 b2 b3 b4 fk fv fp) (fun r => r.1 = 0) := by
    intro n; intros
    cases n with
    | zero => exact Par.no
    | succ n => rw [L_X3_takeNumber_e1]; unfold B_X3_takeNumber_1; exact Par.br (fun _ => Par.ret rfl) (fun _ => Par.no)
  obtain ⟨n, hn⟩ : ∃ n9, K = n9 + 1 := ⟨K - 1, by omega⟩
  generalize hz : L_X3_takeNumber K K 0 a1 l2 LL sv mn at_ kd vl pl fk fv fp = z
  have hz2 : z = L_X3_takeNumber K (n + 1) 0 a1 l2 LL sv mn at_ kd vl pl fk fv fp := by rw [← hn, hz]
  rw [hz2, L_X3_takeNumber_e0]; unfold B_X3_takeNumber_0
  refine Par.br (fun _ => ?_) (fun _ => Par.no)
  refine Par.br (fun h => ?_) (fun h => ?_)
  · refine (h1 _ _ _ _ _ _ _).mono (fun r hr => Or.inl ⟨hr, fun h9 => ?_⟩)
    rw [hv, Int32.lt_iff_toInt_lt] at h
    have := h9.2
    rw [Int32.le_iff_toInt_le] at this
    omega
  · refine Par.bd (E_X3_take K hK 3 mn at_ kd vl pl fk fv fp j cs hSt hCs (by decide)) (fun q hq => ?_)
    rcases hq with ⟨e1, e2⟩ | ⟨e1, e2, e3⟩
    · refine Par.yes e1 ?_
      exact (h1 _ _ _ _ _ _ _).mono (fun r hr => Or.inl ⟨hr, fun h9 => e2 h9.1⟩)
    · refine Par.not (by rw [e1]; decide) (Par.ret (Or.inr ⟨rfl, ⟨e2, ?_⟩, e3, ?_⟩))
      · rw [hv, Int32.lt_iff_toInt_lt] at h
        rw [Int32.le_iff_toInt_le]
        omega
      · show sU sv a1 1 vl = _
        rw [hv]
theorem E_X3_takeAssignment (K : Nat) (hK : 1000000000 ≤ K) (a1 : Nat) (LL : List Nat) (sv : Nat → Nat → Int32) (ops cl mn at_ kd vl pl : Int32) (fk fv fp : Nat → Int32) (cs us : Int32) (f : Nat → Int32) (j : Nat) (D : List SRc) (hSt : STRq mn fk fv fp) (hCs : CSt mn fk fv j at_ kd vl pl cs) (hk : fk j = 2) (hD : D.length < 30) :
    Par (F_X3_takeAssignment K a1 LL sv ops cl mn at_ kd vl pl fk fv fp cs us f) (fun r => (r.1 = 0 ∧ ∀ (M N : Nat → Nat) (S : List (Nat × Bool)), Fl2 fk fv (D, M, N, S, j)) ∨ (r.1 = 1 ∧ ∃ (e : List Int32) (j' : Nat), CSt mn fk fv j' r.2.2.2.2.1 r.2.2.2.2.2.1 r.2.2.2.2.2.2.1 r.2.2.2.2.2.2.2.1 r.2.2.2.2.2.2.2.2.1 ∧ r.2.1 = sU (sU (sU (sU (sU sv a1 0 0) a1 1 (fv j)) a1 4 cs) a1 5 r.2.2.2.2.2.2.2.2.1) a1 6 (CMk e 0) ∧ EMt cs f r.2.2.2.2.2.2.2.2.1 r.2.2.2.2.2.2.2.2.2.2 e ∧ r.2.2.2.2.2.2.2.2.2.1 = us ||| ((3 : Int32) <<< ((2 * fv j) &&& 31)) ∧ ∀ (M N : Nat → Nat) (S : List (Nat × Bool)), Rc2 fk fv (D, M, N, S, j) (D ++ [(0, fv j, e, parO S)], M, N, S, j'))) := by
  unfold F_X3_takeAssignment
  have h1 : ∀ n s b1 b2 b3 b4 b5 b6 b7 b8 b9, Par (L_X3_takeAssignment K n 1 a1 LL s b1 b2 mn b3 b4 b5 b6 fk fv fp b7 b8 b9) (fun r => r.1 = 0) := by
    intro n; intros
    cases n with
    | zero => exact Par.no
    | succ n => rw [L_X3_takeAssignment_e1]; unfold B_X3_takeAssignment_1; exact Par.br (fun _ => Par.ret rfl) (fun _ => Par.no)
  obtain ⟨n, hn⟩ : ∃ n9, K = n9 + 1 := ⟨K - 1, by omega⟩
  generalize hz : L_X3_takeAssignment K K 0 a1 LL sv ops cl mn at_ kd vl pl fk fv fp cs us f = z
  have hz2 : z = L_X3_takeAssignment K (n + 1) 0 a1 LL sv ops cl mn at_ kd vl pl fk fv fp cs us f := by rw [← hn, hz]
  rw [hz2, L_X3_takeAssignment_e0]; unfold B_X3_takeAssignment_0
  refine Par.br (fun _ => ?_) (fun _ => Par.no)
  obtain ⟨ha, hj, hkk, hv, hc0, hc1⟩ := hCs
  refine Par.bd (E_X7_advance K hK mn at_ kd vl pl fk fv fp j hSt ha hj (by rw [hk]; decide)) (fun q hq => ?_)
  have hC1 : CSt mn fk fv (j + 1) q.1 q.2.1 q.2.2.1 q.2.2.2 cs := ⟨hq.1, hq.2.1, hq.2.2.1, hq.2.2.2, hc0, by omega⟩
  refine Par.bd (E_X3_take K hK 61 mn _ _ _ _ fk fv fp (j + 1) cs hSt hC1 (by decide)) (fun p hp => ?_)
  rcases hp with ⟨e1, e2⟩ | ⟨e1, e2, e3⟩
  · refine Par.yes e1 ?_
    exact (h1 _ _ _ _ _ _ _ _ _ _ _).mono (fun r hr => Or.inl ⟨hr, fun _ _ _ => s_set1 hk hD e2⟩)
  · refine Par.not (by rw [e1]; decide) ?_
    refine Par.bd (E_X3_wholeSum K hK a1 LL _ ops cl mn _ _ _ _ fk fv fp cs f (j + 2) hSt e3) (fun w hw => ?_)
    rcases hw with ⟨g1, g2⟩ | ⟨g1, e, j', g2, g3, g4, g5⟩
    · refine Par.yes g1 ?_
      exact (h1 _ _ _ _ _ _ _ _ _ _ _).mono (fun r hr => Or.inl ⟨hr, fun _ _ _ => s_set2 hk hD e2 g2⟩)
    · refine Par.not (by rw [g1]; decide) ?_
      refine Par.bd (E_X3_take K hK 59 mn _ _ _ _ fk fv fp j' _ hSt g3 (by decide)) (fun p2 hp2 => ?_)
      rcases hp2 with ⟨i1, i2⟩ | ⟨i1, i2, i3⟩
      · refine Par.yes i1 ?_
        exact (h1 _ _ _ _ _ _ _ _ _ _ _).mono (fun r hr => Or.inl ⟨hr, fun _ _ _ => s_set3 hk hD e2 g2 i2⟩)
      · refine Par.not (by rw [i1]; decide) (Par.ret (Or.inr ⟨rfl, e, j' + 1, i3, ?_, g5, ?_, fun _ _ _ => s_set hk hD e2 g2 i2⟩))
        · show w.2.1 = _
          rw [g4, hv]
        · show us ||| (3 <<< ((2 * ((sU (sU sv a1 0 0) a1 1 vl) a1 1)) &&& 31)) = _
          rw [sU_eq, hv]
theorem E_X3_takeOut (K : Nat) (hK : 1000000000 ≤ K) (a1 : Nat) (LL : List Nat) (sv : Nat → Nat → Int32) (ops cl mn at_ kd vl pl : Int32) (fk fv fp : Nat → Int32) (cs ou : Int32) (f : Nat → Int32) (j : Nat) (D : List SRc) (hSt : STRq mn fk fv fp) (hCs : CSt mn fk fv j at_ kd vl pl cs) (hk : fk j = 4) (hD : D.length < 30) (ho : ou.toInt = (cn1 D : Int)) :
    Par (F_X3_takeOut K a1 LL sv ops cl mn at_ kd vl pl fk fv fp cs ou f) (fun r => (r.1 = 0 ∧ ∀ (M N : Nat → Nat) (S : List (Nat × Bool)), Fl2 fk fv (D, M, N, S, j)) ∨ (r.1 = 1 ∧ ∃ (e : List Int32) (j' : Nat), CSt mn fk fv j' r.2.2.2.2.1 r.2.2.2.2.2.1 r.2.2.2.2.2.2.1 r.2.2.2.2.2.2.2.1 r.2.2.2.2.2.2.2.2.1 ∧ r.2.1 = sU (sU (sU (sU (sU (sU sv a1 0 1) a1 2 ou) a1 1 (fv (j + 1))) a1 4 cs) a1 5 r.2.2.2.2.2.2.2.2.1) a1 6 (CMk e 0) ∧ EMt cs f r.2.2.2.2.2.2.2.2.1 r.2.2.2.2.2.2.2.2.2.2 e ∧ (r.2.2.2.2.2.2.2.2.2.1).toInt = (cn1 D : Int) + 1 ∧ ∀ (M N : Nat → Nat) (S : List (Nat × Bool)), Rc2 fk fv (D, M, N, S, j) (D ++ [(1, fv (j + 1), e, parO S)], M, N, S, j'))) := by
  unfold F_X3_takeOut
  have h1 : ∀ n s b1 b2 b3 b4 b5 b6 b7 b8 b9, Par (L_X3_takeOut K n 1 a1 LL s b1 b2 mn b3 b4 b5 b6 fk fv fp b7 b8 b9) (fun r => r.1 = 0) := by
    intro n; intros
    cases n with
    | zero => exact Par.no
    | succ n => rw [L_X3_takeOut_e1]; unfold B_X3_takeOut_1; exact Par.br (fun _ => Par.ret rfl) (fun _ => Par.no)
  obtain ⟨n, hn⟩ : ∃ n9, K = n9 + 1 := ⟨K - 1, by omega⟩
  generalize hz : L_X3_takeOut K K 0 a1 LL sv ops cl mn at_ kd vl pl fk fv fp cs ou f = z
  have hz2 : z = L_X3_takeOut K (n + 1) 0 a1 LL sv ops cl mn at_ kd vl pl fk fv fp cs ou f := by rw [← hn, hz]
  rw [hz2, L_X3_takeOut_e0]; unfold B_X3_takeOut_0
  refine Par.br (fun _ => ?_) (fun _ => Par.no)
  obtain ⟨ha, hj, hkk, hv, hc0, hc1⟩ := hCs
  refine Par.bd (E_X7_advance K hK mn at_ kd vl pl fk fv fp j hSt ha hj (by rw [hk]; decide)) (fun q hq => ?_)
  have hC1 : CSt mn fk fv (j + 1) q.1 q.2.1 q.2.2.1 q.2.2.2 cs := ⟨hq.1, hq.2.1, hq.2.2.1, hq.2.2.2, hc0, by omega⟩
  refine Par.bd (E_X3_takeNumber K hK a1 3 LL _ mn _ _ _ _ fk fv fp cs (j + 1) hSt hC1) (fun p hp => ?_)
  rcases hp with ⟨e1, e2⟩ | ⟨e1, e2, e3, e4⟩
  · refine Par.yes e1 ?_
    exact (h1 _ _ _ _ _ _ _ _ _ _ _).mono (fun r hr => Or.inl ⟨hr, fun _ _ _ => s_out1 hk hD e2⟩)
  · refine Par.not (by rw [e1]; decide) ?_
    refine Par.bd (E_X3_wholeSum K hK a1 LL _ ops cl mn _ _ _ _ fk fv fp cs f (j + 2) hSt e3) (fun w hw => ?_)
    rcases hw with ⟨g1, g2⟩ | ⟨g1, e, j', g2, g3, g4, g5⟩
    · refine Par.yes g1 ?_
      exact (h1 _ _ _ _ _ _ _ _ _ _ _).mono (fun r hr => Or.inl ⟨hr, fun _ _ _ => s_out2 hk hD e2 g2⟩)
    · refine Par.not (by rw [g1]; decide) ?_
      refine Par.bd (E_X3_take K hK 59 mn _ _ _ _ fk fv fp j' _ hSt g3 (by decide)) (fun p2 hp2 => ?_)
      rcases hp2 with ⟨i1, i2⟩ | ⟨i1, i2, i3⟩
      · refine Par.yes i1 ?_
        exact (h1 _ _ _ _ _ _ _ _ _ _ _).mono (fun r hr => Or.inl ⟨hr, fun _ _ _ => s_out3 hk hD e2 g2 i2⟩)
      · refine Par.not (by rw [i1]; decide) (Par.ret (Or.inr ⟨rfl, e, j' + 1, i3, ?_, g5, ?_, fun _ _ _ => s_out hk hD e2 g2 i2⟩))
        · show w.2.1 = _
          rw [g4, e4]
        · show (ou + 1).toInt = _
          have hcl := cn1_le D
          rw [ad1 ou (cn1 D) ho (by omega)]; omega
