/-! braces, loops, ifs, statements of the class against the machine, with content -/
theorem E_X3_take0 (K : Nat) (hK : 1000000000 ≤ K) (kd9 mn at_ kd vl pl : Int32) (fk fv fp : Nat → Int32) (j : Nat) (cs : Int32) (hS : STRq mn fk fv fp) (hC : CSt mn fk fv j at_ kd vl pl cs) (h9 : kd9 ≠ 0) :
    Par (F_X3_take K kd9 mn at_ kd vl pl fk fv fp) (fun r => (r.1 = 0 ∧ fk j ≠ kd9 ∧ CSt mn fk fv j r.2.1 r.2.2.1 r.2.2.2.1 r.2.2.2.2 cs) ∨ (r.1 = 1 ∧ fk j = kd9 ∧ CSt mn fk fv (j + 1) r.2.1 r.2.2.1 r.2.2.2.1 r.2.2.2.2 cs)) := by
  have hC0 := hC
  obtain ⟨ha, hj, hk, hv, hc0, hc1⟩ := hC
  unfold F_X3_take
  obtain ⟨n, rfl⟩ : ∃ n9, K = n9 + 1 := ⟨K - 1, by omega⟩
  rw [L_X3_take_e0]; unfold B_X3_take_0
  refine Par.br (fun h => ?_) (fun h => ?_)
  · have hk9 : fk j = kd9 := by rw [← hk]; exact h
    refine Par.bd (E_X7_advance _ hK mn at_ kd vl pl fk fv fp j hS ha hj (by rw [hk9]; exact h9)) (fun r hr => ?_)
    exact Par.ret (Or.inr ⟨rfl, hk9, hr.1, hr.2.1, hr.2.2.1, hr.2.2.2, hc0, by omega⟩)
  · exact Par.ret (Or.inl ⟨rfl, by rw [← hk]; exact h, hC0⟩)
theorem E_X4_isFull (K : Nat) (hK : 1000000000 ≤ K) (sz : Int32) : Par (F_X4_isFull K sz) (fun r => (r = 0 ∧ sz.toInt < 30) ∨ (r = 1 ∧ 30 ≤ sz.toInt)) := by
  unfold F_X4_isFull
  obtain ⟨n, rfl⟩ : ∃ n9, K = n9 + 1 := ⟨K - 1, by omega⟩
  rw [L_X4_isFull_e0]; unfold B_X4_isFull_0
  refine Par.br (fun h => Par.ret (Or.inl ⟨rfl, ?_⟩)) (fun h => Par.ret (Or.inr ⟨rfl, ?_⟩)) <;> rw [Int32.lt_iff_toInt_lt] at h <;> simp only [Int32.reduceToInt] at h <;> omega
theorem E_X3_begins (K : Nat) (hK : 1000000000 ≤ K) (kd : Int32) : Par (F_X3_beginsStatement K kd) (fun r => (r = 0 ∧ ¬ begK kd) ∨ (r = 1 ∧ begK kd)) := by
  unfold F_X3_beginsStatement
  have h1 : ∀ n a, begK kd → Par (L_X3_beginsStatement K n 1 a kd) (fun r => (r = 0 ∧ ¬ begK kd) ∨ (r = 1 ∧ begK kd)) := by
    intro n a hb
    cases n with
    | zero => exact Par.no
    | succ n => rw [L_X3_beginsStatement_e1]; unfold B_X3_beginsStatement_1; exact Par.ret (Or.inr ⟨rfl, hb⟩)
  obtain ⟨n, hn⟩ : ∃ n9, K = n9 + 1 := ⟨K - 1, by omega⟩
  generalize hz : L_X3_beginsStatement K K 0 0 kd = z
  have hz2 : z = L_X3_beginsStatement K (n + 1) 0 0 kd := by rw [← hn, hz]
  rw [hz2, L_X3_beginsStatement_e0]; unfold B_X3_beginsStatement_0
  refine Par.br (fun h => h1 _ _ (Or.inl h)) (fun a1 => Par.br (fun h => h1 _ _ (Or.inr (Or.inl h))) (fun a2 => Par.br (fun h => h1 _ _ (Or.inr (Or.inr (Or.inl h)))) (fun a3 => Par.br (fun h => h1 _ _ (Or.inr (Or.inr (Or.inr h)))) (fun a4 => Par.ret (Or.inl ⟨rfl, ?_⟩)))))
  rintro (h | h | h | h) <;> contradiction
def rstS (sv : Nat → Nat → Int32) (a : Nat) (l1 : Int32) : Nat → Nat → Int32 := sU (sU (sU (sU (sU (sU (sU (sU (sU sv a 0 0) a 1 0) a 2 0) a 3 l1) a 4 0) a 5 0) a 6 0) a 7 0) a 8 0
theorem rst_fr (sv : Nat → Nat → Int32) {a b : Nat} (l1 : Int32) (h : b ≠ a) (f : Nat) : rstS sv a l1 b f = sv b f := by simp [rstS, sU, h]
theorem rst_1 (sv : Nat → Nat → Int32) (a : Nat) (l1 : Int32) : rstS sv a l1 a 1 = 0 := by simp [rstS, sU]
theorem rst_3 (sv : Nat → Nat → Int32) (a : Nat) (l1 : Int32) : rstS sv a l1 a 3 = l1 := by simp [rstS, sU]
theorem rst_4 (sv : Nat → Nat → Int32) (a : Nat) (l1 : Int32) : rstS sv a l1 a 4 = 0 := by simp [rstS, sU]
theorem rst_5 (sv : Nat → Nat → Int32) (a : Nat) (l1 : Int32) : rstS sv a l1 a 5 = 0 := by simp [rstS, sU]
theorem rst_6 (sv : Nat → Nat → Int32) (a : Nat) (l1 : Int32) : rstS sv a l1 a 6 = 0 := by simp [rstS, sU]
theorem E_X4_append (K : Nat) (hK : 1000000000 ≤ K) (l1 : Int32) (LL : List Nat) (sv : Nat → Nat → Int32) (sz : Int32) (ppg : Nat → Option Nat) (d : Nat) (h : sz.toInt = (d : Int)) (hd : d < 30) :
    Par (F_X4_append K l1 LL sv sz ppg) (fun r => ppg d = some r.1 ∧ r.2.1 = rstS sv r.1 l1 ∧ r.2.2.toInt = (d : Int) + 1) := by
  unfold F_X4_append
  obtain ⟨n, hn⟩ : ∃ n9, K = n9 + 1 := ⟨K - 1, by omega⟩
  generalize hz : L_X4_append K K 0 l1 LL sv sz ppg = z
  have hz2 : z = L_X4_append K (n + 1) 0 l1 LL sv sz ppg := by rw [← hn, hz]
  rw [hz2, L_X4_append_e0]; unfold B_X4_append_0
  have hi : (if 29 < sz then 29 else sz) = sz := by
    rw [if_neg]
    rw [Int32.lt_iff_toInt_lt]; simp only [Int32.reduceToInt]; omega
  rw [hi, cl1 sz d h]
  have hs : (sz + 1).toInt = (d : Int) + 1 := by rw [ad1 sz d h (by omega)]; rfl
  refine Par.br (fun _ => ?_) (fun _ => Par.no)
  refine Par.bd (P := fun a => ppg d = some a) (fun a ha => ha) (fun a ha => ?_)
  refine Par.br (fun _ => ?_) (fun _ => Par.no)
  have hre : Par (F_X5_reset K a l1 LL sv) (fun r => r = rstS sv a l1) := by
    unfold F_X5_reset
    generalize hy : L_X5_reset K K 0 a l1 LL sv = y
    have hy2 : y = L_X5_reset K (n + 1) 0 a l1 LL sv := by rw [← hn, hy]
    rw [hy2, L_X5_reset_e0]; unfold B_X5_reset_0
    exact Par.br (fun _ => Par.ret rfl) (fun _ => Par.no)
  refine Par.bd hre (fun q hq => ?_)
  refine Par.br (fun _ => ?_) (fun _ => Par.no)
  refine Par.bd (P := fun b => ppg d = some b) (fun b hb => hb) (fun b hb => ?_)
  refine Par.br (fun _ => Par.ret ⟨hb, ?_, hs⟩) (fun _ => Par.no)
  rw [ha] at hb
  rw [← Option.some.inj hb]; exact hq
theorem get_at (D X : List SRc) (x : SRc) : (D ++ [x] ++ X)[D.length]? = some x := by simp
theorem kd_at (D X : List SRc) (x : SRc) : kdO (D ++ [x] ++ X) D.length = some x.1 := by unfold kdO; rw [get_at]; rfl
theorem ofN_i (x : Int32) (n : Nat) (hn : n < 1000000) (h : x.toInt = (n : Int)) : Int32.ofNat n = x := Int32.toInt_inj.mp (by rw [h]; exact Int32.toInt_ofNat_of_lt (by omega))
def SpS (cal : CStT) : Prop := ∀ (l1 l2 : Int32) (LL : List Nat) (sv : Nat → Nat → Int32) (ops cl mn at_ kd vl pl : Int32) (fk fv fp : Nat → Int32) (sz cs ou us : Int32) (ppg : Nat → Option Nat) (ppk : Nat → Int32) (D : List SRc) (M N : Nat → Nat) (b : Nat) (j : Nat), STRq mn fk fv fp → CSt mn fk fv j at_ kd vl pl cs → PGi ppg → l2.toInt = (b : Int) → b ≤ 6 → sz.toInt = (D.length : Int) → D.length ≤ 30 → ou.toInt = (cn1 D : Int) →
  Par (cal l1 l2 LL sv ops cl mn at_ kd vl pl fk fv fp sz cs ou us ppg ppk) (StsP mn fk fv ppg l1 D M N sv ppk cs us b j)
def SpT (cal : CStT) : Prop := ∀ (l1 l2 : Int32) (LL : List Nat) (sv : Nat → Nat → Int32) (ops cl mn at_ kd vl pl : Int32) (fk fv fp : Nat → Int32) (sz cs ou us : Int32) (ppg : Nat → Option Nat) (ppk : Nat → Int32) (D : List SRc) (M N : Nat → Nat) (b : Nat) (j : Nat), STRq mn fk fv fp → CSt mn fk fv j at_ kd vl pl cs → PGi ppg → l2.toInt = (b : Int) → b ≤ 6 → sz.toInt = (D.length : Int) → D.length < 30 → ou.toInt = (cn1 D : Int) → begK (fk j) →
  Par (cal l1 l2 LL sv ops cl mn at_ kd vl pl fk fv fp sz cs ou us ppg ppk) (StnP mn fk fv ppg l1 D M N sv ppk cs us b j)
/-- a statement with others under it, its end not written yet -/
def IfnP (mn : Int32) (fk fv : Nat → Int32) (ppg : Nat → Option Nat) (a1 : Nat) (D : List SRc) (M N : Nat → Nat) (sv : Nat → Nat → Int32) (ppk : Nat → Int32) (cs us : Int32) (b : Nat) (j : Nat) (r : R13) : Prop :=
  (r.1 = 0 ∧ ∀ S : List (Nat × Bool), S.length = b → parO S = sv a1 3 → Fl2 fk fv (D, M, N, S, j)) ∨
  (r.1 = 1 ∧ ∃ (w nm : Int32) (e : List Int32) (cf : Nat) (X : List SRc) (M2 N2 : Nat → Nat) (j' : Nat), (w = 2 ∨ w = 3) ∧ SSt mn fk fv (D ++ [(w, nm, e, sv a1 3)] ++ X) j' r ∧
    (r.2.1 a1 0 = w ∧ r.2.1 a1 1 = nm ∧ r.2.1 a1 3 = sv a1 3 ∧ (r.2.1 a1 4).toInt = (cf : Int) ∧ (r.2.1 a1 5).toInt = ((cf + e.length : Nat) : Int) ∧ ((cf + e.length : Nat) : Int) ≤ (r.2.2.2.2.2.2.2.2.2.1).toInt ∧ (∀ (t : Nat) (x : Int32), e[t]? = some x → r.2.2.2.2.2.2.2.2.2.2.2.2 (cf + t) = encc x) ∧ r.2.1 a1 6 = CMk e 0 ∧ (w = 2 → (r.2.1 a1 7).toInt = (M2 D.length : Int)) ∧ N2 D.length = (D ++ [(w, nm, e, sv a1 3)] ++ X).length) ∧
    (∀ i : Nat, i < D.length → M2 i = M i ∧ N2 i = N i) ∧
    (∀ a : Nat, (∀ i : Nat, D.length ≤ i → i < 30 → ppg i ≠ some a) → ∀ z : Nat, r.2.1 a z = sv a z) ∧
    (∀ t : Nat, (t : Int) < cs.toInt → r.2.2.2.2.2.2.2.2.2.2.2.2 t = ppk t) ∧ cs.toInt ≤ (r.2.2.2.2.2.2.2.2.2.1).toInt ∧
    (∀ i : Nat, D.length < i → i < (D ++ [(w, nm, e, sv a1 3)] ++ X).length → RowC ppg r.2.1 r.2.2.2.2.2.2.2.2.2.2.2.2 (D ++ [(w, nm, e, sv a1 3)] ++ X) M2 N2 (r.2.2.2.2.2.2.2.2.2.1).toInt i) ∧
    r.2.2.2.2.2.2.2.2.2.2.2.1 = us ||| usX X ∧
    ∀ S : List (Nat × Bool), S.length = b → parO S = sv a1 3 → Rc2 fk fv (D, M, N, S, j) (D ++ [(w, nm, e, sv a1 3)] ++ X, M2, N2, S, j'))
def SpI (kk : Int32) (cal : Nat → CStT) : Prop := ∀ (a1 : Nat) (l2 l3 : Int32) (LL : List Nat) (sv : Nat → Nat → Int32) (ops cl mn at_ kd vl pl : Int32) (fk fv fp : Nat → Int32) (sz cs ou us : Int32) (ppg : Nat → Option Nat) (ppk : Nat → Int32) (D : List SRc) (M N : Nat → Nat) (b : Nat) (j : Nat), STRq mn fk fv fp → CSt mn fk fv j at_ kd vl pl cs → PGi ppg → ppg D.length = some a1 → l2.toInt = (D.length : Int) → l3.toInt = (b : Int) → b ≤ 6 → sz.toInt = (D.length : Int) + 1 → D.length < 30 → ou.toInt = (cn1 D : Int) → (sv a1 1 = 0 ∧ sv a1 4 = 0 ∧ sv a1 5 = 0 ∧ sv a1 6 = 0) → fk j = kk →
  Par (cal a1 l2 l3 LL sv ops cl mn at_ kd vl pl fk fv fp sz cs ou us ppg ppk) (IfnP mn fk fv ppg a1 D M N sv ppk cs us b j)
def BrcP (mn : Int32) (fk fv : Nat → Int32) (ppg : Nat → Option Nat) (l1 : Int32) (D : List SRc) (M N : Nat → Nat) (sv : Nat → Nat → Int32) (ppk : Nat → Int32) (cs us : Int32) (b : Nat) (j : Nat) (r : R13) : Prop :=
  (r.1 = 0 ∧ (¬ (fk j = 123 ∧ b < 6) ∨ ((fk j = 123 ∧ b < 6) ∧ ∀ (i : Nat) (p : Bool) (S : List (Nat × Bool)), S.length = b → Int32.ofNat i = l1 → Fl2 fk fv (D, M, N, (i, p) :: S, j + 1)))) ∨
  (r.1 = 1 ∧ (fk j = 123 ∧ b < 6) ∧ ∃ (X : List SRc) (M2 N2 : Nat → Nat) (j' : Nat), fk j' = 125 ∧ SSt mn fk fv (D ++ X) (j' + 1) r ∧ ConT ppg D X sv ppk cs us M N M2 N2 r ∧ ∀ (i : Nat) (p : Bool) (S : List (Nat × Bool)), S.length = b → Int32.ofNat i = l1 → Rc2 fk fv (D, M, N, (i, p) :: S, j + 1) (D ++ X, M2, N2, (i, p) :: S, j'))
def SpB (cal : CStT) : Prop := ∀ (l1 l2 : Int32) (LL : List Nat) (sv : Nat → Nat → Int32) (ops cl mn at_ kd vl pl : Int32) (fk fv fp : Nat → Int32) (sz cs ou us : Int32) (ppg : Nat → Option Nat) (ppk : Nat → Int32) (D : List SRc) (M N : Nat → Nat) (b : Nat) (j : Nat), STRq mn fk fv fp → CSt mn fk fv j at_ kd vl pl cs → PGi ppg → l2.toInt = (b : Int) → b ≤ 6 → sz.toInt = (D.length : Int) → D.length ≤ 30 → ou.toInt = (cn1 D : Int) →
  Par (cal l1 l2 LL sv ops cl mn at_ kd vl pl fk fv fp sz cs ou us ppg ppk) (BrcP mn fk fv ppg l1 D M N sv ppk cs us b j)
theorem Q_X3_takeBraced (K : Nat) (hK : 1000000000 ≤ K) (cS cT : CStT) (cI cL : Nat → CStT) (cB : CStT) (hS : SpS cS) :
    SpB (fun l1 l2 LL sv ops cl mn at_ kd vl pl fk fv fp sz cs ou us ppg ppk => L_X3_takeBraced K cS cT cI cL cB K 0 l1 l2 LL sv ops cl mn at_ kd vl pl fk fv fp sz cs ou us ppg ppk) := by
  intro l1 l2 LL sv ops cl mn at_ kd vl pl fk fv fp sz cs ou us ppg ppk D M N b j hSt hCs hpg hl2 hb hsz hD ho
  have hf : ∀ n b0 b1 s c1 c2 c3 c4 c5 c6 c7 c8 c9 c10 c11, Par (L_X3_takeBraced K cS cT cI cL cB n 1 b0 b1 LL s c1 c2 mn c3 c4 c5 c6 fk fv fp c7 c8 c9 c10 ppg c11) (fun r => r.1 = 0) := by
    intro n; intros
    cases n with
    | zero => exact Par.no
    | succ n => rw [L_X3_takeBraced_e1]; unfold B_X3_takeBraced_1; exact Par.ret rfl
  show Par (L_X3_takeBraced K cS cT cI cL cB K 0 l1 l2 LL sv ops cl mn at_ kd vl pl fk fv fp sz cs ou us ppg ppk) (BrcP mn fk fv ppg l1 D M N sv ppk cs us b j)
  generalize hz : L_X3_takeBraced K cS cT cI cL cB K 0 l1 l2 LL sv ops cl mn at_ kd vl pl fk fv fp sz cs ou us ppg ppk = z
  obtain ⟨n, hn⟩ : ∃ n9, K = n9 + 1 := ⟨K - 1, by omega⟩
  have hz2 : z = L_X3_takeBraced K cS cT cI cL cB (n + 1) 0 l1 l2 LL sv ops cl mn at_ kd vl pl fk fv fp sz cs ou us ppg ppk := by rw [← hn, hz]
  rw [hz2, L_X3_takeBraced_e0]; unfold B_X3_takeBraced_0
  refine Par.br (fun h => ?_) (fun h => ?_)
  · rw [Int32.le_iff_toInt_le] at h
    simp only [Int32.reduceToInt] at h
    exact (hf _ _ _ _ _ _ _ _ _ _ _ _ _ _ _).mono (fun r hr => Or.inl ⟨hr, Or.inl (fun h9 => by omega)⟩)
  · rw [Int32.le_iff_toInt_le] at h
    simp only [Int32.reduceToInt] at h
    refine Par.bd (E_X3_take K hK 123 mn at_ kd vl pl fk fv fp j cs hSt hCs (by decide)) (fun p hp => ?_)
    rcases hp with ⟨e1, e2⟩ | ⟨e1, e2, e3⟩
    · refine Par.yes e1 ?_
      exact (hf _ _ _ _ _ _ _ _ _ _ _ _ _ _ _).mono (fun r hr => Or.inl ⟨hr, Or.inl (fun h9 => e2 h9.1)⟩)
    · refine Par.not (by rw [e1]; decide) ?_
      have hok : fk j = 123 ∧ b < 6 := ⟨e2, by omega⟩
      refine Par.bd (hS l1 (l2 + 1) LL sv ops cl mn _ _ _ _ fk fv fp sz cs ou us ppg ppk D M N (b + 1) (j + 1) hSt e3 hpg (ad1 l2 b hl2 (by omega)) (by omega) hsz hD ho) (fun q hq => ?_)
      rcases hq with ⟨g1, g2⟩ | ⟨g1, X, M2, N2, j', g2, gc, g3, g4⟩
      · refine Par.yes g1 ?_
        exact (hf _ _ _ _ _ _ _ _ _ _ _ _ _ _ _).mono (fun r hr => Or.inl ⟨hr, Or.inr ⟨hok, fun i p9 S hS9 hi9 => g2 _ (by rw [List.length_cons, hS9]) hi9⟩⟩)
      · refine Par.not (by rw [g1]; decide) ?_
        refine Par.bd (E_X3_take K hK 125 mn _ _ _ _ fk fv fp j' _ hSt g2.1 (by decide)) (fun p2 hp2 => ?_)
        rcases hp2 with ⟨i1, i2⟩ | ⟨i1, i2, i3⟩
        · refine Par.yes i1 ?_
          exact (hf _ _ _ _ _ _ _ _ _ _ _ _ _ _ _).mono (fun r hr => Or.inl ⟨hr, Or.inr ⟨hok, fun i p9 S hS9 hi9 => (g4 ((i, p9) :: S) (by rw [List.length_cons, hS9]) hi9).fl (s_ncl g3 i2)⟩⟩)
        · refine Par.not (by rw [i1]; decide) (Par.ret (Or.inr ⟨rfl, hok, X, M2, N2, j', i2, ⟨i3, g2.2⟩, gc, fun i p9 S hS9 hi9 => g4 ((i, p9) :: S) (by rw [List.length_cons, hS9]) hi9⟩))
theorem RowC.re {ppg : Nat → Option Nat} {sv sw : Nat → Nat → Int32} {f g : Nat → Int32} {D : List SRc} {M N M2 N2 : Nat → Nat} {cs ds : Int} {i : Nat} (h : RowC ppg sv f D M N cs i) (hs : ∀ a : Nat, ppg i = some a → ∀ z : Nat, sw a z = sv a z) (hg : ∀ t : Nat, (t : Int) < cs → g t = f t) (hc : cs ≤ ds) (hM : M2 i = M i) (hN : N2 i = N i) : RowC ppg sw g D M2 N2 ds i := by
  have := h.mono (X := []) hs hg hc hM hN
  rw [List.append_nil] at this
  exact this
theorem Q_X3_takeLoop (K : Nat) (hK : 1000000000 ≤ K) (cS cT : CStT) (cI cL : Nat → CStT) (cB : CStT) (hB : SpB cB) :
    SpI 7 (fun a1 l2 l3 LL sv ops cl mn at_ kd vl pl fk fv fp sz cs ou us ppg ppk => L_X3_takeLoop K cS cT cI cL cB K 0 a1 l2 l3 LL sv ops cl mn at_ kd vl pl fk fv fp sz cs ou us ppg ppk) := by
  intro a1 l2 l3 LL sv ops cl mn at_ kd vl pl fk fv fp sz cs ou us ppg ppk D M N b j hSt hCs hpg hpa hl2 hl3 hb hsz hD ho h0 hk
  have hf : ∀ n b0 b1 b2 s c1 c2 c3 c4 c5 c6 c7 c8 c9 c10 c11, Par (L_X3_takeLoop K cS cT cI cL cB n 1 b0 b1 b2 LL s c1 c2 mn c3 c4 c5 c6 fk fv fp c7 c8 c9 c10 ppg c11) (fun r => r.1 = 0) := by
    intro n; intros
    cases n with
    | zero => exact Par.no
    | succ n => rw [L_X3_takeLoop_e1]; unfold B_X3_takeLoop_1; exact Par.br (fun _ => Par.ret rfl) (fun _ => Par.no)
  show Par (L_X3_takeLoop K cS cT cI cL cB K 0 a1 l2 l3 LL sv ops cl mn at_ kd vl pl fk fv fp sz cs ou us ppg ppk) (IfnP mn fk fv ppg a1 D M N sv ppk cs us b j)
  generalize hz : L_X3_takeLoop K cS cT cI cL cB K 0 a1 l2 l3 LL sv ops cl mn at_ kd vl pl fk fv fp sz cs ou us ppg ppk = z
  obtain ⟨n, hn⟩ : ∃ n9, K = n9 + 1 := ⟨K - 1, by omega⟩
  have hz2 : z = L_X3_takeLoop K cS cT cI cL cB (n + 1) 0 a1 l2 l3 LL sv ops cl mn at_ kd vl pl fk fv fp sz cs ou us ppg ppk := by rw [← hn, hz]
  rw [hz2, L_X3_takeLoop_e0]; unfold B_X3_takeLoop_0
  refine Par.br (fun _ => ?_) (fun _ => Par.no)
  obtain ⟨ha, hj, hkk, hv, hc0, hc1⟩ := hCs
  refine Par.bd (E_X7_advance K hK mn at_ kd vl pl fk fv fp j hSt ha hj (by rw [hk]; decide)) (fun q hq => ?_)
  have hC1 : CSt mn fk fv (j + 1) q.1 q.2.1 q.2.2.1 q.2.2.2 cs := ⟨hq.1, hq.2.1, hq.2.2.1, hq.2.2.2, hc0, by omega⟩
  refine Par.bd (E_X3_takeNumber K hK a1 8 LL _ mn _ _ _ _ fk fv fp cs (j + 1) hSt hC1) (fun p hp => ?_)
  rcases hp with ⟨e1, e2⟩ | ⟨e1, e2, e3, e4⟩
  · refine Par.yes e1 ?_
    exact (hf _ _ _ _ _ _ _ _ _ _ _ _ _ _ _ _).mono (fun r hr => Or.inl ⟨hr, fun S hS _ => s_loop1 hk hD e2⟩)
  · refine Par.not (by rw [e1]; decide) ?_
    have hlen1 : (D ++ [((3 : Int32), fv (j + 1), ([] : List Int32), sv a1 3)]).length = D.length + 1 := by rw [List.length_append, List.length_singleton]
    refine Par.bd (hB l2 l3 LL _ ops cl mn _ _ _ _ fk fv fp sz cs ou us ppg ppk (D ++ [(3, fv (j + 1), [], sv a1 3)]) M N b (j + 2) hSt e3 hpg hl3 hb (by rw [hsz, hlen1]; rfl) (by rw [hlen1]; omega) (by rw [ho, cn1_0 D _ (by show (3 : Int32) ≠ 1; decide)])) (fun w hw => ?_)
    have hself : Int32.ofNat D.length = l2 := ofN_i l2 D.length (by omega) hl2
    rcases hw with ⟨g1, g2⟩ | ⟨g1, g2, X, M1, N1, j', g3, g4, gc, g5⟩
    · refine Par.yes g1 ?_
      refine (hf _ _ _ _ _ _ _ _ _ _ _ _ _ _ _ _).mono (fun r hr => Or.inl ⟨hr, fun S hS hP => ?_⟩)
      rcases g2 with g2 | ⟨g2, g3⟩
      · exact s_loop3 hk hD e2 (by rw [hS]; exact g2)
      · have := s_loop (M := M) (N := N) (S := S) hk hD e2 (by rw [hS]; exact g2)
        rw [hP] at this
        exact this.fl (g3 _ _ S hS hself)
    · refine Par.not (by rw [g1]; decide) ?_
      obtain ⟨k1, k2, k3, k4, k5, k6⟩ := gc
      have hfr : ∀ z : Nat, w.2.1 a1 z = sU (sU sv a1 0 3) a1 1 (fv (j + 1)) a1 z := by
        intro z
        rw [k2 a1 (fun i h1 h2 h3 => ?_) z, e4]
        have := hpg D.length i a1 hD h2 hpa h3
        rw [hlen1] at h1
        omega
      have hl9 : (D ++ [((3 : Int32), fv (j + 1), ([] : List Int32), sv a1 3)] ++ X).length ≤ 30 := g4.2.2.1
      refine Par.ret (Or.inr ⟨rfl, 3, fv (j + 1), [], 0, X, upN M1 D.length (D ++ [((3 : Int32), fv (j + 1), ([] : List Int32), sv a1 3)] ++ X).length, upN N1 D.length (D ++ [((3 : Int32), fv (j + 1), ([] : List Int32), sv a1 3)] ++ X).length, j' + 1, Or.inr rfl, g4, ⟨?_, ?_, ?_, ?_, ?_, ?_, fun t x hx => ?_, ?_, fun h => absurd h (by decide), upN_eq _ _ _⟩, fun i hi => ?_, fun a h z => ?_, k3, k4, fun i h1 h2 => ?_, k6, fun S hS hP => ?_⟩)
      · show w.2.1 a1 0 = 3
        rw [hfr, sU_ne _ _ _ (by decide), sU_eq]
      · show w.2.1 a1 1 = _
        rw [hfr, sU_eq]
      · show w.2.1 a1 3 = _
        rw [hfr, sU_ne _ _ _ (by decide), sU_ne _ _ _ (by decide)]
      · show (w.2.1 a1 4).toInt = _
        rw [hfr, sU_ne _ _ _ (by decide), sU_ne _ _ _ (by decide), h0.2.1]; rfl
      · show (w.2.1 a1 5).toInt = _
        rw [hfr, sU_ne _ _ _ (by decide), sU_ne _ _ _ (by decide), h0.2.2.1]; rfl
      · show ((0 + 0 : Nat) : Int) ≤ w.2.2.2.2.2.2.2.2.2.1.toInt
        omega
      · simp at hx
      · show w.2.1 a1 6 = _
        rw [hfr, sU_ne _ _ _ (by decide), sU_ne _ _ _ (by decide), h0.2.2.2]; rfl
      · rw [upN_ne _ _ (by omega), upN_ne _ _ (by omega)]
        exact k1 i (by rw [hlen1]; omega)
      · show w.2.1 a z = sv a z
        have hne : a ≠ a1 := fun h9 => h D.length (Nat.le_refl _) hD (by rw [h9]; exact hpa)
        rw [k2 a (fun i h1 h2 => h i (by rw [hlen1] at h1; omega) h2) z, e4, sU_fr _ _ _ _ hne, sU_fr _ _ _ _ hne]
      · refine (k5 i (by rw [hlen1]; omega) h2).re (fun _ _ _ => rfl) (fun _ _ => rfl) (Int.le_refl _) (upN_ne _ _ (by omega)) (upN_ne _ _ (by omega))
      · have h1 := s_loop (M := M) (N := N) (S := S) hk hD e2 (by rw [hS]; exact g2)
        rw [hP] at h1
        refine (h1.tr (g5 _ _ S hS hself)).tr (s_cl g3 ?_)
        rintro ⟨_, h9, _⟩
        rw [kd_at] at h9
        exact absurd (Option.some.inj h9) (by show (3 : Int32) ≠ 2; decide)
theorem Q_X3_takeIf (K : Nat) (hK : 1000000000 ≤ K) (cS cT : CStT) (cI cL : Nat → CStT) (cB : CStT) (hB : SpB cB) :
    SpI 5 (fun a1 l2 l3 LL sv ops cl mn at_ kd vl pl fk fv fp sz cs ou us ppg ppk => L_X3_takeIf K cS cT cI cL cB K 0 a1 l2 l3 LL sv ops cl mn at_ kd vl pl fk fv fp sz cs ou us ppg ppk) := by
  intro a1 l2 l3 LL sv ops cl mn at_ kd vl pl fk fv fp sz cs ou us ppg ppk D M N b j hSt hCs hpg hpa hl2 hl3 hb hsz hD ho h0 hk
  have hf : ∀ n b0 b1 b2 s c1 c2 c3 c4 c5 c6 c7 c8 c9 c10 c11, Par (L_X3_takeIf K cS cT cI cL cB n 1 b0 b1 b2 LL s c1 c2 mn c3 c4 c5 c6 fk fv fp c7 c8 c9 c10 ppg c11) (fun r => r.1 = 0) := by
    intro n; intros
    cases n with
    | zero => exact Par.no
    | succ n => rw [L_X3_takeIf_e1]; unfold B_X3_takeIf_1; exact Par.br (fun _ => Par.ret rfl) (fun _ => Par.no)
  have hg : ∀ (Q : R13 → Prop) n b0 b1 b2 s c1 c2 c3 c4 c5 c6 c7 c8 c9 c10 c11, Q (1, s, c1, c2, c3, c4, c5, c6, c7, c8, c9, c10, c11) → Par (L_X3_takeIf K cS cT cI cL cB n 2 b0 b1 b2 LL s c1 c2 mn c3 c4 c5 c6 fk fv fp c7 c8 c9 c10 ppg c11) Q := by
    intro Q n b0 b1 b2 s c1 c2 c3 c4 c5 c6 c7 c8 c9 c10 c11 hQ
    cases n with
    | zero => exact Par.no
    | succ n => rw [L_X3_takeIf_e2]; unfold B_X3_takeIf_2; exact Par.br (fun _ => Par.ret hQ) (fun _ => Par.no)
  show Par (L_X3_takeIf K cS cT cI cL cB K 0 a1 l2 l3 LL sv ops cl mn at_ kd vl pl fk fv fp sz cs ou us ppg ppk) (IfnP mn fk fv ppg a1 D M N sv ppk cs us b j)
  generalize hz : L_X3_takeIf K cS cT cI cL cB K 0 a1 l2 l3 LL sv ops cl mn at_ kd vl pl fk fv fp sz cs ou us ppg ppk = z
  obtain ⟨n, hn⟩ : ∃ n9, K = n9 + 1 := ⟨K - 1, by omega⟩
  have hz2 : z = L_X3_takeIf K cS cT cI cL cB (n + 1) 0 a1 l2 l3 LL sv ops cl mn at_ kd vl pl fk fv fp sz cs ou us ppg ppk := by rw [← hn, hz]
  rw [hz2, L_X3_takeIf_e0]; unfold B_X3_takeIf_0
  refine Par.br (fun _ => ?_) (fun _ => Par.no)
  obtain ⟨ha, hj, hkk, hv, hc0, hc1⟩ := hCs
  refine Par.bd (E_X7_advance K hK mn at_ kd vl pl fk fv fp j hSt ha hj (by rw [hk]; decide)) (fun q hq => ?_)
  have hC1 : CSt mn fk fv (j + 1) q.1 q.2.1 q.2.2.1 q.2.2.2 cs := ⟨hq.1, hq.2.1, hq.2.2.1, hq.2.2.2, hc0, by omega⟩
  have hself : Int32.ofNat D.length = l2 := ofN_i l2 D.length (by omega) hl2
  refine Par.bd (E_X3_wholeSum K hK a1 LL _ ops cl mn _ _ _ _ fk fv fp cs ppk (j + 1) hSt hC1) (fun p hp => ?_)
  rcases hp with ⟨e1, e2⟩ | ⟨e1, e, j1, e2, e3, e4, e5⟩
  · refine Par.yes e1 ?_
    exact (hf _ _ _ _ _ _ _ _ _ _ _ _ _ _ _ _).mono (fun r hr => Or.inl ⟨hr, fun S hS _ => s_if2 hk hD e2⟩)
  · refine Par.not (by rw [e1]; decide) ?_
    have hlen1 : (D ++ [((2 : Int32), (0 : Int32), e, sv a1 3)]).length = D.length + 1 := by rw [List.length_append, List.length_singleton]
    refine Par.bd (hB l2 l3 LL _ _ _ mn _ _ _ _ fk fv fp sz _ ou us ppg _ (D ++ [(2, 0, e, sv a1 3)]) M N b j1 hSt e3 hpg hl3 hb (by rw [hsz, hlen1]; rfl) (by rw [hlen1]; omega) (by rw [ho, cn1_0 D _ (by show (2 : Int32) ≠ 1; decide)])) (fun w hw => ?_)
    rcases hw with ⟨g1, g2⟩ | ⟨g1, g2, X, M1, N1, j2, g3, g4, gc, g5⟩
    · refine Par.yes g1 ?_
      refine (hf _ _ _ _ _ _ _ _ _ _ _ _ _ _ _ _).mono (fun r hr => Or.inl ⟨hr, fun S hS hP => ?_⟩)
      rcases g2 with g2 | ⟨g2, g3⟩
      · exact s_if3 hk hD e2 (by rw [hS]; exact g2)
      · have := s_if (M := M) (N := N) (S := S) hk hD e2 (by rw [hS]; exact g2)
        rw [hP] at this
        exact this.fl (g3 _ _ S hS hself)
    · refine Par.not (by rw [g1]; decide) ?_
      obtain ⟨k1, k2, k3, k4, k5, k6⟩ := gc
      have hl9 : (D ++ [((2 : Int32), (0 : Int32), e, sv a1 3)] ++ X).length ≤ 30 := g4.2.2.1
      have hlX : (D ++ [((2 : Int32), (0 : Int32), e, sv a1 3)] ++ X).length = D.length + 1 + X.length := by rw [List.length_append, hlen1]
      have hin : ∀ S : List (Nat × Bool), S.length = b → parO S = sv a1 3 → Rc2 fk fv (D, M, N, S, j) (D ++ [(2, 0, e, sv a1 3)] ++ X, M1, N1, (D.length, false) :: S, j2) := by
        intro S hS hP
        have := s_if (M := M) (N := N) (S := S) hk hD e2 (by rw [hS]; exact g2)
        rw [hP] at this
        exact this.tr (g5 _ _ S hS hself)
      have hne1 : ∀ i : Nat, i < 30 → D.length < i → ppg i ≠ some a1 := fun i h1 h2 h3 => by
        have := hpg D.length i a1 hD h1 hpa h3
        omega
      have hfr : ∀ z : Nat, w.2.1 a1 z = sU (sU (sU (sU sv a1 0 2) a1 4 cs) a1 5 p.2.2.2.2.2.2.2.2.1) a1 6 (CMk e 0) a1 z := by
        intro z
        rw [k2 a1 (fun i h1 h2 => hne1 i h2 (by rw [hlen1] at h1; omega)) z, e4]
      have hcf : ((cs.toInt.toNat : Nat) : Int) = cs.toInt := by omega
      -- the statement's own fields, whatever stands in its seventh
      have hown : ∀ (s9 : Nat → Nat → Int32) (f9 : Nat → Int32), (∀ z : Nat, z ≠ 7 → s9 a1 z = w.2.1 a1 z) → (∀ t : Nat, (t : Int) < (w.2.2.2.2.2.2.2.2.2.1).toInt → f9 t = w.2.2.2.2.2.2.2.2.2.2.2.2 t) → s9 a1 0 = 2 ∧ s9 a1 1 = 0 ∧ s9 a1 3 = sv a1 3 ∧ (s9 a1 4).toInt = ((cs.toInt.toNat : Nat) : Int) ∧ (s9 a1 5).toInt = ((cs.toInt.toNat + e.length : Nat) : Int) ∧ ((cs.toInt.toNat + e.length : Nat) : Int) ≤ (w.2.2.2.2.2.2.2.2.2.1).toInt ∧ (∀ (t : Nat) (x : Int32), e[t]? = some x → f9 (cs.toInt.toNat + t) = encc x) ∧ s9 a1 6 = CMk e 0 := by
        intro s9 f9 hs9 hf9
        obtain ⟨m1, m2, m3⟩ := e5
        refine ⟨?_, ?_, ?_, ?_, ?_, ?_, fun t x hx => ?_, ?_⟩
        · rw [hs9 0 (by decide), hfr, sU_ne _ _ _ (by decide), sU_ne _ _ _ (by decide), sU_ne _ _ _ (by decide), sU_eq]
        · rw [hs9 1 (by decide), hfr, sU_ne _ _ _ (by decide), sU_ne _ _ _ (by decide), sU_ne _ _ _ (by decide), sU_ne _ _ _ (by decide), h0.1]
        · rw [hs9 3 (by decide), hfr, sU_ne _ _ _ (by decide), sU_ne _ _ _ (by decide), sU_ne _ _ _ (by decide), sU_ne _ _ _ (by decide)]
        · rw [hs9 4 (by decide), hfr, sU_ne _ _ _ (by decide), sU_ne _ _ _ (by decide), sU_eq, hcf]
        · rw [hs9 5 (by decide), hfr, sU_ne _ _ _ (by decide), sU_eq, m1]; omega
        · have := m1; omega
        · have ht : t < e.length := by
            rcases Nat.lt_or_ge t e.length with h | h
            · exact h
            · rw [List.getElem?_eq_none h] at hx; cases hx
          rw [hf9 _ (by have := m1; omega), k3 _ (by have := m1; omega)]
          exact m3 t x hx
        · rw [hs9 6 (by decide), hfr, sU_eq]
      have hcs1 : cs.toInt ≤ (p.2.2.2.2.2.2.2.2.1).toInt := by have := e5.1; omega
      refine Par.bd (E_X3_take0 K hK 6 mn _ _ _ _ fk fv fp (j2 + 1) _ hSt g4.1 (by decide)) (fun p2 hp2 => ?_)
      have hB1 : ∀ z : Nat, z ≠ 7 → sU w.2.1 a1 7 w.2.2.2.2.2.2.2.2.1 a1 z = w.2.1 a1 z := fun z h => sU_ne _ _ _ h
      rcases hp2 with ⟨i1, i2, i3⟩ | ⟨i1, i2, i3⟩
      · refine Par.yes i1 ?_
        have ho1 := hown (sU w.2.1 a1 7 w.2.2.2.2.2.2.2.2.1) w.2.2.2.2.2.2.2.2.2.2.2.2 hB1 (fun _ _ => rfl)
        refine hg _ _ _ _ _ _ _ _ _ _ _ _ _ _ _ _ _ (Or.inr ⟨rfl, 2, 0, e, cs.toInt.toNat, X, upN M1 D.length (D ++ [((2 : Int32), (0 : Int32), e, sv a1 3)] ++ X).length, upN N1 D.length (D ++ [((2 : Int32), (0 : Int32), e, sv a1 3)] ++ X).length, j2 + 1, Or.inl rfl, ⟨i3, g4.2⟩, ⟨ho1.1, ho1.2.1, ho1.2.2.1, ho1.2.2.2.1, ho1.2.2.2.2.1, ho1.2.2.2.2.2.1, ho1.2.2.2.2.2.2.1, ho1.2.2.2.2.2.2.2, fun _ => ?_, upN_eq _ _ _⟩, fun i hi => ?_, fun a h z => ?_, fun t ht => ?_, ?_, fun i h1 h2 => ?_, k6, fun S hS hP => ?_⟩)
        · show (sU w.2.1 a1 7 w.2.2.2.2.2.2.2.2.1 a1 7).toInt = _
          rw [sU_eq, upN_eq]; exact g4.2.1
        · rw [upN_ne _ _ (by omega), upN_ne _ _ (by omega)]
          exact k1 i (by rw [hlen1]; omega)
        · show sU w.2.1 a1 7 w.2.2.2.2.2.2.2.2.1 a z = sv a z
          have hne : a ≠ a1 := fun h9 => h D.length (Nat.le_refl _) hD (by rw [h9]; exact hpa)
          rw [sU_fr _ _ _ _ hne, k2 a (fun i h1 h2 => h i (by rw [hlen1] at h1; omega) h2) z, e4, sU_fr _ _ _ _ hne, sU_fr _ _ _ _ hne, sU_fr _ _ _ _ hne, sU_fr _ _ _ _ hne]
        · show w.2.2.2.2.2.2.2.2.2.2.2.2 t = _
          rw [k3 t (by omega)]; exact e5.2.1 t ht
        · show cs.toInt ≤ (w.2.2.2.2.2.2.2.2.2.1).toInt
          omega
        · refine (k5 i (by rw [hlen1]; omega) h2).re (fun a ha z => sU_fr _ _ _ _ (fun h9 => ?_)) (fun _ _ => rfl) (Int.le_refl _) (upN_ne _ _ (by omega)) (upN_ne _ _ (by omega))
          rw [h9] at ha
          exact hne1 i (by omega) h1 ha
        · refine (hin S hS hP).tr (s_cl g3 ?_)
          rintro ⟨_, _, h9⟩
          exact i2 h9
      · refine Par.not (by rw [i1]; decide) ?_
        have hel : (false = false ∧ kdO (D ++ [(2, 0, e, sv a1 3)] ++ X) D.length = some 2 ∧ fk (j2 + 1) = 6) := ⟨rfl, kd_at D X _, i2⟩
        refine Par.bd (hB l2 l3 LL _ _ _ mn _ _ _ _ fk fv fp _ _ _ _ ppg _ (D ++ [(2, 0, e, sv a1 3)] ++ X) (upN M1 D.length (D ++ [((2 : Int32), (0 : Int32), e, sv a1 3)] ++ X).length) (upN N1 D.length (D ++ [((2 : Int32), (0 : Int32), e, sv a1 3)] ++ X).length) b (j2 + 2) hSt i3 hpg hl3 hb g4.2.1 g4.2.2.1 g4.2.2.2) (fun u hu => ?_)
        rcases hu with ⟨o1, o2⟩ | ⟨o1, o2, Y, M3, N3, j3, o3, o4, oc, o5⟩
        · refine Par.yes o1 (Par.ret (Or.inl ⟨rfl, fun S hS hP => ?_⟩))
          rcases o2 with o2 | ⟨o2, o3⟩
          · have h123 : fk (j2 + 2) ≠ 123 := fun h => o2 ⟨h, g2.2⟩
            exact (hin S hS hP).fl (s_else1 g3 hel h123)
          · exact ((hin S hS hP).tr (s_else g3 hel o2.1)).fl (o3 _ _ S hS hself)
        · refine Par.not (by rw [o1]; decide) ?_
          obtain ⟨q1, q2, q3, q4, q5, q6⟩ := oc
          have hfr2 : ∀ z : Nat, u.2.1 a1 z = sU w.2.1 a1 7 w.2.2.2.2.2.2.2.2.1 a1 z := fun z => q2 a1 (fun i h1 h2 => hne1 i h2 (by omega)) z
          have ho1 := hown u.2.1 u.2.2.2.2.2.2.2.2.2.2.2.2 (fun z hz => by rw [hfr2, hB1 z hz]) q3
          have hlY : (D ++ [((2 : Int32), (0 : Int32), e, sv a1 3)] ++ (X ++ Y)).length ≤ 30 := by rw [← List.append_assoc]; exact o4.2.2.1
          refine hg _ _ _ _ _ _ _ _ _ _ _ _ _ _ _ _ _ (Or.inr ⟨rfl, 2, 0, e, cs.toInt.toNat, X ++ Y, M3, upN N3 D.length (D ++ [((2 : Int32), (0 : Int32), e, sv a1 3)] ++ (X ++ Y)).length, j3 + 1, Or.inl rfl, ?_, ⟨ho1.1, ho1.2.1, ho1.2.2.1, ho1.2.2.2.1, ho1.2.2.2.2.1, ?_, ho1.2.2.2.2.2.2.1, ho1.2.2.2.2.2.2.2, fun _ => ?_, upN_eq _ _ _⟩, fun i hi => ?_, fun a h z => ?_, fun t ht => ?_, ?_, fun i h1 h2 => ?_, ?_, fun S hS hP => ?_⟩)
          · rw [← List.append_assoc]; exact o4
          · have := ho1.2.2.2.2.2.1
            show _ ≤ (u.2.2.2.2.2.2.2.2.2.1).toInt
            omega
          · show (u.2.1 a1 7).toInt = _
            rw [hfr2, sU_eq, (q1 D.length (by omega)).1, upN_eq]; exact g4.2.1
          · rw [upN_ne _ _ (by omega), (q1 i (by omega)).1, (q1 i (by omega)).2, upN_ne _ _ (by omega), upN_ne _ _ (by omega)]
            exact k1 i (by rw [hlen1]; omega)
          · show u.2.1 a z = sv a z
            have hne : a ≠ a1 := fun h9 => h D.length (Nat.le_refl _) hD (by rw [h9]; exact hpa)
            rw [q2 a (fun i h1 h2 => h i (by omega) h2) z, sU_fr _ _ _ _ hne, k2 a (fun i h1 h2 => h i (by rw [hlen1] at h1; omega) h2) z, e4, sU_fr _ _ _ _ hne, sU_fr _ _ _ _ hne, sU_fr _ _ _ _ hne, sU_fr _ _ _ _ hne]
          · show u.2.2.2.2.2.2.2.2.2.2.2.2 t = _
            rw [q3 t (by omega), k3 t (by omega)]; exact e5.2.1 t ht
          · show cs.toInt ≤ (u.2.2.2.2.2.2.2.2.2.1).toInt
            omega
          · show RowC ppg u.2.1 u.2.2.2.2.2.2.2.2.2.2.2.2 (D ++ [(2, 0, e, sv a1 3)] ++ (X ++ Y)) M3 (upN N3 D.length (D ++ [((2 : Int32), (0 : Int32), e, sv a1 3)] ++ (X ++ Y)).length) (u.2.2.2.2.2.2.2.2.2.1).toInt i
            have h2b : i < (D ++ [((2 : Int32), (0 : Int32), e, sv a1 3)] ++ X ++ Y).length := by rw [List.append_assoc (D ++ [((2 : Int32), (0 : Int32), e, sv a1 3)])]; exact h2
            rw [← List.append_assoc (D ++ [((2 : Int32), (0 : Int32), e, sv a1 3)])]
            rcases Nat.lt_or_ge i (D ++ [((2 : Int32), (0 : Int32), e, sv a1 3)] ++ X).length with h8 | h8
            · refine (k5 i (by rw [hlen1]; omega) h8).mono (fun a ha z => ?_) q3 q4 ?_ ?_
              · have hne : a ≠ a1 := fun h9 => hne1 i (by omega) h1 (by rw [← h9]; exact ha)
                rw [q2 a (fun i2 h3 h4 h5 => by have := hpg i i2 a (by omega) h4 ha h5; omega) z, sU_fr _ _ _ _ hne]
              · rw [(q1 i h8).1, upN_ne _ _ (by omega)]
              · rw [upN_ne _ _ (by omega), (q1 i h8).2, upN_ne _ _ (by omega)]
            · exact (q5 i h8 h2b).re (fun _ _ _ => rfl) (fun _ _ => rfl) (Int.le_refl _) rfl (upN_ne _ _ (by omega))
          · show u.2.2.2.2.2.2.2.2.2.2.2.1 = _
            rw [q6, usX_app, ← Int32.or_assoc, ← k6]
          · rw [← List.append_assoc]
            refine (((hin S hS hP).tr (s_else g3 hel o2.1)).tr (o5 _ _ S hS hself)).tr (s_cl o3 ?_)
            rintro ⟨h9, _⟩
            cases h9
