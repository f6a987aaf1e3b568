/-! the class finds a heap -/
abbrev R9f : Type := Int32 × Int32 × (Nat → Int64) × (Nat → Int32) × Int32 × Int32 × Int32 × (Nat → Int32) × (Nat → Int32)
def FndQ (D : List SRc) (M N : Nat → Nat) (stp : Int32) (tr : List Bool) (T : Nat) (P : Nat → Prop) (r : R9f) : Prop := (∃ k : Nat, k < T ∧ P k ∧ (∀ j : Nat, j < k → ¬ P j) ∧ r.1 = Int32.ofNat (spB tr k)) ∧ r.2.1.toInt = (cntQ P T : Int) ∧ CaI D M N stp r.2.2.1 r.2.2.2.1
theorem sp0 : ∀ bs : List Bool, spB bs 0 = 0 := by
  intro bs
  induction bs with
  | nil => rfl
  | cons b bs ih =>
    have es : spB (b :: bs) 0 = if b = true then 0 % 4 + 4 * spB bs (0 / 4) else 4 * spB bs 0 := rfl
    rw [es, Nat.zero_div, ih]
    split <;> rfl
set_option maxHeartbeats 2000000 in
theorem E_X8_findHeap (K : Nat) (hK : 1000000000 ≤ K) (x0 y0 w : Nat) (hx : x0 < 4096) (hy : y0 < 4096) (hw : w < 4) (ln : Int64) (hd : List Bool) (hhd : hd.length = 6) (LL : List Nat) (sv : Nat → Nat → Int32) (stp fo : Int32) (fv : Nat → Int64) (fk : Nat → Int32) (b1 b2 b3 : Int32) (fn fl : Nat → Int32) (sz us : Int32) (pg : Nat → Option Nat) (pk : Nat → Int32) (D : List SRc) (M N dp : Nat → Nat) (ub : List Bool) (hub : ub.length = 6) (hus : us = mkI ub) (hs : sz.toInt = (D.length : Int)) (hD : D.length ≤ 30) (hC : CRw pg sv pk D M N) (hN : NsT D M N dp) (hV : VlD D) (hca : CaI D M N stp fv fk) (hex : ∃ k : Nat, k < 4 ^ cnB (anB hd ub) ∧ pvO D M N w ln x0 (anB hd ub) ub k = vwZ (Int32.ofNat w) (FnR D M N 0 ((x0 ||| y0) &&& mkB ub)) &&& ln) : Par (F_X8_findHeap K (Int32.ofNat x0) (Int32.ofNat y0) LL sv stp (Int32.ofNat w) ln (mkI hd) fo fv fk b1 b2 b3 fn fl sz us pg pk) (FndQ D M N stp (anB hd ub) (4 ^ cnB (anB hd ub)) (fun k => pvO D M N w ln x0 (anB hd ub) ub k = vwZ (Int32.ofNat w) (FnR D M N 0 ((x0 ||| y0) &&& mkB ub)) &&& ln)) := by
  subst hus
  have htr := anB_len hhd hub
  obtain ⟨hT4, hT1⟩ := p4_le htr
  unfold F_X8_findHeap
  obtain ⟨n, rfl⟩ : ∃ n9, K = n9 + 1 := ⟨K - 1, by omega⟩
  rw [L_X8_findHeap_e0]; unfold B_X8_findHeap_0
  rw [mkI_an hd hhd ub hub]
  refine Par.bd (E_X9_numbersOf _ hK (anB hd ub) htr) (fun o1 h1 => ?_)
  subst h1
  have hTi : (Int32.ofNat (4 ^ cnB (anB hd ub))).toInt = ((4 ^ cnB (anB hd ub) : Nat) : Int) := ofn_i _ (by omega)
  obtain ⟨e1, e2⟩ := n_or12 x0 y0 hx hy
  rw [e1]
  refine Par.bd (E_X8_look _ hK (x0 ||| y0) w e2 hw 0 LL sv stp fv fk b1 b2 b3 fn fl sz (mkI ub) pg pk D M N dp ub hub rfl hs hD hC hN hV hca) (fun d hdq => ?_)
  obtain ⟨d1, d2⟩ := hdq
  rw [vwZ_of d1]
  generalize hdu : vwZ (Int32.ofNat w) (FnR D M N 0 ((x0 ||| y0) &&& mkB ub)) &&& ln = du at hex ⊢
  have key : ∀ (q k : Nat) (l7 l8 l9 fo : Int32) (fv : Nat → Int64) (fk : Nat → Int32) (b1 b2 b3 : Int32) (fn fl : Nat → Int32), l9.toInt = (k : Int) → k ≤ 4 ^ cnB (anB hd ub) → (k < 4 ^ cnB (anB hd ub) → l8 = Int32.ofNat (spB (anB hd ub) k)) → CaI D M N stp fv fk → ((l7 = -1 ∧ ∀ j : Nat, j < k → ¬ pvO D M N w ln x0 (anB hd ub) ub j = du) ∨ ∃ k0 : Nat, k0 < k ∧ pvO D M N w ln x0 (anB hd ub) ub k0 = du ∧ (∀ j : Nat, j < k0 → ¬ pvO D M N w ln x0 (anB hd ub) ub j = du) ∧ l7 = Int32.ofNat (spB (anB hd ub) k0)) → fo.toInt = (cntQ (fun k => pvO D M N w ln x0 (anB hd ub) ub k = du) k : Int) → Par (L_X8_findHeap (n + 1) q 1 (Int32.ofNat x0) (Int32.ofNat y0) (mkI (anB hd ub)) (Int32.ofNat (4 ^ cnB (anB hd ub))) du l7 l8 l9 LL sv stp (Int32.ofNat w) ln (mkI hd) fo fv fk b1 b2 b3 fn fl sz (mkI ub) pg pk) (FndQ D M N stp (anB hd ub) (4 ^ cnB (anB hd ub)) (fun k => pvO D M N w ln x0 (anB hd ub) ub k = du)) := by
    intro q
    induction q using Nat.strongRecOn with
    | _ q ih =>
    intro k l7 l8 l9 fo fv fk b1 b2 b3 fn fl h9 hkT h8 hca h7 hfo
    cases q with
    | zero => exact Par.no
    | succ q =>
      rw [L_X8_findHeap_e1]; unfold B_X8_findHeap_1
      refine Par.br (fun h => ?_) (fun h => ?_)
      · rw [Int32.le_iff_toInt_le, hTi, h9] at h
        have e : k = 4 ^ cnB (anB hd ub) := by omega
        subst e
        refine Par.ret ⟨?_, hfo, hca⟩
        rcases h7 with ⟨_, h7⟩ | ⟨k0, q1, q2, q3, q4⟩
        · obtain ⟨k9, z1, z2⟩ := hex
          exact absurd z2 (h7 k9 z1)
        · exact ⟨k0, q1, q2, q3, q4⟩
      · rw [Int32.le_iff_toInt_le, hTi, h9] at h
        have hk : k < 4 ^ cnB (anB hd ub) := by omega
        rw [h8 hk]
        refine Par.bd (E_lookO _ hK x0 w hx hw (anB hd ub) htr k 0 LL sv stp fv fk b1 b2 b3 fn fl sz (mkI ub) pg pk D M N dp ub hub rfl hs hD hC hN hV hca) (fun r hr => ?_)
        obtain ⟨r1, _, r3⟩ := hr
        rw [r1]
        have hcl := cntQ_le (fun k => pvO D M N w ln x0 (anB hd ub) ub k = du) k
        have three : ∀ (q2 : Nat) (z7 fo2 : Int32), q2 < q + 1 → ((z7 = -1 ∧ ∀ j : Nat, j < k + 1 → ¬ pvO D M N w ln x0 (anB hd ub) ub j = du) ∨ ∃ k0 : Nat, k0 < k + 1 ∧ pvO D M N w ln x0 (anB hd ub) ub k0 = du ∧ (∀ j : Nat, j < k0 → ¬ pvO D M N w ln x0 (anB hd ub) ub j = du) ∧ z7 = Int32.ofNat (spB (anB hd ub) k0)) → fo2.toInt = (cntQ (fun k => pvO D M N w ln x0 (anB hd ub) ub k = du) (k + 1) : Int) → Par (L_X8_findHeap (n + 1) q2 3 (Int32.ofNat x0) (Int32.ofNat y0) (mkI (anB hd ub)) (Int32.ofNat (4 ^ cnB (anB hd ub))) du z7 (Int32.ofNat (spB (anB hd ub) k)) l9 LL sv stp (Int32.ofNat w) ln (mkI hd) fo2 r.2.1 r.2.2.1 r.2.2.2.1 r.2.2.2.2.1 r.2.2.2.2.2.1 r.2.2.2.2.2.2.1 r.2.2.2.2.2.2.2 sz (mkI ub) pg pk) (FndQ D M N stp (anB hd ub) (4 ^ cnB (anB hd ub)) (fun k => pvO D M N w ln x0 (anB hd ub) ub k = du)) := by
          intro q2 z7 fo2 hq2 g7 gfo
          cases q2 with
          | zero => exact Par.no
          | succ q2 =>
            rw [L_X8_findHeap_e3]; unfold B_X8_findHeap_3
            refine Par.bd (P := fun y => k + 1 < 4 ^ cnB (anB hd ub) → y = Int32.ofNat (spB (anB hd ub) (k + 1))) ?_ (fun y hy => ?_)
            · by_cases hk1 : k + 1 < 4 ^ cnB (anB hd ub)
              · exact (E_X9_following _ hK k (anB hd ub) htr hk1).mono (fun y hy _ => hy)
              · exact fun y _ h9 => absurd h9 hk1
            · exact ih q2 (by omega) (k + 1) z7 y _ fo2 _ _ _ _ _ _ _ (ad1 l9 k h9 (by omega)) (by omega) hy r3 g7 gfo
        refine Par.br (fun hm => ?_) (fun hm => ?_)
        · have hm9 : pvO D M N w ln x0 (anB hd ub) ub k = du := (lgq _ _).mp hm
          have two : ∀ (q2 : Nat) (z7 : Int32), q2 < q + 1 → (∃ k0 : Nat, k0 < k + 1 ∧ pvO D M N w ln x0 (anB hd ub) ub k0 = du ∧ (∀ j : Nat, j < k0 → ¬ pvO D M N w ln x0 (anB hd ub) ub j = du) ∧ z7 = Int32.ofNat (spB (anB hd ub) k0)) → Par (L_X8_findHeap (n + 1) q2 2 (Int32.ofNat x0) (Int32.ofNat y0) (mkI (anB hd ub)) (Int32.ofNat (4 ^ cnB (anB hd ub))) du z7 (Int32.ofNat (spB (anB hd ub) k)) l9 LL sv stp (Int32.ofNat w) ln (mkI hd) fo r.2.1 r.2.2.1 r.2.2.2.1 r.2.2.2.2.1 r.2.2.2.2.2.1 r.2.2.2.2.2.2.1 r.2.2.2.2.2.2.2 sz (mkI ub) pg pk) (FndQ D M N stp (anB hd ub) (4 ^ cnB (anB hd ub)) (fun k => pvO D M N w ln x0 (anB hd ub) ub k = du)) := by
            intro q2 z7 hq2 g7
            cases q2 with
            | zero => exact Par.no
            | succ q2 =>
              rw [L_X8_findHeap_e2]; unfold B_X8_findHeap_2
              refine three q2 z7 _ (by omega) (Or.inr g7) ?_
              rw [cntQ_y hm9]
              exact ad1 fo _ hfo (by omega)
          refine Par.br (fun h0 => ?_) (fun h0 => ?_)
          · rcases h7 with ⟨e, _⟩ | ⟨k0, q1, q2, q3, q4⟩
            · rw [e] at h0
              exact absurd h0 (by decide)
            · exact two q l7 (by omega) ⟨k0, by omega, q2, q3, q4⟩
          · rcases h7 with ⟨_, h7⟩ | ⟨k0, q1, q2, q3, q4⟩
            · exact two q _ (by omega) ⟨k, by omega, hm9, h7, rfl⟩
            · exfalso
              have h6 := sp6 htr k0
              rw [q4, Int32.le_iff_toInt_le, ofn_i _ (by omega)] at h0
              simp only [Int32.reduceToInt] at h0
              omega
        · have hm9 : ¬ pvO D M N w ln x0 (anB hd ub) ub k = du := fun e => hm ((lgq _ _).mpr e)
          refine three q l7 fo (by omega) ?_ (by rw [cntQ_n hm9]; exact hfo)
          rcases h7 with ⟨e, h7⟩ | ⟨k0, q1, q2, q3, q4⟩
          · refine Or.inl ⟨e, fun j hj => ?_⟩
            by_cases e9 : j = k
            · rw [e9]; exact hm9
            · exact h7 j (by omega)
          · exact Or.inr ⟨k0, by omega, q2, q3, q4⟩
  exact key n 0 (-1) 0 0 0 _ _ _ _ _ _ _ rfl (Nat.zero_le _) (fun _ => by rw [sp0]; rfl) d2 (Or.inl ⟨rfl, fun j hj => absurd hj (Nat.not_lt_zero _)⟩) rfl
abbrev R14h : Type := Int32 × Nat × Int32 × Int64 × Int32 × Int32 × Int32 × (Nat → Int64) × (Nat → Int32) × Int32 × Int32 × Int32 × (Nat → Int32) × (Nat → Int32)
set_option maxHeartbeats 4000000 in
theorem E_X9_heap (K : Nat) (hK : 1000000000 ≤ K) (w tm l3 l4 l5 : Int32) (pn : Nat) (LL : List Nat) (sv : Nat → Nat → Int32) (lvf : Nat → Int32) (stp : Int32) (wp : Nat) (x1 : Int32) (x2 : Int64) (x3 x4 fo : Int32) (fv : Nat → Int64) (fk : Nat → Int32) (b1 b2 b3 : Int32) (fn fl : Nat → Int32) (sz us : Int32) (pg : Nat → Option Nat) (pk : Nat → Int32) (D : List SRc) (M N dp : Nat → Nat) (ub : List Bool) (hub : ub.length = 6) (hus : us = mkI ub) (hU : UsD D (fun c => ub[c]? = some true)) (hs : sz.toInt = (D.length : Int)) (hD : D.length ≤ 30) (hC : CRw pg sv pk D M N) (hN : NsT D M N dp) (hV : VlD D) (hca : CaI D M N stp fv fk) : Par (F_X9_heap K w tm l3 l4 l5 pn LL sv lvf stp wp x1 x2 x3 x4 fo fv fk b1 b2 b3 fn fl sz us pg pk) (fun r => ((¬ (AsP w tm ∧ OpP (wiL lvf w) l3 ∧ OpP (ntB (wiL lvf w)) l4 ∧ (l5 = 0 ∨ l5 = 1)) ∧ r.1 = -1) ∨ ((AsP w tm ∧ OpP (wiL lvf w) l3 ∧ OpP (ntB (wiL lvf w)) l4 ∧ (l5 = 0 ∨ l5 = 1)) ∧ HpaP D M N w tm (wiL lvf w) l3 l4 l5 r.1)) ∧ CaI D M N stp r.2.2.2.2.2.2.2.1 r.2.2.2.2.2.2.2.2.1) := by
  have hb6 := wiL_len lvf w
  have hn6 := ntB_len hb6
  unfold F_X9_heap
  obtain ⟨n, rfl⟩ : ∃ n9, K = n9 + 1 := ⟨K - 1, by omega⟩
  rw [L_X9_heap_e0]; unfold B_X9_heap_0
  generalize hQ : (fun r : R14h => ((¬ (AsP w tm ∧ OpP (wiL lvf w) l3 ∧ OpP (ntB (wiL lvf w)) l4 ∧ (l5 = 0 ∨ l5 = 1)) ∧ r.1 = -1) ∨ ((AsP w tm ∧ OpP (wiL lvf w) l3 ∧ OpP (ntB (wiL lvf w)) l4 ∧ (l5 = 0 ∨ l5 = 1)) ∧ HpaP D M N w tm (wiL lvf w) l3 l4 l5 r.1)) ∧ CaI D M N stp r.2.2.2.2.2.2.2.1 r.2.2.2.2.2.2.2.2.1) = Q
  have one : ¬ (AsP w tm ∧ OpP (wiL lvf w) l3 ∧ OpP (ntB (wiL lvf w)) l4 ∧ (l5 = 0 ∨ l5 = 1)) → ∀ (l6 l7 : Int32), Par (L_X9_heap (n + 1) n 1 w tm l3 l4 l5 l6 l7 pn LL sv lvf stp wp x1 x2 x3 x4 fo fv fk b1 b2 b3 fn fl sz us pg pk) Q := by
    intro h l6 l7
    cases n with
    | zero => exact Par.no
    | succ n => rw [L_X9_heap_e1]; unfold B_X9_heap_1; rw [← hQ]; exact Par.ret ⟨Or.inl ⟨h, rfl⟩, hca⟩
  refine Par.bd (E_X9_isWatched _ hK w tm l5) (fun o1 h1 => ?_)
  rcases h1 with ⟨e1, q1⟩ | ⟨e1, q1⟩
  rotate_left
  · refine Par.yes e1 (Par.ret ?_)
    rw [← hQ]
    exact ⟨Or.inl ⟨fun h => q1 ⟨h.1.1, h.1.2, h.2.2.2⟩, rfl⟩, hca⟩
  refine Par.not (by rw [e1]; decide) ?_
  refine Par.bd (E_X9_cellsWithin _ hK w lvf) (fun o2 h2 => ?_)
  subst h2
  rw [mkI_nt (wiL lvf w) hb6]
  refine Par.bd (E_X9_isPacked _ hK l3 (wiL lvf w) hb6) (fun o3 h3 => ?_)
  rcases h3 with ⟨e3, q3⟩ | ⟨e3, q3⟩
  rotate_left
  · exact Par.yes e3 (one (fun h => q3 h.2.1) _ _)
  refine Par.not (by rw [e3]; decide) ?_
  refine Par.bd (E_X9_isPacked _ hK l4 (ntB (wiL lvf w)) hn6) (fun o4 h4 => ?_)
  rcases h4 with ⟨e4, q4⟩ | ⟨e4, q4⟩
  rotate_left
  · exact Par.yes e4 (one (fun h => q4 h.2.2.1) _ _)
  refine Par.not (by rw [e4]; decide) ?_
  have hall : AsP w tm ∧ OpP (wiL lvf w) l3 ∧ OpP (ntB (wiL lvf w)) l4 ∧ (l5 = 0 ∨ l5 = 1) := ⟨⟨q1.1, q1.2.1⟩, q3, q4, q1.2.2⟩
  obtain ⟨o, ho, ho4, hx, _⟩ := OpP_n hb6 hall.2.1
  obtain ⟨s, hs9, hs4, hy, _⟩ := OpP_n hn6 hall.2.2.1
  obtain ⟨wn, hw4, hwn⟩ := w_nat q1.1
  refine Par.bd (P := fun r : Int32 × Int64 × Int32 × Int32 => r.1 = Int32.ofNat wn ∧ r.2.1.toBitVec.toNat = lnN (wiL lvf w) tm ∧ r.2.2.1 = mkI (wiL lvf w) ∧ r.2.2.2 = mkI (ntB (wiL lvf w))) (by
    have h9 := E_X8_aimW (n + 1) hK wn hw4 (wiL lvf w) hb6 tm x1 x2 x3 x4
    rw [← hwn] at h9
    rw [← hwn]
    exact h9) (fun a ha => ?_)
  obtain ⟨a1, a2, a3, a4⟩ := ha
  rw [hx, hy]
  refine Par.bd (E_X9_spread _ hK o ho4 (wiL lvf w) hb6) (fun y1 hy1 => ?_)
  refine Par.bd (E_X9_spread _ hK s hs4 (ntB (wiL lvf w)) hn6) (fun y2 hy2 => ?_)
  rw [hy1, hy2, a1, a4]
  have hl6 : (ntB (wiL lvf w)).length = ub.length := by rw [hn6, hub]
  have hkd : (spB (wiL lvf w) o ||| spB (ntB (wiL lvf w)) s) &&& mkB ub = kX (spB (wiL lvf w) o) (anB (ntB (wiL lvf w)) ub) ub (tau (ntB (wiL lvf w)) ub s) := kOS_tau hb6 hub o s
  have htl := tau_lt (ntB (wiL lvf w)) ub hl6 s
  have hpq : ∀ i : Nat, (pvO D M N wn a.2.1 (spB (wiL lvf w) o) (anB (ntB (wiL lvf w)) ub) ub i = vwZ (Int32.ofNat wn) (FnR D M N 0 ((spB (wiL lvf w) o ||| spB (ntB (wiL lvf w)) s) &&& mkB ub)) &&& a.2.1) ↔ HkR D M N 0 w tm (wiL lvf w) ub o i (tau (ntB (wiL lvf w)) ub s) := by
    intro i
    rw [hkd]
    have h9 := pv_eq (M := M) (N := N) hV (w := wn) (t := tm) hb6 a2 (x0 := spB (wiL lvf w) o) (tr := anB (ntB (wiL lvf w)) ub) (ub := ub) i (tau (ntB (wiL lvf w)) ub s)
    rw [← hwn] at h9
    exact h9
  refine Par.bd (E_X8_findHeap _ hK (spB (wiL lvf w) o) (spB (ntB (wiL lvf w)) s) wn (sp6 hb6 o) (sp6 hn6 s) hw4 a.2.1 (ntB (wiL lvf w)) hn6 LL sv stp fo fv fk b1 b2 b3 fn fl sz us pg pk D M N dp ub hub hus hs hD hC hN hV hca ⟨_, htl, (hpq _).mpr (SAl_rf _)⟩) (fun r hr => ?_)
  obtain ⟨⟨k, k1, k2, k3, k4⟩, f2, f3⟩ := hr
  have k2 := (hpq k).mp k2
  have k3 : ∀ j : Nat, j < k → ¬ HkR D M N 0 w tm (wiL lvf w) ub o j (tau (ntB (wiL lvf w)) ub s) := fun j hj h => k3 j hj ((hpq j).mpr h)
  rw [cntQ_congr (fun i _ => hpq i)] at f2
  have hcs : cntQ (fun i => HkR D M N 0 w tm (wiL lvf w) ub o i (tau (ntB (wiL lvf w)) ub s)) (4 ^ cnB (anB (ntB (wiL lvf w)) ub)) = cntQ (HkR D M N 0 w tm (wiL lvf w) ub o (tau (ntB (wiL lvf w)) ub s)) (4 ^ cnB (anB (ntB (wiL lvf w)) ub)) := cntQ_congr (fun i _ => ⟨fun h => SAl_sy h, fun h => SAl_sy h⟩)
  rw [hcs] at f2
  refine Par.br (fun h0 => ?_) (fun h0 => ?_)
  · unfold F_X8_foundSize
    rw [L_X8_foundSize_e0]; unfold B_X8_foundSize_0
    rw [hus]
    refine Par.bd (P := fun z => z = r.2.1 * Int32.ofNat (4 ^ cnB (anB (ntB (wiL lvf w)) (ntB ub)))) (Par.bd (E_X8_untried _ hK _ ub hn6 hub) (fun z hz => Par.ret (by rw [hz]))) (fun z hz => Par.ret ?_)
    rw [← hQ]
    refine ⟨Or.inr ⟨hall, o, s, hx, ho, hy, hs9, Or.inl ⟨h0, ?_⟩⟩, f3⟩
    have e2 := cnt_hp (w := w) (t := tm) hN hU hb6 hub o s
    have hle := cntQ_le (HpR D M N 0 w tm (wiL lvf w) o s) (4 ^ cnB (ntB (wiL lvf w)))
    obtain ⟨p1, _⟩ := p4_le hn6
    obtain ⟨p2, p3⟩ := p4_le (anB_len hn6 (ntB_len hub))
    have hu9 : (Int32.ofNat (4 ^ cnB (anB (ntB (wiL lvf w)) (ntB ub)))).toInt = ((4 ^ cnB (anB (ntB (wiL lvf w)) (ntB ub)) : Nat) : Int) := ofn_i _ (by omega)
    have hm : r.2.1.toInt * ((4 ^ cnB (anB (ntB (wiL lvf w)) (ntB ub)) : Nat) : Int) = (cntQ (HpR D M N 0 w tm (wiL lvf w) o s) (4 ^ cnB (ntB (wiL lvf w))) : Int) := by
      rw [f2, e2, Int.natCast_mul, Int.mul_comm]
    show z.toInt = _
    rw [hz, Int32.toInt_mul, hu9, hm]
    exact bmI (by omega) (by omega)
  · rw [k4]
    refine Par.bd (E_X9_gather _ hK (spB (anB (ntB (wiL lvf w)) ub) k) (sp6 (anB_len hn6 hub) k) (ntB (wiL lvf w)) hn6) (fun z hz => Par.ret ?_)
    rw [gaB_sgm _ _ hl6] at hz
    rw [← hQ]
    have hts := tau_sgm (ntB (wiL lvf w)) ub hl6 k k1
    have hle : sgm (ntB (wiL lvf w)) ub k ≤ s := by
      rcases Nat.lt_or_ge (tau (ntB (wiL lvf w)) ub s) k with c | c
      · exact absurd (SAl_rf _) (k3 _ c)
      · have h1 := sgm_tau (ntB (wiL lvf w)) ub hl6 s
        rcases Nat.lt_or_ge k (tau (ntB (wiL lvf w)) ub s) with c2 | c2
        · have := sgm_mono (ntB (wiL lvf w)) ub hl6 k _ c2 htl
          omega
        · have e : tau (ntB (wiL lvf w)) ub s = k := by omega
          rw [e] at h1
          exact h1
    refine ⟨Or.inr ⟨hall, o, s, hx, ho, hy, hs9, Or.inr ⟨hall.2.2.2.resolve_left h0, sgm (ntB (wiL lvf w)) ub k, hle, ?_, ?_, fun j hj h9 => ?_⟩⟩, f3⟩
    · show z.toInt = _
      rw [hz, ofn_i _ (by omega)]
    · rw [HpR_tau hN hU hb6 hub, hts]
      exact k2
    · rw [HpR_tau hN hU hb6 hub] at h9
      have hlt : tau (ntB (wiL lvf w)) ub j < k := by
        rcases Nat.lt_or_ge (tau (ntB (wiL lvf w)) ub j) k with c | c
        · exact c
        · exfalso
          have h1 := sgm_tau (ntB (wiL lvf w)) ub hl6 j
          rcases Nat.lt_or_ge k (tau (ntB (wiL lvf w)) ub j) with c2 | c2
          · have := sgm_mono (ntB (wiL lvf w)) ub hl6 k _ c2 (tau_lt (ntB (wiL lvf w)) ub hl6 j)
            omega
          · have e : tau (ntB (wiL lvf w)) ub j = k := by omega
            rw [e] at h1
            omega
      exact k3 _ hlt h9
/-! the answers are equal -/
theorem ofI_u {a b : Int32} {x : Int} (h : a.toInt = x) (k : b.toInt = x) : a = b := Int32.toInt_inj.mp (by rw [h, k])
theorem i_nat {a b : Nat} (ha : a < 1000000) (hb : b < 1000000) (h : Int32.ofNat a = Int32.ofNat b) : a = b := by
  have e := congrArg Int32.toInt h
  rw [ofn_i a ha, ofn_i b hb] at e
  omega
theorem HeaP_u {D : List SRc} {M N : Nat → Nat} {w t : Int32} {bs : List Bool} (hb : bs.length = 6) {x what r q : Int32} (h1 : HeaP D M N w t bs x what r) (h2 : HeaP D M N w t bs x what q) : r = q := by
  obtain ⟨p1, _⟩ := p4_le hb
  obtain ⟨k, e1, hk, a⟩ := h1
  obtain ⟨j, e2, hj, b⟩ := h2
  have e : k = j := i_nat (by omega) (by omega) (e1.symm.trans e2)
  subst e
  rcases a with ⟨a1, a2⟩ | ⟨a1, a2⟩
  · rcases b with ⟨b1, b2⟩ | ⟨b1, b2⟩
    · exact ofI_u a2 b2
    · exact absurd (a1.symm.trans b1) (by decide)
  · rcases b with ⟨b1, b2⟩ | ⟨b1, b2⟩
    · exact absurd (b1.symm.trans a1) (by decide)
    · exact Int32.toInt_inj.mp (GmX_u a2 b2)
theorem HpaP_u {D : List SRc} {M N : Nat → Nat} {w t : Int32} {bs : List Bool} (hb : bs.length = 6) {x y what r q : Int32} (h1 : HpaP D M N w t bs x y what r) (h2 : HpaP D M N w t bs x y what q) : r = q := by
  obtain ⟨p1, _⟩ := p4_le hb
  obtain ⟨p2, _⟩ := p4_le (ntB_len hb)
  obtain ⟨k, s, e1, hk, e3, hs, a⟩ := h1
  obtain ⟨j, u, e2, hj, e4, hu, b⟩ := h2
  have e : k = j := i_nat (by omega) (by omega) (e1.symm.trans e2)
  have f : s = u := i_nat (by omega) (by omega) (e3.symm.trans e4)
  subst e
  subst f
  rcases a with ⟨a1, a2⟩ | ⟨a1, i, a2, a3, a4, a5⟩
  · rcases b with ⟨b1, b2⟩ | ⟨b1, _⟩
    · exact ofI_u a2 b2
    · exact absurd (a1.symm.trans b1) (by decide)
  · rcases b with ⟨b1, b2⟩ | ⟨b1, i2, b2, b3, b4, b5⟩
    · exact absurd (b1.symm.trans a1) (by decide)
    · have : i = i2 := by
        rcases Nat.lt_trichotomy i i2 with c | c | c
        · exact absurd a4 (b5 i c)
        · exact c
        · exact absurd b4 (a5 i2 c)
      subst this
      exact ofI_u a3 b3
theorem TogP_u {D : List SRc} {M N : Nat → Nat} {w t : Int32} {bs : List Bool} (hb : bs.length = 6) {x y r q : Int32} (h1 : TogP D M N w t bs x y r) (h2 : TogP D M N w t bs x y q) : r = q := by
  obtain ⟨p1, _⟩ := p4_le hb
  obtain ⟨k, s, e1, hk, e3, hs, a⟩ := h1
  obtain ⟨j, u, e2, hj, e4, hu, b⟩ := h2
  have e : k = j := i_nat (by omega) (by omega) (e1.symm.trans e2)
  have f : s = u := i_nat (by omega) (by omega) (e3.symm.trans e4)
  subst e
  subst f
  exact ofI_u a b
