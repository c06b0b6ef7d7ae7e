/-! PURE: count -/
theorem friendsO_X {r p : Nat} {σ : Mm} {K : Int32 → Mm → Prop} (hr : r < 3) (hp : p < 8) (hb : bz (σ 2 r 2)) (h : K (seF (fun q => frN (σ 3 r) (σ 2 r 2) p q) 8) σ) : f_X1_friendsOf r (nI p) σ K := by
  have main : ∀ (d q : Nat), q + d = 8 → f_X1_friendsOf_4 r (nI p) K (d + 1) (seF (fun q => frN (σ 3 r) (σ 2 r 2) p q) q) (nI q) σ := by
    intro d
    induction d with
    | zero =>
      intro q hq
      have : q = 8 := by omega
      subst this
      rw [f_X1_friendsOf_4, if_pos (by decide)]
      exact h
    | succ d ih =>
      intro q hq
      have nx := ih (q + 1) (by omega)
      rw [f_X1_friendsOf_4, if_neg (show ¬ (8 : Int32) ≤ nI q from nI_ge (a := q) (b := 8) (by omega) (by omega)), nI_1]
      refine frN_X hr hp (by omega) hb ?_
      unfold seF at nx
      cases e : frN (σ 3 r) (σ 2 r 2) p q with
      | true => rw [e, if_pos rfl] at nx; exact itt nx
      | false => rw [e, if_neg (by decide)] at nx; exact itf nx
  exact ⟨hr, 9, main 8 0 (by omega)⟩
theorem nI_half {a : Nat} (h : a < 2 ^ 30) : nI (2 * a) / (2 : Int32) = nI a := by
  have e : nI (2 * a) / (2 : Int32) = nI (2 * a / 2) := pk_div (d := 2) (by omega) (by omega) (by omega)
  rw [e]
  congr 1
  omega
theorem pairs_X {r : Nat} {σ : Mm} {K : Int32 → Mm → Prop} (hr : r < 3) (hb : bz (σ 2 r 2)) (h : K (nI (suN (fun p => coF (fun q => frN (σ 3 r) (σ 2 r 2) p q) 8) 8) / (2 : Int32)) σ) : f_X1_pairsThatCount r σ K := by
  have main : ∀ (d p : Nat), p + d = 8 → f_X1_pairsThatCount_4 r K (d + 1) (nI (suN (fun p => coF (fun q => frN (σ 3 r) (σ 2 r 2) p q) 8) p)) (nI p) σ := by
    intro d
    induction d with
    | zero =>
      intro p hp
      have : p = 8 := by omega
      subst this
      rw [f_X1_pairsThatCount_4, if_pos (by decide)]
      exact h
    | succ d ih =>
      intro p hp
      have nx := ih (p + 1) (by omega)
      rw [f_X1_pairsThatCount_4, if_neg (show ¬ (8 : Int32) ≤ nI p from nI_ge (a := p) (b := 8) (by omega) (by omega)), nI_1]
      refine friendsO_X hr (by omega) hb (bc_X ?_)
      rw [bcV_se, nI_add]
      exact nx
  exact ⟨hr, 9, main 8 0 (by omega)⟩
theorem secret_X {r : Nat} {σ : Mm} {K : Int32 → Mm → Prop} (hr : r < 3) (h : K (nI (coF (fun k => decide (σ 3 r k = 2)) 64) / (2 : Int32)) σ) : f_X1_secretPairs r σ K := by
  have main : ∀ (d p : Nat), p + d = 64 → f_X1_secretPairs_4 r K (d + 1) (nI (coF (fun k => decide (σ 3 r k = 2)) p)) (nI p) σ := by
    intro d
    induction d with
    | zero =>
      intro p hp
      have : p = 64 := by omega
      subst this
      rw [f_X1_secretPairs_4, if_pos (by decide)]
      exact h
    | succ d ih =>
      intro p hp
      have nx := ih (p + 1) (by omega)
      rw [f_X1_secretPairs_4, if_neg (show ¬ (64 : Int32) ≤ nI p from nI_ge (a := p) (b := 64) (by omega) (by omega)), nI_clamp (by omega), nI_1, nI_1]
      refine ⟨vp_in_nI (by omega) (by omega), ?_⟩
      unfold coF at nx
      by_cases c : σ 3 r p = 2
      · rw [if_pos c]
        rw [if_pos (decide_eq_true c)] at nx
        exact nx
      · rw [if_neg c]
        rw [if_neg (by rw [decide_eq_false c]; decide)] at nx
        exact nx
  exact ⟨hr, 65, main 64 0 (by omega)⟩
theorem pairs_Y {P : Nat → Nat → Bool} {a1 : Int32} {μ : Mm} {K : Int32 → Mm → Prop} (hP : (a1 = 0 ∧ ∀ p q, p < 8 → q < 8 → P p q = frN (fun j => μ 1 0 (4 + j)) (μ 1 0 0) p q) ∨ (a1 = 1 ∧ ∀ p q, p < 8 → q < 8 → P p q = decide (μ 1 0 (4 + 8 * p + q) = 2))) (h : K (nI (suN (fun p => coF (P p) p) 8)) μ) : f_X7_pairs a1 μ K := by
  have inner : ∀ (p A : Nat) (k61 : Int32 → Mm → Prop), p < 8 → k61 (nI (A + coF (P p) p)) μ → ∀ (d q : Nat), q + d = p → f_X7_pairs_13 a1 (nI p) K k61 (d + 1) (nI (A + coF (P p) q)) (nI q) μ := by
    intro p A k61 hp hk d
    induction d with
    | zero =>
      intro q hq
      have : q = p := by omega
      subst this
      rw [f_X7_pairs_13, if_pos (nI_le (by omega) (by omega))]
      exact hk
    | succ d ih =>
      intro q hq
      have nx := ih (q + 1) (by omega)
      rw [f_X7_pairs_13, if_neg (nI_ge (by omega) (by omega)), nI_1, nI_1, i32_add0]
      unfold coF at nx
      rcases hP with ⟨rfl, hP⟩ | ⟨rfl, hP⟩
      · rw [if_pos rfl]
        refine frN_Y hp (by omega) ?_
        rw [← hP p q hp (by omega)]
        cases e : P p q with
        | true => rw [e, if_pos rfl] at nx; exact itt nx
        | false => rw [e, if_neg (by decide)] at nx; exact itf nx
      · rw [if_neg (by decide)]
        refine how_Y hp (by omega) ?_
        rw [hP p q hp (by omega)] at nx
        by_cases c : μ 1 0 (4 + 8 * p + q) = 2
        · rw [if_pos c]
          rw [if_pos (decide_eq_true c)] at nx
          exact nx
        · rw [if_neg c]
          rw [if_neg (by rw [decide_eq_false c]; decide)] at nx
          exact nx
  have main : ∀ (d p : Nat), p + d = 8 → f_X7_pairs_4 a1 K (d + 1) (nI (suN (fun p => coF (P p) p) p)) (nI p) μ := by
    intro d
    induction d with
    | zero =>
      intro p hp
      have : p = 8 := by omega
      subst this
      rw [f_X7_pairs_4, if_pos (by decide)]
      exact h
    | succ d ih =>
      intro p hp
      have nx := ih (p + 1) (by omega)
      rw [f_X7_pairs_4, if_neg (show ¬ (8 : Int32) ≤ nI p from nI_ge (a := p) (b := 8) (by omega) (by omega)), nI_1]
      exact ⟨p + 1, inner p _ _ (by omega) nx p 0 (by omega)⟩
  exact ⟨9, main 8 0 (by omega)⟩
theorem sit_X {σ : Mm} {m : Nat → Int32} {nb : Nat} {C : Nat → Nat} {K : Int32 → Mm → Prop} (hr : RI σ 0 m nb) (hC : ∀ b, b < nb → ∃ n, n ≤ 8 ∧ σ 0 (5 * 0 + b) 1 = nI n ∧ cntF (σ 1 (5 * 0 + b)) n = C b) (h : K (nI (suN C nb)) σ) : f_X2_howManySit 0 σ K := by
  have h5 := hr.2.nb
  have main : ∀ (d b : Nat), b + d = nb → f_X2_howManySit_4 0 K (d + 1) (nI (suN C b)) (nI b) σ := by
    intro d
    induction d with
    | zero =>
      intro b hb
      have : b = nb := by omega
      subst this
      rw [f_X2_howManySit_4, hr.nb2, if_pos (nI_le (by omega) (by omega))]
      exact h
    | succ d ih =>
      intro b hb
      have nx := ih (b + 1) (by omega)
      obtain ⟨n, n8, fn, ec⟩ := hC b (by omega)
      rw [f_X2_howManySit_4, hr.nb2, if_neg (nI_ge (by omega) (by omega)), nI_clamp (by omega), nI_1]
      refine ⟨vp_in_nI (by omega) (by omega), by omega, many_X (by omega) fn n8 ?_⟩
      rw [ec, nI_add]
      exact nx
  exact ⟨by omega, nb + 1, main nb 0 (by omega)⟩
theorem sit_Y {μ : Mm} {nb : Nat} {C : Nat → Nat} {K : Int32 → Mm → Prop} (hi : Inv (μ 1 0) nb) (hC : ∀ b, b < nb → ∃ n, n ≤ 8 ∧ μ 1 0 (77 + 10 * b) = nI n ∧ cntF (fun s => μ 1 0 (78 + 10 * b + s)) n = C b) (h : K (nI (suN C nb)) μ) : ∃ m, f_X7_count_57 K m (0 : Int32) (0 : Int32) μ := by
  have h5 := hi.nb
  have main : ∀ (d b : Nat), b + d = nb → f_X7_count_57 K (d + 1) (nI (suN C b)) (nI b) μ := by
    intro d
    induction d with
    | zero =>
      intro b hb
      have : b = nb := by omega
      subst this
      rw [f_X7_count_57, hi.1.2.1, if_pos (nI_le (by omega) (by omega))]
      exact h
    | succ d ih =>
      intro b hb
      have nx := ih (b + 1) (by omega)
      obtain ⟨n, n8, fn, ec⟩ := hC b (by omega)
      rw [f_X7_count_57, hi.1.2.1, if_neg (nI_ge (by omega) (by omega)), nI_1]
      refine sitting_Y (by omega) fn n8 (fun s hs => (hi.2.2.2.1 b (by omega)).2.2 s (by omega)) ?_
      rw [ec, nI_add]
      exact nx
  exact ⟨nb + 1, main nb 0 (by omega)⟩
theorem hol_X {σ : Mm} {m : Nat → Int32} {nb : Nat} {P : Nat → Bool} {K : Int32 → Mm → Prop} (hr : RI σ 0 m nb) (hP : ∀ b k n, b < nb → m (76 + 10 * b) = nI k → m (77 + 10 * b) = nI n → k < 7 → n ≤ 8 → P b = hoB (σ 3 0) (σ 2 0 2) (σ 4 0) (σ 2 0 3) (σ 1 (5 * 0 + b)) k n) (h : K (nI (coF P nb)) σ) : f_X2_benchesThatHold 0 σ K := by
  have h5 := hr.2.nb
  have main : ∀ (d b : Nat), b + d = nb → f_X2_benchesThatHold_4 0 K (d + 1) (nI (coF P b)) (nI b) σ := by
    intro d
    induction d with
    | zero =>
      intro b hb
      have : b = nb := by omega
      subst this
      rw [f_X2_benchesThatHold_4, hr.nb2, if_pos (nI_le (by omega) (by omega))]
      exact h
    | succ d ih =>
      intro b hb
      have nx := ih (b + 1) (by omega)
      obtain ⟨k, n, hk, n1, n8, ek, en, fk, fn, z, zz⟩ := hr.ks (b := b) (by omega)
      rw [f_X2_benchesThatHold_4, hr.nb2, if_neg (nI_ge (by omega) (by omega)), nI_clamp (by omega), nI_1, nI_1]
      refine ⟨vp_in_nI (by omega) (by omega), by omega, holds_X (by omega) (by omega) hk fk fn n1 n8 (hr.pvs (by omega) n8) hr.pp ?_⟩
      rw [← hP b k n (by omega) ek en hk n8]
      unfold coF at nx
      cases e : P b with
      | true => rw [e, if_pos rfl] at nx; exact itt nx
      | false => rw [e, if_neg (by decide)] at nx; exact itf nx
  exact ⟨by omega, nb + 1, main nb 0 (by omega)⟩
theorem hol_Y {σ μ : Mm} {nb : Nat} {P : Nat → Bool} {K : Int32 → Mm → Prop} (hr : RI σ 0 (μ 1 0) nb) (hP : ∀ b k n, b < nb → μ 1 0 (76 + 10 * b) = nI k → μ 1 0 (77 + 10 * b) = nI n → k < 7 → n ≤ 8 → P b = hoB (σ 3 0) (σ 2 0 2) (σ 4 0) (σ 2 0 3) (σ 1 (5 * 0 + b)) k n) (h : ∀ μ', SY μ μ' → K (nI (coF P nb)) μ') : ∃ m, f_X7_count_116 K m (0 : Int32) (0 : Int32) μ := by
  have h5 := hr.2.nb
  have main : ∀ (d b : Nat) (μ' : Mm), b + d = nb → SY μ μ' → f_X7_count_116 K (d + 1) (nI (coF P b)) (nI b) μ' := by
    intro d
    induction d with
    | zero =>
      intro b μ' hb hy
      have : b = nb := by omega
      subst this
      rw [f_X7_count_116, hy.m, hr.2.1.2.1, if_pos (nI_le (by omega) (by omega))]
      exact h μ' hy
    | succ d ih =>
      intro b μ' hb hy
      obtain ⟨k, n, hk, n1, n8, ek, en, fk, fn, z, zz⟩ := hr.ks (b := b) (by omega)
      rw [f_X7_count_116, hy.m, hr.2.1.2.1, if_neg (nI_ge (by omega) (by omega)), nI_1, nI_1, i32_add0]
      refine holds_Y (σ := σ) (nb := nb) (by rw [hy.m]; exact hr) (by omega) hk (by rw [hy.m]; exact ek) (by rw [hy.m]; exact en) n1 n8 (fun μ2 hl => ?_)
      rw [← hP b k n (by omega) ek en hk n8]
      have nx := ih (b + 1) μ2 (by omega) (hy.tr hl.sy)
      unfold coF at nx
      cases e : P b with
      | true => rw [e, if_pos rfl] at nx; exact itt nx
      | false => rw [e, if_neg (by decide)] at nx; exact itf nx
  exact ⟨nb + 1, main nb 0 μ (by omega) SY.rf⟩
theorem E_count (a : Int32) {σ μ : Mm} (h : Rel σ μ) : f_X6_count a σ (fun r σ' => f_X7_count a μ (fun r' μ' => r' = r ∧ Rel σ' μ')) := by
  obtain ⟨nb, h5, hx, hy, hr⟩ := h.nbx
  have i0 := hr.2.2.1
  have bond : ∀ p q, p < 8 → q < 8 → σ 3 0 (8 * p + q) = μ 1 0 (4 + 8 * p + q) := fun p q hp hq => h.bond hp hq
  unfold f_X6_count
  by_cases c0 : a = 0
  · rw [if_pos c0]
    show f_X7_count a μ _
    unfold f_X7_count
    rw [if_pos c0]
    exact ⟨hy.trans hx.symm, h⟩
  rw [if_neg c0]
  by_cases c1 : a = 1
  · rw [if_pos c1]
    have hC : ∀ b, b < nb → ∃ n, n ≤ 8 ∧ σ 0 (5 * 0 + b) 1 = nI n ∧ μ 1 0 (77 + 10 * b) = nI n ∧ cntF (fun s => μ 1 0 (78 + 10 * b + s)) n = cntF (σ 1 (5 * 0 + b)) n := by
      intro b hb
      obtain ⟨k, n, hk, n1, n8, ek, en, fk, fn, z, zz⟩ := hr.ks hb
      exact ⟨n, n8, fn, en, cntF_congr n (fun j hj => (z j (by omega)).1)⟩
    let C : Nat → Nat := fun b => cntF (σ 1 (5 * 0 + b)) (σ 0 (5 * 0 + b) 1).toNatClampNeg
    refine sit_X (C := C) hr (fun b hb => ?_) ?_
    · obtain ⟨n, n8, fn, en, ec⟩ := hC b hb
      refine ⟨n, n8, fn, ?_⟩
      show _ = cntF (σ 1 (5 * 0 + b)) (σ 0 (5 * 0 + b) 1).toNatClampNeg
      rw [fn, nI_clamp (by omega)]
    · show f_X7_count a μ _
      unfold f_X7_count
      rw [if_neg c0, if_pos c1]
      refine sit_Y (C := C) hr.2 (fun b hb => ?_) ⟨rfl, h⟩
      obtain ⟨n, n8, fn, en, ec⟩ := hC b hb
      refine ⟨n, n8, en, ?_⟩
      show _ = cntF (σ 1 (5 * 0 + b)) (σ 0 (5 * 0 + b) 1).toNatClampNeg
      rw [fn, nI_clamp (by omega)]; exact ec
  rw [if_neg c1]
  by_cases c2 : a = 2
  · rw [if_pos c2]
    let P : Nat → Nat → Bool := fun p q => frN (σ 3 0) (σ 2 0 2) p q
    have hs : ∀ p q, p < 8 → q < 8 → P p q = P q p := by
      intro p q hp hq
      show frN _ _ _ _ = frN _ _ _ _
      unfold frN
      rw [bond p q hp hq, bond q p hq hp, (i0.1 p q hp hq).2]
    have hd : ∀ p, p < 8 → P p p = false := by
      intro p hp
      show frN _ _ _ _ = false
      unfold frN
      rw [bond p p hp hp, i0.2 p hp]
      rfl
    refine pairs_X (by omega) hr.ov ?_
    have e := pair_sum (P := P) (M := 8) hs hd 8 (Nat.le_refl 8)
    have le : suN (fun p => coF (P p) p) 8 ≤ 8 * 8 := suN_le 8 (fun j hj => Nat.le_trans (coF_le _ j) (by omega))
    rw [show suN (fun p => coF (fun q => frN (σ 3 0) (σ 2 0 2) p q) 8) 8 = 2 * suN (fun p => coF (P p) p) 8 from e, nI_half (by omega)]
    show f_X7_count a μ _
    unfold f_X7_count
    rw [if_neg c0, if_neg c1, if_pos c2]
    refine pairs_Y (P := P) (Or.inl ⟨rfl, fun p q hp hq => ?_⟩) ⟨rfl, h⟩
    show frN _ _ _ _ = _
    unfold frN
    show _ = (decide (μ 1 0 (4 + (8 * p + q)) = 1) || (decide (μ 1 0 (4 + (8 * p + q)) = 2) && decide (μ 1 0 0 = 1)))
    rw [bond p q hp hq, hr.1.1.1, show 4 + (8 * p + q) = 4 + 8 * p + q by omega]
  rw [if_neg c2]
  by_cases c3 : a = 3
  · rw [if_pos c3]
    let P : Nat → Nat → Bool := fun p q => decide (σ 3 0 (8 * p + q) = 2)
    have hs : ∀ p q, p < 8 → q < 8 → P p q = P q p := by
      intro p q hp hq
      show decide _ = decide _
      rw [bond p q hp hq, bond q p hq hp, (i0.1 p q hp hq).2]
    have hd : ∀ p, p < 8 → P p p = false := by
      intro p hp
      show decide _ = false
      rw [bond p p hp hp, i0.2 p hp]
      rfl
    refine secret_X (by omega) ?_
    have e := pair_sum (P := P) (M := 8) hs hd 8 (Nat.le_refl 8)
    have le : suN (fun p => coF (P p) p) 8 ≤ 8 * 8 := suN_le 8 (fun j hj => Nat.le_trans (coF_le _ j) (by omega))
    have e64 : coF (fun k => decide (σ 3 0 k = 2)) 64 = 2 * suN (fun p => coF (P p) p) 8 := (coF_64 (fun k => decide (σ 3 0 k = 2)) 8).trans e
    rw [e64, nI_half (by omega)]
    show f_X7_count a μ _
    unfold f_X7_count
    rw [if_neg c0, if_neg c1, if_neg c2, if_pos c3]
    refine pairs_Y (P := P) (Or.inr ⟨rfl, fun p q hp hq => ?_⟩) ⟨rfl, h⟩
    show decide _ = _
    rw [bond p q hp hq]
  rw [if_neg c3]
  by_cases c4 : a = 4
  · rw [if_pos c4]
    show f_X7_count a μ _
    unfold f_X7_count
    rw [if_neg c0, if_neg c1, if_neg c2, if_neg c3, if_pos c4]
    exact ⟨hr.1.1.2.1, h⟩
  rw [if_neg c4]
  by_cases c5 : a = 5
  · rw [if_pos c5]
    show f_X7_count a μ _
    unfold f_X7_count
    rw [if_neg c0, if_neg c1, if_neg c2, if_neg c3, if_neg c4, if_pos c5]
    obtain ⟨L, l1, l2, l3, l4⟩ := h.2.2.2.1
    exact ⟨l3.trans l2.symm, h⟩
  rw [if_neg c5]
  by_cases c6 : a = 6
  · rw [if_pos c6]
    show f_X7_count a μ _
    unfold f_X7_count
    rw [if_neg c0, if_neg c1, if_neg c2, if_neg c3, if_neg c4, if_neg c5, if_pos c6]
    exact ⟨hr.1.1.2.2.1, h⟩
  rw [if_neg c6]
  by_cases c7 : a = 7
  · rw [if_pos c7]
    let P : Nat → Bool := fun b => hoB (σ 3 0) (σ 2 0 2) (σ 4 0) (σ 2 0 3) (σ 1 (5 * 0 + b)) (μ 1 0 (76 + 10 * b)).toNatClampNeg (μ 1 0 (77 + 10 * b)).toNatClampNeg
    have hP : ∀ b k n, b < nb → μ 1 0 (76 + 10 * b) = nI k → μ 1 0 (77 + 10 * b) = nI n → k < 7 → n ≤ 8 → P b = hoB (σ 3 0) (σ 2 0 2) (σ 4 0) (σ 2 0 3) (σ 1 (5 * 0 + b)) k n := by
      intro b k n hb e1 e2 hk hn
      show hoB _ _ _ _ _ _ _ = _
      rw [e1, e2, nI_clamp (by omega), nI_clamp (by omega)]
    refine hol_X hr hP ?_
    show f_X7_count a μ _
    unfold f_X7_count
    rw [if_neg c0, if_neg c1, if_neg c2, if_neg c3, if_neg c4, if_neg c5, if_neg c6, if_pos c7]
    exact hol_Y hr hP (fun μ' hy' => ⟨rfl, h.scr Scr.rf hy'.scr⟩)
  rw [if_neg c7]
  refine E_find0' h (fun r σ' hh => ?_)
  show f_X7_count a μ _
  unfold f_X7_count
  rw [if_neg c0, if_neg c1, if_neg c2, if_neg c3, if_neg c4, if_neg c5, if_neg c6, if_neg c7]
  exact hh
