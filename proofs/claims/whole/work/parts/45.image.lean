/-! PURE: images -/
theorem Inv.ext {m m' : Nat → Int32} {nb : Nat} (h : Inv m nb) (e : ∀ k, k < 136 → m' k = m k) : Inv m' nb := by
  obtain ⟨i0, iB, iW, iS, iU, iP⟩ := h
  exact ⟨i0.to (fun j hj _ => e j (by omega)), iB.to (fun j _ hj => e j (by omega)), iW.to (fun j _ hj => e j (by omega)), iS.to i0.1 (fun j _ hj => e j (by omega)), iU.to i0.1 (fun j _ hj => e j (by omega)), iP.to (fun j _ hj => e j (by omega))⟩
theorem RRow.ext {σ : Mm} {r : Nat} {m m' : Nat → Int32} {nb : Nat} (h : RRow σ r m nb) (hn : nb ≤ 5) (e : ∀ k, k < 136 → m' k = m k) : RRow σ r m' nb := by
  obtain ⟨a0, aB, aW, aS, aP⟩ := h
  exact ⟨a0.to (fun j hj => e j (by omega)) rfl rfl, aB.to (fun j _ hj => e j (by omega)) rfl, aW.to (fun j _ hj => e j (by omega)) rfl, aS.to hn (fun j _ hj => e j (by omega)) (fun _ _ => rfl) (fun _ _ => rfl), aP.to (fun j _ hj => e j (by omega)) rfl⟩
theorem RI.ext {σ : Mm} {r : Nat} {m m' : Nat → Int32} {nb : Nat} (h : RI σ r m nb) (e : ∀ k, k < 136 → m' k = m k) : RI σ r m' nb := ⟨h.1.ext h.2.nb e, h.2.ext e⟩
theorem row_1_3 {μ : Mm} {K : Mm → Prop} (h : ∀ μ', (∀ k, k < 136 → μ' 3 0 k = μ 1 0 k) → (∀ t i, ¬ (t = 3 ∧ i = 0) → μ' t i = μ t i) → K μ') : f_X7_row_1_3 μ K := by
  have main : ∀ (d j : Nat) (ν : Mm), j + d = 136 → (∀ k, k < j → ν 3 0 k = μ 1 0 k) → (∀ t i, ¬ (t = 3 ∧ i = 0) → ν t i = μ t i) → f_X7_row_1_3_2 K (d + 1) (nI j) ν := by
    intro d
    induction d with
    | zero =>
      intro j ν hj h1 h2
      have : j = 136 := by omega
      subst this
      rw [f_X7_row_1_3_2, if_pos (by decide)]
      exact h ν h1 h2
    | succ d ih =>
      intro j ν hj h1 h2
      rw [f_X7_row_1_3_2, if_neg (show ¬ (136 : Int32) ≤ nI j from nI_ge (a := j) (b := 136) (by omega) (by omega)), nI_clamp (by omega)]
      refine ⟨vp_in_nI (by omega) (by omega), vp_in_nI (by omega) (by omega), _, rfl, ?_⟩
      rw [nI_1]
      refine ih (j + 1) _ (by omega) (fun k hk => ?_) (fun t i hne => ?_)
      · rw [mset_ap]
        by_cases e : k = j
        · subst e; rw [if_pos ⟨rfl, rfl, rfl⟩, h2 1 0 (by omega)]
        · rw [if_neg (by omega)]; exact h1 k (by omega)
      · rw [mset_ne hne]; exact h2 t i hne
  exact ⟨137, main 136 0 μ (by omega) (fun k hk => absurd hk (by omega)) (fun _ _ _ => rfl)⟩
theorem row_3_1 {μ : Mm} {K : Mm → Prop} (h : ∀ μ', (∀ k, k < 136 → μ' 1 0 k = μ 3 0 k) → (∀ t i, ¬ (t = 1 ∧ i = 0) → μ' t i = μ t i) → K μ') : f_X7_row_3_1 μ K := by
  have main : ∀ (d j : Nat) (ν : Mm), j + d = 136 → (∀ k, k < j → ν 1 0 k = μ 3 0 k) → (∀ t i, ¬ (t = 1 ∧ i = 0) → ν t i = μ t i) → f_X7_row_3_1_2 K (d + 1) (nI j) ν := by
    intro d
    induction d with
    | zero =>
      intro j ν hj h1 h2
      have : j = 136 := by omega
      subst this
      rw [f_X7_row_3_1_2, if_pos (by decide)]
      exact h ν h1 h2
    | succ d ih =>
      intro j ν hj h1 h2
      rw [f_X7_row_3_1_2, if_neg (show ¬ (136 : Int32) ≤ nI j from nI_ge (a := j) (b := 136) (by omega) (by omega)), nI_clamp (by omega)]
      refine ⟨vp_in_nI (by omega) (by omega), vp_in_nI (by omega) (by omega), _, rfl, ?_⟩
      rw [nI_1]
      refine ih (j + 1) _ (by omega) (fun k hk => ?_) (fun t i hne => ?_)
      · rw [mset_ap]
        by_cases e : k = j
        · subst e; rw [if_pos ⟨rfl, rfl, rfl⟩, h2 3 0 (by omega)]
        · rw [if_neg (by omega)]; exact h1 k (by omega)
      · rw [mset_ne hne]; exact h2 t i hne
  exact ⟨137, main 136 0 μ (by omega) (fun k hk => absurd hk (by omega)) (fun _ _ _ => rfl)⟩
theorem row_1_2 {μ : Mm} {K : Mm → Prop} (h : ∀ μ', (∀ k, k < 136 → μ' 2 0 k = μ 1 0 k) → (∀ t i, ¬ (t = 2 ∧ i = 0) → μ' t i = μ t i) → K μ') : f_X7_row_1_2 μ K := by
  have main : ∀ (d j : Nat) (ν : Mm), j + d = 136 → (∀ k, k < j → ν 2 0 k = μ 1 0 k) → (∀ t i, ¬ (t = 2 ∧ i = 0) → ν t i = μ t i) → f_X7_row_1_2_2 K (d + 1) (nI j) ν := by
    intro d
    induction d with
    | zero =>
      intro j ν hj h1 h2
      have : j = 136 := by omega
      subst this
      rw [f_X7_row_1_2_2, if_pos (by decide)]
      exact h ν h1 h2
    | succ d ih =>
      intro j ν hj h1 h2
      rw [f_X7_row_1_2_2, if_neg (show ¬ (136 : Int32) ≤ nI j from nI_ge (a := j) (b := 136) (by omega) (by omega)), nI_clamp (by omega)]
      refine ⟨vp_in_nI (by omega) (by omega), vp_in_nI (by omega) (by omega), _, rfl, ?_⟩
      rw [nI_1]
      refine ih (j + 1) _ (by omega) (fun k hk => ?_) (fun t i hne => ?_)
      · rw [mset_ap]
        by_cases e : k = j
        · subst e; rw [if_pos ⟨rfl, rfl, rfl⟩, h2 1 0 (by omega)]
        · rw [if_neg (by omega)]; exact h1 k (by omega)
      · rw [mset_ne hne]; exact h2 t i hne
  exact ⟨137, main 136 0 μ (by omega) (fun k hk => absurd hk (by omega)) (fun _ _ _ => rfl)⟩
theorem row_2_1 {μ : Mm} {K : Mm → Prop} (h : ∀ μ', (∀ k, k < 136 → μ' 1 0 k = μ 2 0 k) → (∀ t i, ¬ (t = 1 ∧ i = 0) → μ' t i = μ t i) → K μ') : f_X7_row_2_1 μ K := by
  have main : ∀ (d j : Nat) (ν : Mm), j + d = 136 → (∀ k, k < j → ν 1 0 k = μ 2 0 k) → (∀ t i, ¬ (t = 1 ∧ i = 0) → ν t i = μ t i) → f_X7_row_2_1_2 K (d + 1) (nI j) ν := by
    intro d
    induction d with
    | zero =>
      intro j ν hj h1 h2
      have : j = 136 := by omega
      subst this
      rw [f_X7_row_2_1_2, if_pos (by decide)]
      exact h ν h1 h2
    | succ d ih =>
      intro j ν hj h1 h2
      rw [f_X7_row_2_1_2, if_neg (show ¬ (136 : Int32) ≤ nI j from nI_ge (a := j) (b := 136) (by omega) (by omega)), nI_clamp (by omega)]
      refine ⟨vp_in_nI (by omega) (by omega), vp_in_nI (by omega) (by omega), _, rfl, ?_⟩
      rw [nI_1]
      refine ih (j + 1) _ (by omega) (fun k hk => ?_) (fun t i hne => ?_)
      · rw [mset_ap]
        by_cases e : k = j
        · subst e; rw [if_pos ⟨rfl, rfl, rfl⟩, h2 2 0 (by omega)]
        · rw [if_neg (by omega)]; exact h1 k (by omega)
      · rw [mset_ne hne]; exact h2 t i hne
  exact ⟨137, main 136 0 μ (by omega) (fun k hk => absurd hk (by omega)) (fun _ _ _ => rfl)⟩
/-- one bench becomes as another -/
def bcp (σ : Mm) (i j : Nat) : Mm := mrow (mset (mset σ 0 i 0 (σ 0 j 0)) 0 i 1 (σ 0 j 1)) 1 i (va_cpy (σ 1 j) (σ 1 i) 0 0 8)
theorem become_X {i j : Nat} {σ : Mm} {K : Mm → Prop} (hi : i < 17) (hj : j < 17) (hne : i ≠ j) (h : K (bcp σ i j)) : f_X0_become i j σ K := by
  refine ⟨hi, hj, _, rfl, _, rfl, _, rfl, ?_⟩
  have e1 : mset σ 0 i 0 (σ 0 j 0) 0 j 1 = σ 0 j 1 := by rw [mset_ne (by omega)]
  rw [e1, mset_ne (by omega), mset_ne (by omega), mset_ne (by omega), mset_ne (by omega)]
  exact h
theorem bcp_0 {σ : Mm} {i j : Nat} : bcp σ i j 0 i 0 = σ 0 j 0 ∧ bcp σ i j 0 i 1 = σ 0 j 1 := by
  unfold bcp
  constructor
  · rw [mrow_ne _ _ (by omega), mset_ap, if_neg (by omega), mset_ap, if_pos ⟨rfl, rfl, rfl⟩]
  · rw [mrow_ne _ _ (by omega), mset_ap, if_pos ⟨rfl, rfl, rfl⟩]
theorem bcp_1 {σ : Mm} {i j s : Nat} (hs : s < 8) : bcp σ i j 1 i s = σ 1 j s := by
  unfold bcp
  rw [mrow_ap, if_pos ⟨rfl, rfl⟩, pk_cpy_in (by omega) (by omega)]
  congr 1
  omega
theorem bcp_ne {σ : Mm} {i j t x : Nat} (h : ¬ ((t = 0 ∨ t = 1) ∧ x = i)) : bcp σ i j t x = σ t x := by
  unfold bcp
  rw [mrow_ne _ _ (by omega), mset_ne (by omega), mset_ne (by omega)]
/-- a room becomes as another: what is there behind it -/
def inR (t i r : Nat) : Prop := ((t = 0 ∨ t = 1) ∧ 5 * r ≤ i ∧ i < 5 * r + 5) ∨ ((t = 2 ∨ t = 3 ∨ t = 4 ∨ t = 5 ∨ t = 7) ∧ i = r)
def CopyR (σ : Mm) (j i : Nat) (σ' : Mm) : Prop := (σ' 2 i 2 = σ 2 j 2 ∧ σ' 2 i 3 = σ 2 j 3) ∧ (∀ k, k < 64 → σ' 3 i k = σ 3 j k) ∧ (∀ p, p < 8 → σ' 4 i p = σ 4 j p) ∧ (∀ b, b < 5 → σ' 0 (5 * i + b) 0 = σ 0 (5 * j + b) 0 ∧ σ' 0 (5 * i + b) 1 = σ 0 (5 * j + b) 1 ∧ ∀ s, s < 8 → σ' 1 (5 * i + b) s = σ 1 (5 * j + b) s) ∧ (σ' 5 i 2 = σ 5 j 2 ∧ σ' 5 i 4 = σ 5 j 4) ∧ (∀ k, k < 10 → σ' 7 i k = σ 7 j k) ∧ ∀ t x, ¬ inR t x i → σ' t x = σ t x
theorem copyR_X {i j : Nat} {σ : Mm} {K : Mm → Prop} (hi : i < 3) (hj : j < 3) (hne : i ≠ j) (hb : bz (σ 2 j 2)) (h : ∀ σ', CopyR σ j i σ' → K σ') : f_X2_become i j σ K := by
  have n0 : (0 : Int32).toNatClampNeg = 0 := rfl
  have n64 : (64 : Int32).toNatClampNeg = 64 := rfl
  have n8 : (8 : Int32).toNatClampNeg = 8 := rfl
  have n10 : (10 : Int32).toNatClampNeg = 10 := rfl
  refine ⟨hi, hj, ?_⟩
  unfold f_X1_become
  rw [n0, n64, n8, n10]
  refine ⟨hi, hj, _, rfl, _, rfl, ?_, _, rfl, _, rfl, ?_⟩
  · rw [mrow_ne _ _ (by omega), mrow_ne _ _ (by omega)]; exact hb
  · -- the state behind the persons
    generalize hτ : mset (mset (mrow (mrow σ 3 i (va_cpy (σ 3 j) (σ 3 i) 0 0 64)) 4 i (va_cpy (mrow σ 3 i (va_cpy (σ 3 j) (σ 3 i) 0 0 64) 4 j) (mrow σ 3 i (va_cpy (σ 3 j) (σ 3 i) 0 0 64) 4 i) 0 0 8)) 2 i 2 (mrow (mrow σ 3 i (va_cpy (σ 3 j) (σ 3 i) 0 0 64)) 4 i (va_cpy (mrow σ 3 i (va_cpy (σ 3 j) (σ 3 i) 0 0 64) 4 j) (mrow σ 3 i (va_cpy (σ 3 j) (σ 3 i) 0 0 64) 4 i) 0 0 8) 2 j 2)) 2 i 3 (mset (mrow (mrow σ 3 i (va_cpy (σ 3 j) (σ 3 i) 0 0 64)) 4 i (va_cpy (mrow σ 3 i (va_cpy (σ 3 j) (σ 3 i) 0 0 64) 4 j) (mrow σ 3 i (va_cpy (σ 3 j) (σ 3 i) 0 0 64) 4 i) 0 0 8)) 2 i 2 (mrow (mrow σ 3 i (va_cpy (σ 3 j) (σ 3 i) 0 0 64)) 4 i (va_cpy (mrow σ 3 i (va_cpy (σ 3 j) (σ 3 i) 0 0 64) 4 j) (mrow σ 3 i (va_cpy (σ 3 j) (σ 3 i) 0 0 64) 4 i) 0 0 8) 2 j 2) 2 j 3) = τ
    have t2 : τ 2 i 2 = σ 2 j 2 ∧ τ 2 i 3 = σ 2 j 3 := by
      subst hτ
      constructor
      · rw [mset_ap, if_neg (by omega), mset_ap, if_pos ⟨rfl, rfl, rfl⟩, mrow_ne _ _ (by omega), mrow_ne _ _ (by omega)]
      · rw [mset_ap, if_pos ⟨rfl, rfl, rfl⟩, mset_ne (by omega), mrow_ne _ _ (by omega), mrow_ne _ _ (by omega)]
    have t3 : ∀ k, k < 64 → τ 3 i k = σ 3 j k := by
      intro k hk
      subst hτ
      rw [mset_ne (by omega), mset_ne (by omega), mrow_ne _ _ (by omega), mrow_ap, if_pos ⟨rfl, rfl⟩, pk_cpy_in (by omega) (by omega)]
      congr 1
      omega
    have t4 : ∀ k, k < 8 → τ 4 i k = σ 4 j k := by
      intro k hk
      subst hτ
      rw [mset_ne (by omega), mset_ne (by omega), mrow_ap, if_pos ⟨rfl, rfl⟩, pk_cpy_in (by omega) (by omega), mrow_ne _ _ (by omega)]
      congr 1
      omega
    have to : ∀ t x, ¬ ((t = 2 ∨ t = 3 ∨ t = 4) ∧ x = i) → τ t x = σ t x := by
      intro t x hx
      subst hτ
      rw [mset_ne (by omega), mset_ne (by omega), mrow_ne _ _ (by omega), mrow_ne _ _ (by omega)]
    have main : ∀ (d b : Nat) (ν : Mm) (k39 : Mm → Prop), b + d = 5 → (∀ c, c < b → ν 0 (5 * i + c) 0 = τ 0 (5 * j + c) 0 ∧ ν 0 (5 * i + c) 1 = τ 0 (5 * j + c) 1 ∧ ∀ s, s < 8 → ν 1 (5 * i + c) s = τ 1 (5 * j + c) s) → (∀ t x, ¬ ((t = 0 ∨ t = 1) ∧ 5 * i ≤ x ∧ x < 5 * i + b) → ν t x = τ t x) →
        (∀ ν', (∀ c, c < 5 → ν' 0 (5 * i + c) 0 = τ 0 (5 * j + c) 0 ∧ ν' 0 (5 * i + c) 1 = τ 0 (5 * j + c) 1 ∧ ∀ s, s < 8 → ν' 1 (5 * i + c) s = τ 1 (5 * j + c) s) → (∀ t x, ¬ ((t = 0 ∨ t = 1) ∧ 5 * i ≤ x ∧ x < 5 * i + 5) → ν' t x = τ t x) → k39 ν') → f_X2_become_13 i j K k39 (d + 1) (nI b) ν := by
      intro d
      induction d with
      | zero =>
        intro b ν k39 hd h1 h2 h3
        have : b = 5 := by omega
        subst this
        rw [f_X2_become_13, if_pos (by decide)]
        exact h3 ν h1 h2
      | succ d ih =>
        intro b ν k39 hd h1 h2 h3
        rw [f_X2_become_13, if_neg (show ¬ (5 : Int32) ≤ nI b from nI_ge (a := b) (b := 5) (by omega) (by omega)), nI_clamp (by omega)]
        refine ⟨vp_in_nI (by omega) (by omega), by omega, vp_in_nI (by omega) (by omega), by omega, become_X (by omega) (by omega) (by omega) ?_⟩
        rw [nI_1]
        refine ih (b + 1) _ k39 (by omega) (fun c hc => ?_) (fun t x hx => ?_) h3
        · by_cases e : c = b
          · subst e
            refine ⟨bcp_0.1.trans ?_, bcp_0.2.trans ?_, fun s hs => (bcp_1 hs).trans ?_⟩
            · rw [h2 0 _ (by omega)]
            · rw [h2 0 _ (by omega)]
            · rw [h2 1 _ (by omega)]
          · rw [bcp_ne (by omega), bcp_ne (by omega)]
            exact h1 c (by omega)
        · rw [bcp_ne (by omega)]; exact h2 t x (by omega)
    refine ⟨6, main 5 0 τ _ (by omega) (fun c hc => absurd hc (by omega)) (fun _ _ _ => rfl) ?_⟩
    intro ν h1 h2
    refine ⟨_, rfl, _, rfl, _, rfl, h _ ?_⟩
    refine ⟨⟨?_, ?_⟩, fun k hk => ?_, fun k hk => ?_, fun b hb => ⟨?_, ?_, fun s hs => ?_⟩, ⟨?_, ?_⟩, fun k hk => ?_, fun t x hx => ?_⟩
    · rw [mset_ne (by omega), mrow_ne _ _ (by omega), mset_ne (by omega), h2 _ _ (by omega)]; exact t2.1
    · rw [mset_ne (by omega), mrow_ne _ _ (by omega), mset_ne (by omega), h2 _ _ (by omega)]; exact t2.2
    · rw [mset_ne (by omega), mrow_ne _ _ (by omega), mset_ne (by omega), h2 _ _ (by omega)]; exact t3 k hk
    · rw [mset_ne (by omega), mrow_ne _ _ (by omega), mset_ne (by omega), h2 _ _ (by omega)]; exact t4 k hk
    · rw [mset_ne (by omega), mrow_ne _ _ (by omega), mset_ne (by omega), (h1 b hb).1, to _ _ (by omega)]
    · rw [mset_ne (by omega), mrow_ne _ _ (by omega), mset_ne (by omega), (h1 b hb).2.1, to _ _ (by omega)]
    · rw [mset_ne (by omega), mrow_ne _ _ (by omega), mset_ne (by omega), (h1 b hb).2.2 s hs, to _ _ (by omega)]
    · rw [mset_ap, if_neg (by omega), mrow_ne _ _ (by omega), mset_ap, if_pos ⟨rfl, rfl, rfl⟩, h2 _ _ (by omega), to _ _ (by omega)]
    · rw [mset_ap, if_pos ⟨rfl, rfl, rfl⟩, mrow_ne _ _ (by omega), mset_ne (by omega), h2 _ _ (by omega), to _ _ (by omega)]
    · rw [mset_ne (by omega), mrow_ap, if_pos ⟨rfl, rfl⟩, pk_cpy_in (by omega) (by omega), mset_ne (by omega), h2 _ _ (by omega), to _ _ (by omega)]
      congr 1
      omega
    · unfold inR at hx
      rw [mset_ne (by omega), mrow_ne _ _ (by omega), mset_ne (by omega), h2 _ _ (by omega), to _ _ (by omega)]
theorem RRow.copy {σ σ' : Mm} {i j : Nat} {m : Nat → Int32} {nb : Nat} (h : RRow σ j m nb) (hn : nb ≤ 5) (c : CopyR σ j i σ') : RRow σ' i m nb := by
  obtain ⟨⟨z1, z2, z3, z4⟩, aB, aW, aS, aP⟩ := h
  obtain ⟨⟨c1, c2⟩, c3, c4, c5, ⟨c6, c7⟩, c8, -⟩ := c
  refine ⟨⟨by rw [c1]; exact z1, by rw [c2]; exact z2, by rw [c7]; exact z3, by rw [c6]; exact z4⟩, fun k hk => by rw [c3 k hk]; exact aB k hk, fun k hk => by rw [c4 k hk]; exact aW k hk, fun b hb => ?_, fun k hk => by rw [c8 k hk]; exact aP k hk⟩
  obtain ⟨y1, y2, y3⟩ := aS b hb
  obtain ⟨d1, d2, d3⟩ := c5 b (by omega)
  exact ⟨by rw [d1]; exact y1, by rw [d2]; exact y2, fun s hs => by rw [d3 s hs]; exact y3 s hs⟩
theorem RI.copy {σ σ' : Mm} {i j : Nat} {m : Nat → Int32} {nb : Nat} (h : RI σ j m nb) (c : CopyR σ j i σ') : RI σ' i m nb := ⟨h.1.copy h.2.nb c, h.2⟩
theorem RRow.apart {σ σ' : Mm} {i j r : Nat} {m : Nat → Int32} {nb : Nat} (h : RRow σ r m nb) (hr : r < 3) (hn : nb ≤ 5) (hne : r ≠ i) (c : CopyR σ j i σ') : RRow σ' r m nb := by
  obtain ⟨-, -, -, -, -, -, c⟩ := c
  exact h.congr hr hn (c _ _ (by unfold inR; omega)) (c _ _ (by unfold inR; omega)) (c _ _ (by unfold inR; omega)) (c _ _ (by unfold inR; omega)) (c _ _ (by unfold inR; omega)) (fun b hb => c _ _ (by unfold inR; omega)) (fun b hb => c _ _ (by unfold inR; omega))
theorem RI.apart {σ σ' : Mm} {i j r : Nat} {m : Nat → Int32} {nb : Nat} (h : RI σ r m nb) (hr : r < 3) (hne : r ≠ i) (c : CopyR σ j i σ') : RI σ' r m nb := ⟨h.1.apart hr h.2.nb hne c, h.2⟩
theorem RI.ov {σ : Mm} {r : Nat} {m : Nat → Int32} {nb : Nat} (h : RI σ r m nb) : bz (σ 2 r 2) := by rw [← h.1.1.1]; exact h.2.1.2.2.1
theorem RK.bit {σ μ : Mm} (h : RK σ μ) : (σ 16 0 2 = 0 ∧ μ 0 0 3 = 0) ∨ (σ 16 0 2 = 1 ∧ μ 0 0 3 = 1) := by
  obtain ⟨h1, ⟨b, hb⟩, -⟩ := h
  cases b with
  | false => exact Or.inl ⟨h1.trans hb, hb⟩
  | true => exact Or.inr ⟨h1.trans hb, hb⟩
theorem E_image {σ μ : Mm} (h : Rel σ μ) : f_X6_image σ (fun r σ' => f_X7_image μ (fun r' μ' => r' = r ∧ Rel σ' μ')) := by
  obtain ⟨nb, h5, hx, hy, hr⟩ := h.nbx
  obtain ⟨-, hk, hF, ⟨L, l1, l2, l3, l4⟩, hH, hX⟩ := h
  refine copyR_X (by omega) (by omega) (by omega) hr.ov (fun σ' hc => ⟨_, rfl, row_1_2 (fun μ' m1 m2 => ⟨_, rfl, rfl, ?_⟩)⟩)
  have ho := hc.2.2.2.2.2.2
  have so : ∀ t i, ¬ inR t i 1 → ¬ (t = 16 ∧ i = 0) → mset σ' 16 0 2 1 t i = σ t i := fun t i a b => by rw [mset_ne b]; exact ho t i a
  have mo : ∀ t i, ¬ (t = 2 ∧ i = 0) → ¬ (t = 0 ∧ i = 0) → mset μ' 0 0 3 1 t i = μ t i := fun t i a b => by rw [mset_ne b]; exact m2 t i a
  refine ⟨⟨nb, ?_⟩, ⟨?_, ?_, fun _ => ⟨nb, ?_⟩⟩, fun k hk => ?_, ⟨L, l1, ?_, ?_, fun k hk => ?_⟩, fun s hs => ?_, ?_, ?_⟩
  · rw [mo 1 0 (by omega) (by omega)]
    exact ⟨(hr.1.apart (by omega) h5 (by omega) hc).congr (by omega) h5 (mset_ne (by omega)) (mset_ne (by omega)) (mset_ne (by omega)) (mset_ne (by omega)) (mset_ne (by omega)) (fun _ _ => mset_ne (by omega)) (fun _ _ => mset_ne (by omega)), hr.2⟩
  · rw [mset_ap, mset_ap, if_pos ⟨rfl, rfl, rfl⟩, if_pos ⟨rfl, rfl, rfl⟩]
  · rw [mset_ap, if_pos ⟨rfl, rfl, rfl⟩]; exact ⟨true, rfl⟩
  · rw [mset_ne (by omega)]
    have e : RI σ' 1 (μ' 2 0) nb := (hr.copy hc).ext m1
    exact ⟨e.1.congr (by omega) h5 (mset_ne (by omega)) (mset_ne (by omega)) (mset_ne (by omega)) (mset_ne (by omega)) (mset_ne (by omega)) (fun _ _ => mset_ne (by omega)) (fun _ _ => mset_ne (by omega)), e.2⟩
  · rw [so _ _ (by unfold inR; omega) (by omega), mo _ _ (by omega) (by omega)]; exact hF k hk
  · rw [mset_ap, if_neg (by omega), ho _ _ (by unfold inR; omega)]; exact l2
  · rw [mset_ap, if_neg (by omega), m2 _ _ (by omega)]; exact l3
  · rw [so _ _ (by unfold inR; omega) (by omega), mo _ _ (by omega) (by omega)]; exact l4 k hk
  · rw [so _ _ (by unfold inR; omega) (by omega), so _ _ (by unfold inR; omega) (by omega), mo _ _ (by omega) (by omega), mo _ _ (by omega) (by omega), mo _ _ (by omega) (by omega)]; exact hH s hs
  · rw [so _ _ (by unfold inR; omega) (by omega)]; exact hX.1
  · rw [so _ _ (by unfold inR; omega) (by omega)]; exact hX.2
theorem E_undo {σ μ : Mm} (h : Rel σ μ) : f_X6_undo σ (fun r σ' => f_X7_undo μ (fun r' μ' => r' = r ∧ Rel σ' μ')) := by
  unfold f_X6_undo f_X7_undo
  rcases h.2.1.bit with ⟨e1, e2⟩ | ⟨e1, e2⟩
  · rw [if_pos e1]
    simp only [if_pos e2]
    exact E_find 3 (by decide) _ _ rfl (by decide) h
  · rw [if_neg (by rw [e1]; decide)]
    simp only [if_neg (show ¬ μ 0 0 3 = 0 by rw [e2]; decide)]
    obtain ⟨nb, hr⟩ := h.2.1.2.2 e2
    have h5 := hr.2.nb
    have hr : RI σ 1 (μ 2 0) nb := hr
    refine copyR_X (by omega) (by omega) (by omega) hr.ov (fun σ' hc => row_2_1 (fun μ' m1 m2 => ?_))
    have e : RI σ' 0 (μ' 1 0) nb := (hr.copy hc).ext m1
    have ho := hc.2.2.2.2.2.2
    refine ⟨e.1.1.2.2.2, h.out ⟨fun t i a b c => ho _ _ (by unfold inR; omega), fun t a => ho _ _ (by unfold inR; omega), fun t i a => ho _ _ (by unfold inR; omega), by rw [ho _ _ (by unfold inR; omega)], by rw [ho _ _ (by unfold inR; omega)]⟩ ⟨fun t a => m2 _ _ (by omega), by rw [m2 _ _ (by omega)], by rw [m2 _ _ (by omega)]⟩ e⟩
theorem E_tear {σ μ : Mm} (h : Rel σ μ) : f_X6_tear σ (fun r σ' => f_X7_tear μ (fun r' μ' => r' = r ∧ Rel σ' μ')) := by
  have key : Rel (mset σ 16 0 2 0) (mset μ 0 0 3 0) := by
    obtain ⟨⟨nb, hr⟩, hk, hF, ⟨L, l1, l2, l3, l4⟩, hH, hX⟩ := h
    refine ⟨⟨nb, ?_⟩, ⟨?_, ?_, fun z => ?_⟩, fun k hk => ?_, ⟨L, l1, ?_, ?_, fun k hk => ?_⟩, fun s hs => ?_, ?_, ?_⟩
    · rw [mset_ne (by omega)]
      exact ⟨hr.1.congr (by omega) hr.2.nb (mset_ne (by omega)) (mset_ne (by omega)) (mset_ne (by omega)) (mset_ne (by omega)) (mset_ne (by omega)) (fun _ _ => mset_ne (by omega)) (fun _ _ => mset_ne (by omega)), hr.2⟩
    · rw [mset_ap, mset_ap, if_pos ⟨rfl, rfl, rfl⟩, if_pos ⟨rfl, rfl, rfl⟩]
    · rw [mset_ap, if_pos ⟨rfl, rfl, rfl⟩]; exact ⟨false, rfl⟩
    · rw [mset_ap, if_pos ⟨rfl, rfl, rfl⟩] at z; exact absurd z (by decide)
    · rw [mset_ne (by omega), mset_ne (by omega)]; exact hF k hk
    · rw [mset_ap, if_neg (by omega)]; exact l2
    · rw [mset_ap, if_neg (by omega)]; exact l3
    · rw [mset_ne (by omega), mset_ne (by omega)]; exact l4 k hk
    · rw [mset_ne (by omega), mset_ne (by omega), mset_ne (by omega), mset_ne (by omega), mset_ne (by omega)]; exact hH s hs
    · rw [mset_ne (by omega)]; exact hX.1
    · rw [mset_ne (by omega)]; exact hX.2
  unfold f_X6_tear f_X7_tear
  rcases h.2.1.bit with ⟨e1, e2⟩ | ⟨e1, e2⟩
  · rw [if_pos e1]
    refine ⟨_, rfl, ?_⟩
    dsimp only
    rw [if_pos e2]
    exact ⟨_, rfl, rfl, key⟩
  · rw [if_neg (by rw [e1]; decide)]
    refine ⟨_, rfl, ?_⟩
    dsimp only
    rw [if_neg (by rw [e2]; decide)]
    exact ⟨_, rfl, rfl, key⟩
