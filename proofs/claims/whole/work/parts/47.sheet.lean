/-! PURE: status and sheets -/
def sumF (f : Nat → Int32) : Nat → Int32
  | 0 => 0
  | k + 1 => sumF f k + f k
theorem sumF_congr {f g : Nat → Int32} : ∀ n, (∀ k, k < n → f k = g k) → sumF f n = sumF g n := by
  intro n
  induction n with
  | zero => intro _; rfl
  | succ n ih => intro h; rw [sumF, sumF, ih (fun k hk => h k (by omega)), h n (by omega)]
theorem i32_add0 (x : Int32) : x + 0 = x := Int32.add_zero x
theorem i32_0add (x : Int32) : 0 + x = x := Int32.zero_add x
theorem status_X {σ : Mm} {K : Int32 → Mm → Prop} (h : K (sumF (σ 15 0) 7) σ) : ∃ m, f_X6_status_32 K m (0 : Int32) (0 : Int32) σ := by
  have main : ∀ (d j : Nat), j + d = 7 → f_X6_status_32 K (d + 1) (sumF (σ 15 0) j) (nI j) σ := by
    intro d
    induction d with
    | zero =>
      intro j hj
      have : j = 7 := by omega
      subst this
      rw [f_X6_status_32, if_pos (by decide)]; exact h
    | succ d ih =>
      intro j hj
      rw [f_X6_status_32, if_neg (show ¬ (7 : Int32) ≤ nI j from nI_ge (a := j) (b := 7) (by omega) (by omega)), nI_clamp (by omega), nI_1]
      exact ⟨vp_in_nI (by omega) (by omega), ih (j + 1) (by omega)⟩
  exact ⟨8, main 7 0 (by omega)⟩
theorem status_Y1 {a : Int32} (ha : a < 0) {μ : Mm} {K : Int32 → Mm → Prop} (h : K (sumF (μ 4 0) 7) μ) : ∃ m, f_X7_status_25 a K m (0 : Int32) (0 : Int32) μ := by
  have main : ∀ (d j : Nat), j + d = 7 → f_X7_status_25 a K (d + 1) (sumF (μ 4 0) j) (nI j) μ := by
    intro d
    induction d with
    | zero =>
      intro j hj
      have : j = 7 := by omega
      subst this
      rw [f_X7_status_25, if_pos (by decide)]; exact h
    | succ d ih =>
      intro j hj
      rw [f_X7_status_25, if_neg (show ¬ (7 : Int32) ≤ nI j from nI_ge (a := j) (b := 7) (by omega) (by omega)), if_pos ha]
      unfold f_X7_status_41
      rw [nI_clamp (by omega), nI_1]
      exact ⟨vp_in_nI (by omega) (by omega), ih (j + 1) (by omega)⟩
  exact ⟨8, main 7 0 (by omega)⟩
theorem status_Y2 {w : Nat} (hw : w < 7) {μ : Mm} {K : Int32 → Mm → Prop} (h : K (μ 4 0 w) μ) : ∃ m, f_X7_status_25 (nI w) K m (0 : Int32) (0 : Int32) μ := by
  have main : ∀ (d j : Nat), j + d = 7 → f_X7_status_25 (nI w) K (d + 1) (if w < j then μ 4 0 w else 0) (nI j) μ := by
    intro d
    induction d with
    | zero =>
      intro j hj
      have : j = 7 := by omega
      subst this
      rw [f_X7_status_25, if_pos (by decide), if_pos hw]; exact h
    | succ d ih =>
      intro j hj
      rw [f_X7_status_25, if_neg (show ¬ (7 : Int32) ≤ nI j from nI_ge (a := j) (b := 7) (by omega) (by omega)), if_neg (nI_pos (by omega)), nI_1]
      have step := ih (j + 1) (by omega)
      by_cases c : w = j
      · rw [if_pos (by rw [c])]
        unfold f_X7_status_41
        rw [nI_clamp (by omega), nI_1]
        refine ⟨vp_in_nI (by omega) (by omega), ?_⟩
        rw [if_neg (by omega), i32_0add]
        rw [if_pos (by omega)] at step
        rw [← c] at step ⊢
        exact step
      · rw [if_neg (fun e => c ((nI_eq (by omega) (by omega)).mp e)), i32_add0]
        by_cases c2 : w < j
        · rw [if_pos c2]; rw [if_pos (by omega)] at step; exact step
        · rw [if_neg c2]; rw [if_neg (by omega)] at step; exact step
  exact ⟨8, main 7 0 (by omega)⟩
theorem E_status (a : Int32) {σ μ : Mm} (h : Rel σ μ) : f_X6_status a σ (fun r σ' => f_X7_status a μ (fun r' μ' => r' = r ∧ Rel σ' μ')) := by
  have hF := h.2.2.1
  unfold f_X6_status f_X7_status
  simp only [in_inZ]
  have e0 : ∀ A B : Prop, (if a < (-1 : Int32) then A else if a < (7 : Int32) then B else A) = (if inZ a (-1) 6 = true then B else A) := by
    intro A B
    unfold inZ
    simp only [Int32.lt_iff_toInt_lt, decide_eq_true_eq, show (-1 : Int32).toInt = -1 by decide, show (7 : Int32).toInt = 7 by decide]
    by_cases c : a.toInt < -1
    · rw [if_pos c, if_neg (by omega)]
    · by_cases c2 : a.toInt < 7
      · rw [if_neg c, if_pos c2, if_pos (by omega)]
      · rw [if_neg c, if_neg c2, if_neg (by omega)]
  rw [e0]
  simp only [show (-1 : Int64).toInt = -1 by decide, show (6 : Int64).toInt = 6 by decide]
  cases e : inZ a (-1) 6 with
  | false => simp only [Bool.false_eq_true, if_false]; exact E_find0 h
  | true =>
    simp only [if_true]
    by_cases c : a < 0
    · rw [if_pos c]
      refine status_X (status_Y1 c ⟨?_, h⟩)
      exact (sumF_congr 7 hF).symm
    · rw [if_neg c]
      have e' := of_decide_eq_true e
      obtain ⟨w, hw, rfl⟩ := nI_of c
      rw [nI_toInt hw] at e'
      rw [nI_clamp hw]
      exact ⟨vp_in_nI (by omega) (by omega), status_Y2 (by omega) ⟨(hF w (by omega)).symm, h⟩⟩
theorem isSheet_X (a : Int32) (σ : Mm) (K : Bool → Mm → Prop) : f_X6_isSheet a σ K = K (inZ a 0 3) σ := K_inZ
theorem isSheet_Y (a : Int32) (σ : Mm) (K : Bool → Mm → Prop) : f_X7_isSheet a σ K = K (inZ a 0 3) σ := in_inZ a 0 3 σ K
theorem missing_X {s : Nat} (hs : s < 4) (σ : Mm) (K : Bool → Mm → Prop) : f_X4_isMissing s σ K = K (decide (σ 13 s 0 = 0)) σ := by
  unfold f_X4_isMissing
  by_cases c : σ 13 s 0 = 0 <;> simp [c, hs]
theorem num_ix {s k : Nat} (_hs : s < 4) (_hk : k < 40) : (((40 : Int32) * nI s) + nI k) = nI (40 * s + k) := by
  simp only [i32_lit, pk_mul, nI_add]
theorem fill40 {s : Nat} {v : Int32} {σ : Mm} {K : Mm → Prop} (hs : s < 4) (h : ∀ σ', (∀ k, k < 40 → σ' 14 s k = v) → (∀ t i, ¬ (t = 14 ∧ i = s) → σ' t i = σ t i) → K σ') : f_J7_fill_53178_14 s v σ K := by
  have main : ∀ (d j : Nat) (ν : Mm), j + d = 40 → (∀ k, k < j → ν 14 s k = v) → (∀ t i, ¬ (t = 14 ∧ i = s) → ν t i = σ t i) → f_J7_fill_53178_14_5 s v (40 : Int32) K (d + 1) (nI j) ν := by
    intro d
    induction d with
    | zero =>
      intro j ν hj h1 h2
      have : j = 40 := by omega
      subst this
      rw [f_J7_fill_53178_14_5, if_pos (by decide)]; exact h ν h1 h2
    | succ d ih =>
      intro j ν hj h1 h2
      rw [f_J7_fill_53178_14_5, if_neg (show ¬ (40 : Int32) ≤ nI j from nI_ge (a := j) (b := 40) (by omega) (by omega)), nI_clamp (by omega), nI_1]
      refine ⟨vp_in_nI (by omega) (by omega), _, rfl, ih (j + 1) _ (by omega) (fun k hk => ?_) (fun t i hne => by rw [mset_ne hne]; exact h2 t i hne)⟩
      rw [mset_ap]
      by_cases e : k = j
      · rw [if_pos ⟨rfl, rfl, e⟩]
      · rw [if_neg (by omega)]; exact h1 k (by omega)
  exact ⟨hs, 41, main 40 0 σ (by omega) (fun k hk => absurd hk (by omega)) (fun _ _ _ => rfl)⟩
theorem sheet85 {s : Nat} (hs : s < 4) {μ : Mm} {K : Int32 → Mm → Prop} (h : ∀ μ', (∀ k, k < 40 → μ' 12 0 (40 * s + k) = 0) → (∀ k, ¬ (40 * s ≤ k ∧ k < 40 * s + 40) → μ' 12 0 k = μ 12 0 k) → (∀ t i, ¬ (t = 12 ∧ i = 0) → μ' t i = μ t i) → K (μ' 11 0 s) μ') : ∃ m, f_X7_sheet_85 (nI s) K m (0 : Int32) μ := by
  have main : ∀ (d j : Nat) (ν : Mm), j + d = 40 → (∀ k, k < j → ν 12 0 (40 * s + k) = 0) → (∀ k, ¬ (40 * s ≤ k ∧ k < 40 * s + 40) → ν 12 0 k = μ 12 0 k) → (∀ t i, ¬ (t = 12 ∧ i = 0) → ν t i = μ t i) → f_X7_sheet_85 (nI s) K (d + 1) (nI j) ν := by
    intro d
    induction d with
    | zero =>
      intro j ν hj h1 h2 h3
      have : j = 40 := by omega
      subst this
      rw [f_X7_sheet_85, if_pos (by decide), nI_clamp (by omega)]; exact ⟨vp_in_nI (by omega) (by omega), h ν h1 h2 h3⟩
    | succ d ih =>
      intro j ν hj h1 h2 h3
      rw [f_X7_sheet_85, if_neg (show ¬ (40 : Int32) ≤ nI j from nI_ge (a := j) (b := 40) (by omega) (by omega)), num_ix hs (by omega), nI_clamp (by omega), nI_1]
      refine ⟨vp_in_nI (by omega) (by omega), _, rfl, ih (j + 1) _ (by omega) (fun k hk => ?_) (fun k hk => ?_) (fun t i hne => by rw [mset_ne hne]; exact h3 t i hne)⟩
      · rw [mset_ap]
        by_cases e : k = j
        · rw [if_pos ⟨rfl, rfl, by omega⟩]
        · rw [if_neg (by omega)]; exact h1 k (by omega)
      · rw [mset_ap, if_neg (by omega)]; exact h2 k hk
  exact ⟨41, main 40 0 μ (by omega) (fun k hk => absurd hk (by omega)) (fun _ _ => rfl) (fun _ _ _ => rfl)⟩
theorem RH.clear {σ μ σ' μ' : Mm} (h : RH σ μ) {s n : Nat} {b : Int32} (hs : s < 4) (hb : b = 0 ∨ b = 8 ∨ b = 16 ∨ b = 32) (hn : n ≤ 40)
    (a1 : σ' 13 s 0 = b) (a2 : σ' 13 s 1 = nI n) (a3 : ∀ k, k < 40 → σ' 14 s k = 0) (a4 : ∀ t i, ¬ ((t = 13 ∨ t = 14) ∧ i = s) → σ' t i = σ t i)
    (b1 : μ' 10 0 s = b) (b2 : μ' 11 0 s = nI n) (b3 : ∀ k, k < 40 → μ' 12 0 (40 * s + k) = 0) (b4 : ∀ k, ¬ (40 * s ≤ k ∧ k < 40 * s + 40) → μ' 12 0 k = μ 12 0 k) (b5 : ∀ k, k ≠ s → μ' 10 0 k = μ 10 0 k ∧ μ' 11 0 k = μ 11 0 k) : RH σ' μ' := by
  intro q hq
  by_cases e : q = s
  · subst e
    exact ⟨⟨by rw [a1, b1], by rw [a1]; exact hb⟩, ⟨n, hn, a2, b2⟩, fun k hk => by rw [b3 k hk, a3 k hk]⟩
  · obtain ⟨⟨x1, x2⟩, ⟨z, z1, z2, z3⟩, x3⟩ := h q hq
    refine ⟨⟨by rw [(b5 q e).1, a4 _ _ (by omega)]; exact x1, by rw [a4 _ _ (by omega)]; exact x2⟩, ⟨z, z1, by rw [a4 _ _ (by omega)]; exact z2, by rw [(b5 q e).2]; exact z3⟩, fun k hk => ?_⟩
    rw [b4 _ (by omega), a4 _ _ (by omega)]; exact x3 k hk
theorem sheet_fin (b : Int32) {s n z : Nat} {σ μ : Mm} (h : Rel σ μ) (hs : s < 4) (hb : b = 0 ∨ b = 8 ∨ b = 16 ∨ b = 32) (hn : n ≤ 40) (hz : z = s) {K : Int32 → Mm → Prop} (hk : ∀ r σ', f_X7_sheet_81 (nI s) (nI n) (nI s) (fun r' μ' => r' = r ∧ Rel σ' μ') (mset μ 10 0 s b) → K r σ') : f_X6_sheet_74 (nI s) (nI n) b z K σ := by
  subst hz
  refine ⟨hs, _, rfl, _, rfl, fill40 hs (fun σ' s1 s2 => ?_)⟩
  rw [nI_clamp (by omega)]
  refine ⟨vp_in_nI (by omega) (by omega), hs, hk _ _ ?_⟩
  unfold f_X7_sheet_81
  rw [nI_clamp (by omega)]
  refine ⟨vp_in_nI (by omega) (by omega), _, rfl, sheet85 hs (fun μ' m1 m2 m3 => ?_)⟩
  have a2 : σ' 13 z 1 = nI n := by rw [s2 _ _ (by omega), mset_ap, if_pos ⟨rfl, rfl, rfl⟩]
  have b2 : μ' 11 0 z = nI n := by rw [m3 _ _ (by omega), mset_ap, if_pos ⟨rfl, rfl, rfl⟩]
  refine ⟨by rw [a2, b2], h.shts (fun t i x y => ?_) (fun t i x y w => ?_) (h.2.2.2.2.1.clear hs hb hn ?_ a2 s1 (fun t i x => ?_) ?_ b2 m1 (fun k hk => ?_) (fun k hk => ⟨?_, ?_⟩))⟩
  · rw [s2 _ _ (by omega), mset_ne (by omega), mset_ne (by omega)]
  · rw [m3 _ _ (by omega), mset_ne (by omega), mset_ne (by omega)]
  · rw [s2 _ _ (by omega), mset_ap, if_neg (by omega), mset_ap, if_pos ⟨rfl, rfl, rfl⟩]
  · rw [s2 _ _ (by omega), mset_ne (by omega), mset_ne (by omega)]
  · rw [m3 _ _ (by omega), mset_ne (by omega), mset_ap, if_pos ⟨rfl, rfl, rfl⟩]
  · rw [m2 k hk, mset_ne (by omega), mset_ne (by omega)]
  · rw [m3 _ _ (by omega), mset_ne (by omega), mset_ap, if_neg (by omega)]
  · rw [m3 _ _ (by omega), mset_ap, if_neg (by omega), mset_ne (by omega)]
theorem sheet_mid (b x : Int32) {s : Nat} {σ μ : Mm} (h : Rel σ μ) (hs : s < 4) (hb : b = 0 ∨ b = 8 ∨ b = 16 ∨ b = 32) : f_X6_sheet_35 (nI s) b x (fun r σ' => f_X7_sheet_36 (nI s) b x (fun r' μ' => r' = r ∧ Rel σ' μ') μ) σ := by
  unfold f_X6_sheet_35 f_X7_sheet_36
  by_cases c : 0 ≤ x
  · simp only [if_pos c]
    by_cases c2 : x ≤ (40 : Int32)
    · simp only [if_pos c2, nI_clamp (show s < 2 ^ 31 by omega)]
      obtain ⟨n, hn, rfl⟩ : ∃ n, n ≤ 40 ∧ x = nI n := by
        obtain ⟨n, hn, e⟩ := nI_of2 (x := x) (M := 40) (n := 40) (by decide) (fun z => by
          rw [Int32.lt_iff_toInt_lt] at z
          rw [Int32.le_iff_toInt_le] at c
          omega) c2
        exact ⟨n, hn, e⟩
      refine ⟨vp_in_nI hs (by omega), hs, ?_⟩
      by_cases c3 : b = 0
      · simp only [if_pos c3]
        exact sheet_fin b (n := 0) h hs hb (by omega) rfl (fun r σ' hh => ⟨vp_in_nI hs (by omega), _, rfl, hh⟩)
      · simp only [if_neg c3]
        exact sheet_fin b (n := n) h hs hb hn rfl (fun r σ' hh => ⟨vp_in_nI hs (by omega), _, rfl, hh⟩)
    · simp only [if_neg c2]
      exact E_find0 h
  · simp only [if_neg c]
    exact E_find 6 (by decide) _ _ rfl (by decide) h
theorem E_sheet (a b x : Int32) {σ μ : Mm} (h : Rel σ μ) : f_X6_sheet a b x σ (fun r σ' => f_X7_sheet a b x μ (fun r' μ' => r' = r ∧ Rel σ' μ')) := by
  unfold f_X6_sheet f_X7_sheet
  simp only [isSheet_X, isSheet_Y]
  cases e : inZ a 0 3 with
  | false => simp only [Bool.false_eq_true, if_false]; exact E_find0 h
  | true =>
    simp only [if_true]
    obtain ⟨s, -, hs, rfl⟩ := inZ_ex (lo := 0) (hi := 3) e (by omega)
    by_cases c1 : b = 0
    · simp only [if_pos c1]; exact sheet_mid b x h (by omega) (Or.inl c1)
    · simp only [if_neg c1]
      by_cases c2 : b = 8
      · simp only [if_pos c2]; exact sheet_mid b x h (by omega) (Or.inr (Or.inl c2))
      · simp only [if_neg c2]
        by_cases c3 : b = 16
        · simp only [if_pos c3]; exact sheet_mid b x h (by omega) (Or.inr (Or.inr (Or.inl c3)))
        · simp only [if_neg c3]
          by_cases c4 : b = 32
          · simp only [if_pos c4]; exact sheet_mid b x h (by omega) (Or.inr (Or.inr (Or.inr c4)))
          · simp only [if_neg c4]; exact E_find0 h
theorem RH.put {σ μ : Mm} (h : RH σ μ) {s k : Nat} (hs : s < 4) (hk : k < 40) (v : Int32) : RH (mset σ 14 s k v) (mset μ 12 0 (40 * s + k) v) := by
  intro q hq
  obtain ⟨⟨x1, x2⟩, ⟨z, z1, z2, z3⟩, x3⟩ := h q hq
  refine ⟨⟨by rw [mset_ne (by omega), mset_ne (by omega)]; exact x1, by rw [mset_ne (by omega)]; exact x2⟩, ⟨z, z1, by rw [mset_ne (by omega)]; exact z2, by rw [mset_ne (by omega)]; exact z3⟩, fun j hj => ?_⟩
  rw [mset_ap, mset_ap]
  by_cases e : q = s ∧ j = k
  · rw [if_pos ⟨rfl, rfl, by omega⟩, if_pos ⟨rfl, e⟩]
  · rw [if_neg (by omega), if_neg (by omega)]; exact x3 j hj
theorem lenB {x : Int32} {n : Nat} (hn : n ≤ 40) {A B : Prop} : (if x < 0 then A else if x < nI n then B else A) = (if inZ x 0 ((n : Int) - 1) = true then B else A) := by
  unfold inZ
  simp only [Int32.lt_iff_toInt_lt, decide_eq_true_eq, nI_toInt (show n < 2 ^ 31 by omega), z0]
  by_cases c : x.toInt < 0
  · rw [if_pos c, if_neg (by omega)]
  · by_cases c2 : x.toInt < n
    · rw [if_neg c, if_pos c2, if_pos (by omega)]
    · rw [if_neg c, if_neg c2, if_neg (by omega)]
theorem inZ_len {x : Int32} {n : Nat} (h : inZ x 0 ((n : Int) - 1) = true) (hn : n ≤ 40) : ∃ k, k < n ∧ x = nI k := by
  have h' := of_decide_eq_true h
  obtain ⟨j, -, hj, rfl⟩ := inZ_ex (lo := 0) (hi := n - 1) (x := x) (by unfold inZ; apply decide_eq_true; omega) (by omega)
  rw [nI_toInt (by omega)] at h'
  exact ⟨j, by omega, rfl⟩
theorem E_write (a i v : Int32) {σ μ : Mm} (h : Rel σ μ) : f_X6_write a i v σ (fun r σ' => f_X7_write a i v μ (fun r' μ' => r' = r ∧ Rel σ' μ')) := by
  unfold f_X6_write f_X7_write
  simp only [isSheet_X, isSheet_Y, in_inZ]
  cases e : inZ a 0 3 with
  | false => simp only [Bool.false_eq_true, if_false]; exact E_find0 h
  | true =>
    simp only [if_true]
    obtain ⟨s, -, hs, rfl⟩ := inZ_ex (lo := 0) (hi := 3) e (by omega)
    obtain ⟨⟨x1, x2⟩, ⟨n, n1, n2, n3⟩, x3⟩ := h.2.2.2.2.1 s (by omega)
    have hs4 : s < 4 := by omega
    simp only [nI_clamp (show s < 2 ^ 31 by omega), missing_X hs4, x1]
    refine ⟨vp_in_nI hs4 (by omega), hs4, ?_⟩
    by_cases c : σ 13 s 0 = 0
    · simp only [c, decide_true, if_true]
      exact E_find' 5 (by decide) _ rfl (by decide) h (fun r σ' hh => ⟨vp_in_nI hs4 (by omega), hh⟩)
    · simp only [c, decide_false, Bool.false_eq_true, if_false]
      have e2 : ∀ A B : Prop, (if i < 0 then A else (vp_in (nI s) 4 ∧ if i < σ 13 s 1 then (vp_in (nI s) 4 ∧ B) else A)) = (if inZ i 0 ((n : Int) - 1) = true then B else A) := by
        intro A B
        rw [← lenB n1, n2]
        have t : vp_in (nI s) 4 := vp_in_nI hs4 (by omega)
        simp only [t, true_and]
      rw [e2]
      have e3 : ((((μ 11 0 s) - (1 : Int32))).toInt64).toInt = (n : Int) - 1 := by rw [Int32.toInt_toInt64, n3, pred_toInt (by omega)]
      simp only [e3, show (0 : Int64).toInt = 0 from rfl]
      cases e4 : inZ i 0 ((n : Int) - 1) with
      | false =>
        simp only [Bool.false_eq_true, if_false]
        exact E_find0' h (fun r σ' hh => ⟨vp_in_nI hs4 (by omega), vp_in_nI hs4 (by omega), hh⟩)
      | true =>
        simp only [if_true]
        obtain ⟨k, hk, rfl⟩ := inZ_len e4 n1
        have t : vp_in (nI s) 4 := vp_in_nI hs4 (by omega)
        have fin : ∀ w, Rel (mset σ 14 s k w) (mset μ 12 0 (40 * s + k) w) := fun w => h.shts (fun t i _ _ => mset_ne (by omega)) (fun t i _ _ _ => mset_ne (by omega)) (h.2.2.2.2.1.put hs4 (by omega) w)
        rw [num_ix hs4 (by omega), nI_clamp (by omega)]
        unfold f_X4_put
        refine ⟨hs4, ?_⟩
        simp only [nI_clamp (show k < 2 ^ 31 by omega)]
        have t2 : vp_in (nI k) 40 := vp_in_nI (by omega) (by omega)
        have t3 : vp_in (nI (40 * s + k)) 160 := vp_in_nI (by omega) (by omega)
        by_cases c8 : σ 13 s 0 = 8
        · simp only [if_pos c8]
          exact ⟨t2, _, rfl, t, t, t, t3, _, rfl, by trivial, fin _⟩
        · simp only [if_neg c8]
          by_cases c16 : σ 13 s 0 = 16
          · simp only [if_pos c16]
            exact ⟨t2, _, rfl, t, t, t, t, t3, _, rfl, by trivial, fin _⟩
          · simp only [if_neg c16]
            exact ⟨t2, _, rfl, t, t, t, t, t3, _, rfl, by trivial, fin _⟩
