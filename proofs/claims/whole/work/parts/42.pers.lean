/-! PURE: findings, persons -/
theorem lowsub : ∀ w, w < 7 → (-1000001 : Int32) - ((-1000001 : Int32) - nI w) = nI w := by decide
theorem E_find {σ μ : Mm} (w : Nat) (hw : w < 7) (a f : Int32) (ha : a = nI w) (hf : f = (-1000001 : Int32) - nI w) (h : Rel σ μ) : f_X6_finding a σ (fun r σ' => f_X7_finds f μ (fun r' μ' => r' = r ∧ Rel σ' μ')) := by
  subst ha; subst hf
  have c : (nI w).toNatClampNeg = w := nI_clamp (by omega)
  have v : vp_in (nI w) 7 := vp_in_nI hw (by omega)
  refine ⟨v, v, _, rfl, ?_⟩
  unfold f_X7_finds
  rw [lowsub w hw, c]
  refine ⟨v, v, _, rfl, rfl, ?_⟩
  obtain ⟨h1, h2, h3, h4, h5, h6⟩ := h
  refine ⟨?_, ?_, ?_, ?_, ?_, ?_⟩
  · obtain ⟨nb, a, b⟩ := h1
    refine ⟨nb, ?_, ?_⟩
    · rw [mset_ne (by simp)]
      exact a.congr (by omega) b.nb (mset_ne (by simp)) (mset_ne (by simp)) (mset_ne (by simp)) (mset_ne (by simp)) (mset_ne (by simp)) (fun _ _ => mset_ne (by simp)) (fun _ _ => mset_ne (by simp))
    · rw [mset_ne (by simp)]; exact b
  · obtain ⟨a, b, c⟩ := h2
    refine ⟨by rw [mset_ne (by simp), mset_ne (by simp)]; exact a, by rw [mset_ne (by simp)]; exact b, fun z => ?_⟩
    rw [mset_ne (by simp)] at z
    obtain ⟨nb, a, b⟩ := c z
    refine ⟨nb, ?_, ?_⟩
    · rw [mset_ne (by simp)]
      exact a.congr (by omega) b.nb (mset_ne (by simp)) (mset_ne (by simp)) (mset_ne (by simp)) (mset_ne (by simp)) (mset_ne (by simp)) (fun _ _ => mset_ne (by simp)) (fun _ _ => mset_ne (by simp))
    · rw [mset_ne (by simp)]; exact b
  · intro k hk
    rw [mset_ap, mset_ap]
    by_cases e : k = w
    · subst e; simp [h3 k hk]
    · simp [e, h3 k hk]
  · obtain ⟨L, a, b, c, d⟩ := h4
    exact ⟨L, a, by rw [mset_ne (by simp)]; exact b, by rw [mset_ne (by simp)]; exact c, fun k hk => by rw [mset_ne (by simp), mset_ne (by simp)]; exact d k hk⟩
  · intro s hs
    simp only [mset_ap]
    simpa using h5 s hs
  · exact ⟨by rw [mset_ne (by simp)]; exact h6.1, by rw [mset_ne (by simp)]; exact h6.2⟩
theorem E_find0 {σ μ : Mm} (h : Rel σ μ) : f_X6_finding (0 : Int32) σ (fun r σ' => f_X7_finds (-1000001 : Int32) μ (fun r' μ' => r' = r ∧ Rel σ' μ')) := E_find 0 (by decide) _ _ rfl (by decide) h
/-- only the main room changes -/
theorem Rel.main {σ σ' μ μ' : Mm} (h : Rel σ μ) (nb : Nat) (h1 : RRow σ' 0 (μ' 1 0) nb) (h2 : Inv (μ' 1 0) nb)
    (hx : ∀ t i, (t = 0 ∨ t = 1) → 5 ≤ i → i < 10 → σ' t i = σ t i) (hx2 : ∀ t, (t = 2 ∨ t = 3 ∨ t = 4 ∨ t = 5 ∨ t = 7) → σ' t 1 = σ t 1) (hx3 : ∀ t i, (t = 10 ∨ t = 13 ∨ t = 14 ∨ t = 15 ∨ t = 16) → σ' t i = σ t i) (hx4 : σ' 8 0 8 = σ 8 0 8) (hx5 : σ' 9 0 0 = σ 9 0 0)
    (hy : ∀ t, (t = 2 ∨ t = 4 ∨ t = 9 ∨ t = 10 ∨ t = 11 ∨ t = 12) → μ' t 0 = μ t 0) (hy1 : μ' 0 0 3 = μ 0 0 3) (hy2 : μ' 0 0 12 = μ 0 0 12) : Rel σ' μ' := by
  obtain ⟨-, ⟨h3, h4, h5⟩, h6, ⟨L, t1, t2, t3, t4⟩, h8, h9⟩ := h
  have e2 : μ' 2 0 = μ 2 0 := hy 2 (by simp)
  have e4 : μ' 4 0 = μ 4 0 := hy 4 (by simp)
  have e9 : μ' 9 0 = μ 9 0 := hy 9 (by simp)
  have e10 : μ' 10 0 = μ 10 0 := hy 10 (by simp)
  have e11 : μ' 11 0 = μ 11 0 := hy 11 (by simp)
  have e12 : μ' 12 0 = μ 12 0 := hy 12 (by simp)
  have s16 : ∀ i, σ' 16 i = σ 16 i := fun i => hx3 16 i (by simp)
  have s15 : ∀ i, σ' 15 i = σ 15 i := fun i => hx3 15 i (by simp)
  have s10 : ∀ i, σ' 10 i = σ 10 i := fun i => hx3 10 i (by simp)
  have s13 : ∀ i, σ' 13 i = σ 13 i := fun i => hx3 13 i (by simp)
  have s14 : ∀ i, σ' 14 i = σ 14 i := fun i => hx3 14 i (by simp)
  refine ⟨⟨nb, h1, h2⟩, ⟨?_, ?_, ?_⟩, ?_, ?_, ?_, ?_⟩
  · rw [s16, hy1]; exact h3
  · rw [hy1]; exact h4
  · intro hk
    rw [hy1] at hk
    obtain ⟨n, a, b⟩ := h5 hk
    refine ⟨n, ?_, by rw [e2]; exact b⟩
    rw [e2]
    exact a.congr (by omega) b.nb (hx2 2 (by simp)) (hx2 3 (by simp)) (hx2 4 (by simp)) (hx2 5 (by simp)) (hx2 7 (by simp)) (fun b hb => hx 0 _ (Or.inl rfl) (by omega) (by omega)) (fun b hb => hx 1 _ (Or.inr rfl) (by omega) (by omega))
  · intro j hj
    rw [s15, e4]; exact h6 j hj
  · exact ⟨L, t1, by rw [s16]; exact t2, by rw [hy2]; exact t3, fun j hj => by rw [s10, e9]; exact t4 j hj⟩
  · intro x hx
    rw [e10, e11, e12, s13, s14]
    exact h8 x hx
  · exact ⟨hx4.trans h9.1, hx5.trans h9.2⟩
theorem bond_ix {p q : Nat} (hp : p < 8) (hq : q < 8) : vp_in (((8 : Int32) * nI p) + nI q) 64 ∧ (((8 : Int32) * nI p) + nI q).toNatClampNeg = 8 * p + q := by
  simp only [i32_lit, pk_mul, nI_add]
  exact ⟨vp_in_nI (by omega) (by omega), nI_clamp (by omega)⟩
theorem bond_iy {p q : Nat} (hp : p < 8) (hq : q < 8) : vp_in (((4 : Int32) + ((8 : Int32) * nI p)) + nI q) 136 ∧ (((4 : Int32) + ((8 : Int32) * nI p)) + nI q).toNatClampNeg = 4 + 8 * p + q := by
  simp only [i32_lit, pk_mul, nI_add]
  exact ⟨vp_in_nI (by omega) (by omega), nI_clamp (by omega)⟩
theorem bondOf_X {r p q : Nat} {σ : Mm} {K : Int32 → Mm → Prop} (hr : r < 3) (hp : p < 8) (hq : q < 8) (h : K (σ 3 r (8 * p + q)) σ) : f_X1_bondOf r (nI p) (nI q) σ K := by
  refine ⟨hr, (bond_ix hp hq).1, ?_⟩
  rw [(bond_ix hp hq).2]; exact h
theorem how_Y {p q : Nat} {σ : Mm} {K : Int32 → Mm → Prop} (hp : p < 8) (hq : q < 8) (h : K (σ 1 0 (4 + 8 * p + q)) σ) : f_X7_how (nI p) (nI q) σ K := by
  refine ⟨(bond_iy hp hq).1, ?_⟩
  rw [(bond_iy hp hq).2]; exact h
theorem tie_X {r p q : Nat} {v : Int32} {σ : Mm} {K : Mm → Prop} (hr : r < 3) (hp : p < 8) (hq : q < 8) (h : K (mset (mset σ 3 r (8 * p + q) v) 3 r (8 * q + p) v)) : f_X1_tie r (nI p) (nI q) v σ K := by
  refine ⟨hr, (bond_ix hp hq).1, _, rfl, (bond_ix hq hp).1, _, rfl, ?_⟩
  rw [(bond_ix hp hq).2, (bond_ix hq hp).2]; exact h
theorem befriends_Y {p q : Nat} {v : Int32} {σ : Mm} {K : Mm → Prop} (hp : p < 8) (hq : q < 8) (h : K (mset (mset σ 1 0 (4 + 8 * p + q) v) 1 0 (4 + 8 * q + p) v)) : f_X7_befriends (nI p) (nI q) v σ K := by
  refine ⟨(bond_iy hp hq).1, _, rfl, (bond_iy hq hp).1, _, rfl, ?_⟩
  rw [(bond_iy hp hq).2, (bond_iy hq hp).2]; exact h
theorem pairB_ex {a b : Int32} (h : pairB a b = true) : ∃ p q, p < 8 ∧ q < 8 ∧ p ≠ q ∧ a = nI p ∧ b = nI q := by
  unfold pairB at h
  simp only [Bool.and_eq_true, Bool.not_eq_true', decide_eq_false_iff_not] at h
  obtain ⟨h1, h2, h3⟩ := h
  obtain ⟨p, -, hp, rfl⟩ := inZ_ex (lo := 0) (hi := 7) h1 (by omega)
  obtain ⟨q, -, hq, rfl⟩ := inZ_ex (lo := 0) (hi := 7) h2 (by omega)
  exact ⟨p, q, by omega, by omega, fun e => h3 (by rw [e]), rfl, rfl⟩
/-- a pair's bond is set, both ways -/
theorem Rel.tie {σ μ : Mm} (h : Rel σ μ) {p q x : Nat} (hp : p < 8) (hq : q < 8) (hne : p ≠ q) (hx : x ≤ 2) : Rel (mset (mset σ 3 0 (8 * p + q) (nI x)) 3 0 (8 * q + p) (nI x)) (mset (mset μ 1 0 (4 + 8 * p + q) (nI x)) 1 0 (4 + 8 * q + p) (nI x)) := by
  obtain ⟨nb, ⟨a0, aB, aW, aS, aP⟩, i0, iB, iW, iS, iU, iP⟩ := id h.1
  refine h.main nb ⟨?_, ?_, ?_, ?_, ?_⟩ ⟨?_, ?_, ?_, ?_, ?_, ?_⟩ ?_ ?_ ?_ ?_ ?_ ?_ ?_ ?_
  · simp only [R0, mset_ap]
    obtain ⟨z1, z2, z3, z4⟩ := a0
    refine ⟨?_, ?_, ?_, ?_⟩ <;> rw [if_neg (by omega), if_neg (by omega), if_neg (by omega), if_neg (by omega)] <;> assumption
  · intro k hk
    simp only [mset_ap, true_and]
    by_cases e1 : k = 8 * q + p
    · subst e1; rw [if_pos (by omega), if_pos (by omega)]
    · by_cases e2 : k = 8 * p + q
      · subst e2; rw [if_neg (by omega), if_pos (by omega), if_neg (by omega), if_pos (by omega)]
      · rw [if_neg (by omega), if_neg (by omega), if_neg (by omega), if_neg (by omega)]; exact aB k hk
  · intro k hk
    simp only [mset_ap]
    rw [if_neg (by omega), if_neg (by omega), if_neg (by omega), if_neg (by omega)]; exact aW k hk
  · intro b hb
    obtain ⟨z1, z2, z3⟩ := aS b hb
    simp only [mset_ap]
    refine ⟨?_, ?_, fun s hs => ?_⟩
    · rw [if_neg (by omega), if_neg (by omega), if_neg (by omega), if_neg (by omega)]; exact z1
    · rw [if_neg (by omega), if_neg (by omega), if_neg (by omega), if_neg (by omega)]; exact z2
    · rw [if_neg (by omega), if_neg (by omega), if_neg (by omega), if_neg (by omega)]; exact z3 s hs
  · intro k hk
    simp only [mset_ap]
    rw [if_neg (by omega), if_neg (by omega), if_neg (by omega), if_neg (by omega)]; exact aP k hk
  · obtain ⟨z1, z2, z3, z4⟩ := i0
    have e : ∀ j, j < 4 → mset (mset μ 1 0 (4 + 8 * p + q) (nI x)) 1 0 (4 + 8 * q + p) (nI x) 1 0 j = μ 1 0 j := fun j hj => by
      rw [mset_ap, mset_ap, if_neg (by omega), if_neg (by omega)]
    exact ⟨z1, by rw [e 3 (by omega)]; exact z2, by rw [e 0 (by omega)]; exact z3, by rw [e 1 (by omega)]; exact z4⟩
  · have key : ∀ a b, a < 8 → b < 8 → mset (mset μ 1 0 (4 + 8 * p + q) (nI x)) 1 0 (4 + 8 * q + p) (nI x) 1 0 (4 + 8 * a + b) = if (a = p ∧ b = q) ∨ (a = q ∧ b = p) then nI x else μ 1 0 (4 + 8 * a + b) := by
      intro a b ha hb
      rw [mset_ap, mset_ap]
      by_cases e1 : a = q ∧ b = p
      · rw [if_pos (by omega), if_pos (Or.inr e1)]
      · by_cases e2 : a = p ∧ b = q
        · rw [if_neg (by omega), if_pos (by omega), if_pos (Or.inl e2)]
        · rw [if_neg (by omega), if_neg (by omega), if_neg (by omega)]
    refine ⟨fun a b ha hb => ⟨?_, ?_⟩, fun a ha => ?_⟩
    · rw [key a b ha hb]
      split
      · exact ⟨x, hx, rfl⟩
      · exact (iB.1 a b ha hb).1
    · rw [key a b ha hb, key b a hb ha]
      by_cases e : (a = p ∧ b = q) ∨ (a = q ∧ b = p)
      · rw [if_pos e, if_pos (by omega)]
      · rw [if_neg e, if_neg (by omega)]; exact (iB.1 a b ha hb).2
    · rw [key a a ha ha, if_neg (by omega)]; exact iB.2 a ha
  · intro k hk
    rw [mset_ap, mset_ap, if_neg (by omega), if_neg (by omega)]; exact iW k hk
  · have e : ∀ j, 76 ≤ j → mset (mset μ 1 0 (4 + 8 * p + q) (nI x)) 1 0 (4 + 8 * q + p) (nI x) 1 0 j = μ 1 0 j := fun j hj => by
      rw [mset_ap, mset_ap, if_neg (by omega), if_neg (by omega)]
    intro b hb
    obtain ⟨z1, ⟨n, n1, n2, n3, n4⟩, z3⟩ := iS b hb
    exact ⟨by rw [e _ (by omega)]; exact z1, ⟨n, n1, n2, by rw [e _ (by omega)]; exact n3, fun s h1 h2 => by rw [e _ (by omega)]; exact n4 s h1 h2⟩, fun s hs => by rw [e _ (by omega)]; exact z3 s hs⟩
  · have e : ∀ j, 76 ≤ j → mset (mset μ 1 0 (4 + 8 * p + q) (nI x)) 1 0 (4 + 8 * q + p) (nI x) 1 0 j = μ 1 0 j := fun j hj => by
      rw [mset_ap, mset_ap, if_neg (by omega), if_neg (by omega)]
    intro b s b' s' h1 h2 h3 h4
    rw [e _ (by omega), e _ (by omega)]
    exact iU b s b' s' h1 h2 h3 h4
  · intro k hk
    rw [mset_ap, mset_ap, if_neg (by omega), if_neg (by omega)]; exact iP k hk
  · intro t i ht _ _; rw [mset_ne (by omega), mset_ne (by omega)]
  · intro t ht; rw [mset_ne (by omega), mset_ne (by omega)]
  · intro t i ht; rw [mset_ne (by omega), mset_ne (by omega)]
  · rw [mset_ne (by omega), mset_ne (by omega)]
  · rw [mset_ne (by omega), mset_ne (by omega)]
  · intro t ht; rw [mset_ne (by omega), mset_ne (by omega)]
  · rw [mset_ne (by omega), mset_ne (by omega)]
  · rw [mset_ne (by omega), mset_ne (by omega)]
theorem Rel.bond {σ μ : Mm} (h : Rel σ μ) {p q : Nat} (hp : p < 8) (hq : q < 8) : σ 3 0 (8 * p + q) = μ 1 0 (4 + 8 * p + q) := by
  obtain ⟨nb, ⟨-, aB, -⟩, -⟩ := h.1
  have := aB (8 * p + q) (by omega)
  rw [← this]
  congr 1
  omega
theorem E_friends (a b c : Int32) {σ μ : Mm} (h : Rel σ μ) : f_X6_friends a b c σ (fun r σ' => f_X7_friends a b c μ (fun r' μ' => r' = r ∧ Rel σ' μ')) := by
  unfold f_X6_friends f_X7_friends
  simp only [arePair_X, areTwo_Y, in_inZ]
  cases e : pairB a b with
  | false => simp only [Bool.false_eq_true, if_false]; exact E_find0 h
  | true =>
    simp only [if_true]
    obtain ⟨p, q, hp, hq, hne, rfl, rfl⟩ := pairB_ex e
    show (if c < (0 : Int32) then _ else if c ≤ (2 : Int32) then _ else _)
    rw [ite_inZ]
    cases e2 : inZ c 0 2 with
    | false =>
      rw [if_neg (by rw [show (0 : Int32).toInt = 0 from rfl, show (2 : Int32).toInt = 2 from rfl, e2]; decide)]
      simp only [show (0 : Int64).toInt = 0 from rfl, show (2 : Int64).toInt = 2 from rfl, e2, Bool.false_eq_true, if_false]
      exact E_find0 h
    | true =>
      rw [if_pos (by rw [show (0 : Int32).toInt = 0 from rfl, show (2 : Int32).toInt = 2 from rfl, e2])]
      simp only [show (0 : Int64).toInt = 0 from rfl, show (2 : Int64).toInt = 2 from rfl, e2, if_true]
      obtain ⟨x, -, hx, rfl⟩ := inZ_ex (lo := 0) (hi := 2) e2 (by omega)
      refine bondOf_X (by omega) hp hq (tie_X (by omega) hp hq (how_Y hp hq (befriends_Y hp hq ⟨?_, ?_⟩)))
      · exact (h.bond hp hq).symm
      · exact h.tie hp hq hne hx
theorem E_are (a b : Int32) {σ μ : Mm} (h : Rel σ μ) : f_X6_are a b σ (fun r σ' => f_X7_are a b μ (fun r' μ' => r' = r ∧ Rel σ' μ')) := by
  unfold f_X6_are f_X7_are
  simp only [arePair_X, areTwo_Y]
  cases e : pairB a b with
  | false => simp only [Bool.false_eq_true, if_false]; exact E_find0 h
  | true =>
    simp only [if_true]
    obtain ⟨p, q, hp, hq, hne, rfl, rfl⟩ := pairB_ex e
    exact bondOf_X (by omega) hp hq (how_Y hp hq ⟨(h.bond hp hq).symm, h⟩)
