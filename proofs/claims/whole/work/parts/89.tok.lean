/-! PURE: the reference's tokens; words, numbers -/
theorem sp_Y {L : Nat} (hL : L ≤ 120) : ∀ (d p : Nat) (μ : Mm), p + d = L → μ 0 0 12 = nI L → μ 0 0 14 = nI p → ∃ μ', μ' 0 0 14 = nI (spF (μ 9 0) d p) ∧ (∀ j, j ≠ 14 → μ' 0 0 j = μ 0 0 j) ∧ Oy μ μ' ∧ ∀ K k36, k36 μ' → f_X7_token_8 K k36 (d + 1) μ := by
  intro d
  induction d with
  | zero =>
    intro p μ hp e2 e4
    refine ⟨μ, e4, fun _ _ => rfl, ⟨fun _ _ _ => rfl, fun _ _ => rfl⟩, fun K k36 hk => ?_⟩
    rw [f_X7_token_8, e4]
    refine isByte_out e2 (by omega) (by omega) ?_
    exact itf hk
  | succ d ih =>
    intro p μ hp e2 e4
    by_cases c : μ 9 0 p = 32
    · obtain ⟨μ', a1, a2, a3, a4⟩ := ih (p + 1) (mset μ 0 0 14 (nI (p + 1))) (by omega) (by rw [mset_ap, if_neg (by omega)]; exact e2) (by rw [mset_ap, if_pos ⟨rfl, rfl, rfl⟩])
      rw [mset_ne (by omega)] at a1
      refine ⟨μ', by rw [a1, spF, if_pos c], fun j hj => by rw [a2 j hj, mset_ap, if_neg (by omega)], (Oy.set (by omega)).tr a3, fun K k36 hk => ?_⟩
      rw [f_X7_token_8, e4]
      refine isByte_in hL e2 (by omega) ?_
      rw [inZ_32.mpr c]
      refine itt ⟨_, rfl, ?_⟩
      rw [e4, nI_1]
      exact a4 K k36 hk
    · refine ⟨μ, by rw [e4, spF, if_neg c], fun _ _ => rfl, ⟨fun _ _ _ => rfl, fun _ _ => rfl⟩, fun K k36 hk => ?_⟩
      rw [f_X7_token_8, e4]
      refine isByte_in hL e2 (by omega) ?_
      rw [ts_nt (fun g => c (inZ_32.mp g))]
      exact itf hk
theorem le_Y {L : Nat} (hL : L ≤ 120) : ∀ (d p : Nat) (μ : Mm), p + d = L → μ 0 0 12 = nI L → μ 0 0 13 = nI 1 → μ 0 0 15 = nI p → ∃ μ', μ' 0 0 15 = nI (leP (μ 9 0) d p) ∧ (∀ j, j ≠ 15 → μ' 0 0 j = μ 0 0 j) ∧ Oy μ μ' ∧ ∀ K k161, k161 μ' → f_X7_token_125 K k161 (d + 1) μ := by
  intro d
  induction d with
  | zero =>
    intro p μ hp e2 e3 e4
    refine ⟨μ, e4, fun _ _ => rfl, ⟨fun _ _ _ => rfl, fun _ _ => rfl⟩, fun K k161 hk => ?_⟩
    rw [f_X7_token_125, e3, if_pos (by decide), e4]
    refine isByte_out e2 (by omega) (by omega) ?_
    exact itf hk
  | succ d ih =>
    intro p μ hp e2 e3 e4
    cases c : inZ (μ 9 0 p) 97 122 with
    | true =>
      obtain ⟨μ', a1, a2, a3, a4⟩ := ih (p + 1) (mset μ 0 0 15 (nI (p + 1))) (by omega) (by rw [mset_ap, if_neg (by omega)]; exact e2) (by rw [mset_ap, if_neg (by omega)]; exact e3) (by rw [mset_ap, if_pos ⟨rfl, rfl, rfl⟩])
      rw [mset_ne (by omega)] at a1
      refine ⟨μ', by rw [a1, leP, if_pos c], fun j hj => by rw [a2 j hj, mset_ap, if_neg (by omega)], (Oy.set (by omega)).tr a3, fun K k161 hk => ?_⟩
      rw [f_X7_token_125, e3, if_pos (by decide), e4]
      refine isByte_in hL e2 (by omega) ?_
      rw [show inZ (μ 9 0 p) (97 : Int32).toInt (122 : Int32).toInt = true from c]
      refine itt ⟨_, rfl, ?_⟩
      rw [e4, nI_1]
      exact a4 K k161 hk
    | false =>
      refine ⟨μ, by rw [e4, leP, if_neg (by rw [c]; decide)], fun _ _ => rfl, ⟨fun _ _ _ => rfl, fun _ _ => rfl⟩, fun K k161 hk => ?_⟩
      rw [f_X7_token_125, e3, if_pos (by decide), e4]
      refine isByte_in hL e2 (by omega) ?_
      rw [show inZ (μ 9 0 p) (97 : Int32).toInt (122 : Int32).toInt = false from c]
      exact itf hk
theorem di_Y {L : Nat} (hL : L ≤ 120) : ∀ (d p v : Nat) (μ : Mm), p + d = L → v ≤ 9999 → μ 0 0 12 = nI L → μ 0 0 13 = nI 2 → μ 0 0 15 = nI p → μ 0 0 16 = nI v → ∃ μ', μ' 0 0 15 = nI (diP (μ 9 0) d p) ∧ μ' 0 0 16 = nI (diV (μ 9 0) d p v) ∧ (∀ j, j ≠ 15 → j ≠ 16 → μ' 0 0 j = μ 0 0 j) ∧ Oy μ μ' ∧ ∀ K, K μ' → f_X7_token_161 K (d + 1) μ := by
  intro d
  induction d with
  | zero =>
    intro p v μ hp hv e2 e3 e4 e6
    refine ⟨μ, e4, e6, fun _ _ _ => rfl, ⟨fun _ _ _ => rfl, fun _ _ => rfl⟩, fun K hk => ?_⟩
    rw [f_X7_token_161, e3, if_pos (by decide), e4]
    refine isByte_out e2 (by omega) (by omega) ?_
    exact itf hk
  | succ d ih =>
    intro p v μ hp hv e2 e3 e4 e6
    cases c : inZ (μ 9 0 p) 48 57 with
    | true =>
      obtain ⟨x, x1, x2, ex⟩ := dig_ex c
      have ec : (μ 9 0 p).toNatClampNeg = x := by rw [ex]; exact nI_clamp (by omega)
      by_cases g : 999 < v
      · obtain ⟨μ', a1, a2, a3, a4, a5⟩ := ih (p + 1) v (mset (mset μ 0 0 16 (nI v)) 0 0 15 (nI (p + 1))) (by omega) hv (by rw [mset_ap, if_neg (by omega), mset_ap, if_neg (by omega)]; exact e2) (by rw [mset_ap, if_neg (by omega), mset_ap, if_neg (by omega)]; exact e3) (by rw [mset_ap, if_pos ⟨rfl, rfl, rfl⟩]) (by rw [mset_ap, if_neg (by omega), mset_ap, if_pos ⟨rfl, rfl, rfl⟩])
        rw [mset_ne (by omega), mset_ne (by omega)] at a1 a2
        refine ⟨μ', by rw [a1, diP, if_pos c], by rw [a2, diV, if_pos c, if_pos g], fun j hj hj' => by rw [a3 j hj hj', mset_ap, if_neg (by omega), mset_ap, if_neg (by omega)], ((Oy.set (by omega)).tr (Oy.set (by omega))).tr a4, fun K hk => ?_⟩
        rw [f_X7_token_161, e3, if_pos (by decide), e4]
        refine isByte_in hL e2 (by omega) ?_
        rw [show inZ (μ 9 0 p) (48 : Int32).toInt (57 : Int32).toInt = true from c]
        refine itt ?_
        rw [e6, if_neg (show ¬ nI v ≤ (999 : Int32) from nI_ge (a := 999) g (by omega))]
        refine ⟨_, rfl, _, rfl, ?_⟩
        rw [mset_ap, if_neg (show ¬ (0 = 0 ∧ 0 = 0 ∧ 15 = 16) by omega), e4, nI_1]
        exact a5 K hk
      · obtain ⟨μ', a1, a2, a3, a4, a5⟩ := ih (p + 1) (10 * v + x - 48) (mset (mset μ 0 0 16 (nI (10 * v + x - 48))) 0 0 15 (nI (p + 1))) (by omega) (by omega) (by rw [mset_ap, if_neg (by omega), mset_ap, if_neg (by omega)]; exact e2) (by rw [mset_ap, if_neg (by omega), mset_ap, if_neg (by omega)]; exact e3) (by rw [mset_ap, if_pos ⟨rfl, rfl, rfl⟩]) (by rw [mset_ap, if_neg (by omega), mset_ap, if_pos ⟨rfl, rfl, rfl⟩])
        rw [mset_ne (by omega), mset_ne (by omega)] at a1 a2
        refine ⟨μ', by rw [a1, diP, if_pos c], by rw [a2, diV, if_pos c, if_neg g, ec], fun j hj hj' => by rw [a3 j hj hj', mset_ap, if_neg (by omega), mset_ap, if_neg (by omega)], ((Oy.set (by omega)).tr (Oy.set (by omega))).tr a4, fun K hk => ?_⟩
        rw [f_X7_token_161, e3, if_pos (by decide), e4]
        refine isByte_in hL e2 (by omega) ?_
        rw [show inZ (μ 9 0 p) (48 : Int32).toInt (57 : Int32).toInt = true from c]
        refine itt ?_
        rw [e6, if_pos (show nI v ≤ (999 : Int32) from nI_le (b := 999) (by omega) (by omega)), e4, nI_clamp (by omega), ex, ten_v x1]
        refine ⟨vp_in_nI (by omega) (by omega), _, rfl, _, rfl, ?_⟩
        rw [mset_ap, if_neg (show ¬ (0 = 0 ∧ 0 = 0 ∧ 15 = 16) by omega), e4, nI_1]
        exact a5 K hk
    | false =>
      refine ⟨μ, by rw [e4, diP, if_neg (by rw [c]; decide)], by rw [e6, diV, if_neg (by rw [c]; decide)], fun _ _ _ => rfl, ⟨fun _ _ _ => rfl, fun _ _ => rfl⟩, fun K hk => ?_⟩
      rw [f_X7_token_161, e3, if_pos (by decide), e4]
      refine isByte_in hL e2 (by omega) ?_
      rw [show inZ (μ 9 0 p) (48 : Int32).toInt (57 : Int32).toInt = false from c]
      exact itf hk
theorem no125 {μ : Mm} {K k161 : Mm → Prop} (h : ¬ μ 0 0 13 = 1) (hk : k161 μ) : f_X7_token_125 K k161 1 μ := by
  rw [f_X7_token_125, if_neg h]; exact hk
theorem no161 {μ : Mm} {K : Mm → Prop} (h : ¬ μ 0 0 13 = 2) (hk : K μ) : f_X7_token_161 K 1 μ := by
  rw [f_X7_token_161, if_neg h]; exact hk
theorem token_Y {L p : Nat} {μ : Mm} (hL : L ≤ 120) (hp : p ≤ L) (e2 : μ 0 0 12 = nI L) (e5 : μ 0 0 15 = nI p) : ∃ μ', RdY L (scan (μ 9 0) L p) μ' ∧ Oy μ μ' ∧ ∀ K, K μ' → f_X7_token μ K := by
  have b1 := spF_bd (T := μ 9 0) (L - p) p
  obtain ⟨μ1, a1, a2, a3, a4⟩ := sp_Y hL (L - p) p (mset μ 0 0 14 (nI p)) (by omega) (by rw [mset_ap, if_neg (by omega)]; exact e2) (by rw [mset_ap, if_pos ⟨rfl, rfl, rfl⟩])
  rw [mset_ne (by omega)] at a1
  have O1 : Oy μ μ1 := (Oy.set (by omega)).tr a3
  have f2 : μ1 0 0 12 = nI L := by rw [a2 12 (by omega), mset_ap, if_neg (by omega)]; exact e2
  obtain ⟨T, eT⟩ : ∃ T, T = μ 9 0 := ⟨_, rfl⟩
  rw [← eT] at a1 b1 ⊢
  obtain ⟨f, ef⟩ : ∃ f, f = spF T (L - p) p := ⟨_, rfl⟩
  unfold scan
  rw [← ef] at a1 b1 ⊢
  obtain ⟨μ7, e'⟩ : ∃ μ7, μ7 = mset (mset μ1 0 0 15 (nI f)) 0 0 16 (0 : Int32) := ⟨_, rfl⟩
  have O7 : Oy μ μ7 := by rw [e']; exact (O1.tr (Oy.set (by omega))).tr (Oy.set (by omega))
  have g2 : μ7 0 0 12 = nI L := by rw [e', mset_ap, if_neg (by omega), mset_ap, if_neg (by omega)]; exact f2
  have g4 : μ7 0 0 14 = nI f := by rw [e', mset_ap, if_neg (by omega), mset_ap, if_neg (by omega)]; exact a1
  have g5 : μ7 0 0 15 = nI f := by rw [e', mset_ap, if_neg (by omega), mset_ap, if_pos ⟨rfl, rfl, rfl⟩]
  have g6 : μ7 0 0 16 = nI 0 := by rw [e', mset_ap, if_pos ⟨rfl, rfl, rfl⟩]; rfl
  have g9 : μ7 9 0 = T := by rw [O7.1 9 0 (by omega), eT]
  have start : ∀ K, (if (μ7 0 0 14) = (μ7 0 0 12) then (f_X7_token_104 (0 : Int32) K μ7) else (f_X7_isByte (μ7 0 0 14) (97 : Int32) (122 : Int32) μ7 (fun b9 σ8 => (if b9 = true then (f_X7_token_104 (1 : Int32) K σ8) else (f_X7_isByte (σ8 0 0 14) (48 : Int32) (57 : Int32) σ8 (fun b11 σ10 => (if b11 = true then (f_X7_token_104 (2 : Int32) K σ10) else (f_X7_token_104 (3 : Int32) K σ10)))))))) → f_X7_token μ K := by
    intro K h
    unfold f_X7_token
    rw [e5]
    refine ⟨_, rfl, L - p + 1, a4 K _ ⟨_, rfl, _, rfl, ?_⟩⟩
    rw [a1, ← e']
    exact h
  -- a token of this sort, no loop
  have m13 : ∀ x j, j ≠ 13 → mset μ7 0 0 13 x 0 0 j = μ7 0 0 j := fun x j hj => by rw [mset_ap, if_neg (by omega)]
  have v13 : ∀ x, mset μ7 0 0 13 x 0 0 13 = x := fun x => by rw [mset_ap, if_pos ⟨rfl, rfl, rfl⟩]
  have t9 : ∀ x, mset μ7 0 0 13 x 9 0 = T := fun x => by rw [mset_ne (by omega)]; exact g9
  by_cases c0 : L ≤ f
  · rw [if_pos c0]
    have : f = L := by omega
    refine ⟨mset μ7 0 0 13 0, ⟨?_, ?_, ?_, ?_, ?_⟩, O7.tr (Oy.set (by omega)), fun K hk => start K ?_⟩
    · rw [m13 _ _ (by omega)]; exact g2
    · rw [v13]; rfl
    · rw [m13 _ _ (by omega)]; exact g4
    · rw [m13 _ _ (by omega)]; exact g5
    · rw [m13 _ _ (by omega)]; exact g6
    · rw [if_pos (by rw [g4, g2, this])]
      refine ⟨_, rfl, ?_⟩
      rw [v13, if_neg (by decide)]
      exact ⟨1, no125 (by rw [v13]; decide) ⟨1, no161 (by rw [v13]; decide) hk⟩⟩
  · rw [if_neg c0]
    have ne : ¬ μ7 0 0 14 = μ7 0 0 12 := by rw [g4, g2]; exact fun e => c0 (by have := (nI_eq (by omega) (by omega)).mp e; omega)
    cases c1 : inZ (T f) 97 122 with
    | true =>
      rw [if_pos rfl]
      obtain ⟨μ8, h1, h2, h3, h4⟩ := le_Y hL (L - f) f (mset μ7 0 0 13 1) (by omega) (by rw [m13 _ _ (by omega)]; exact g2) (by rw [v13]; rfl) (by rw [m13 _ _ (by omega)]; exact g5)
      rw [t9] at h1
      refine ⟨μ8, ⟨?_, ?_, ?_, h1, ?_⟩, (O7.tr (Oy.set (by omega))).tr h3, fun K hk => start K ?_⟩
      · rw [h2 12 (by omega), m13 _ _ (by omega)]; exact g2
      · rw [h2 13 (by omega), v13]; rfl
      · rw [h2 14 (by omega), m13 _ _ (by omega)]; exact g4
      · rw [h2 16 (by omega), m13 _ _ (by omega)]; exact g6
      · rw [if_neg ne, g4]
        refine isByte_in hL g2 (by omega) ?_
        rw [g9, show inZ (T f) (97 : Int32).toInt (122 : Int32).toInt = true from c1]
        refine itt ⟨_, rfl, ?_⟩
        rw [v13, if_neg (by decide)]
        exact ⟨_, h4 K _ ⟨1, no161 (by rw [h2 13 (by omega), v13]; decide) hk⟩⟩
    | false =>
      rw [if_neg (by decide)]
      have front : ∀ K, (if inZ (T f) 48 57 = true then (f_X7_token_104 (2 : Int32) K μ7) else (f_X7_token_104 (3 : Int32) K μ7)) → f_X7_token μ K := by
        intro K h
        refine start K ?_
        rw [if_neg ne, g4]
        refine isByte_in hL g2 (by omega) ?_
        rw [g9, show inZ (T f) (97 : Int32).toInt (122 : Int32).toInt = false from c1]
        refine itf ?_
        rw [g4]
        refine isByte_in hL g2 (by omega) ?_
        rw [g9]
        exact h
      cases c2 : inZ (T f) 48 57 with
      | true =>
        rw [if_pos rfl]
        obtain ⟨μ8, h1, h2, h3, h4, h5⟩ := di_Y hL (L - f) f 0 (mset μ7 0 0 13 2) (by omega) (by omega) (by rw [m13 _ _ (by omega)]; exact g2) (by rw [v13]; rfl) (by rw [m13 _ _ (by omega)]; exact g5) (by rw [m13 _ _ (by omega)]; exact g6)
        rw [t9] at h1 h2
        refine ⟨μ8, ⟨?_, ?_, ?_, h1, h2⟩, (O7.tr (Oy.set (by omega))).tr h4, fun K hk => front K ?_⟩
        · rw [h3 12 (by omega) (by omega), m13 _ _ (by omega)]; exact g2
        · rw [h3 13 (by omega) (by omega), v13]; rfl
        · rw [h3 14 (by omega) (by omega), m13 _ _ (by omega)]; exact g4
        · rw [c2]
          refine itt ⟨_, rfl, ?_⟩
          rw [v13, if_neg (by decide)]
          exact ⟨1, no125 (by rw [v13]; decide) ⟨_, h5 K hk⟩⟩
      | false =>
        rw [if_neg (by decide)]
        obtain ⟨μ8, e8⟩ : ∃ μ8, μ8 = mset (mset μ7 0 0 13 3) 0 0 15 (nI (f + 1)) := ⟨_, rfl⟩
        have O8 : Oy μ μ8 := by rw [e8]; exact (O7.tr (Oy.set (by omega))).tr (Oy.set (by omega))
        have n8 : ∀ j, j ≠ 13 → j ≠ 15 → μ8 0 0 j = μ7 0 0 j := fun j a b => by rw [e8, mset_ap, if_neg (by omega), m13 _ _ a]
        have v8 : μ8 0 0 13 = 3 := by rw [e8, mset_ap, if_neg (by omega), v13]
        have w8 : μ8 0 0 15 = nI (f + 1) := by rw [e8, mset_ap, if_pos ⟨rfl, rfl, rfl⟩]
        have run : ∀ K, K μ8 → f_X7_token μ K := by
          intro K hk
          refine front K ?_
          rw [c2]
          refine itf ⟨_, rfl, ?_⟩
          rw [v13, if_pos (by decide)]
          refine ⟨_, rfl, ?_⟩
          rw [m13 _ _ (by omega), g5, nI_1, ← e8]
          exact ⟨1, no125 (by rw [v8]; decide) ⟨1, no161 (by rw [v8]; decide) hk⟩⟩
        by_cases c3 : T f = 59
        · rw [if_pos c3]
          exact ⟨μ8, ⟨by rw [n8 12 (by omega) (by omega)]; exact g2, v8, by rw [n8 14 (by omega) (by omega)]; exact g4, w8, by rw [n8 16 (by omega) (by omega)]; exact g6⟩, O8, run⟩
        · rw [if_neg c3]
          exact ⟨μ8, ⟨by rw [n8 12 (by omega) (by omega)]; exact g2, v8, by rw [n8 14 (by omega) (by omega)]; exact g4, w8, by rw [n8 16 (by omega) (by omega)]; exact g6⟩, O8, run⟩
