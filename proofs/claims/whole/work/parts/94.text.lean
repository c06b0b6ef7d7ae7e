/-! PURE: text -/
theorem row13_ex {μ : Mm} : ∃ μ', (∀ k, k < 136 → μ' 3 0 k = μ 1 0 k) ∧ (∀ t i, ¬ (t = 3 ∧ i = 0) → μ' t i = μ t i) ∧ ∀ K : Mm → Prop, K μ' → f_X7_row_1_3 μ K := by
  have main : ∀ (d j : Nat) (ν : Mm), j + d = 136 → (∀ k, k < j → ν 3 0 k = ν 1 0 k) → ∃ μ', (∀ k, k < 136 → μ' 3 0 k = ν 1 0 k) ∧ (∀ t i, ¬ (t = 3 ∧ i = 0) → μ' t i = ν t i) ∧ ∀ K : Mm → Prop, K μ' → f_X7_row_1_3_2 K (d + 1) (nI j) ν := by
    intro d
    induction d with
    | zero =>
      intro j ν hj h1
      have : j = 136 := by omega
      subst this
      refine ⟨ν, h1, fun _ _ _ => rfl, fun K hk => ?_⟩
      rw [f_X7_row_1_3_2, if_pos (by decide)]; exact hk
    | succ d ih =>
      intro j ν hj h1
      obtain ⟨μ', a1, a2, a3⟩ := ih (j + 1) (mset ν 3 0 j (ν 1 0 j)) (by omega) (fun k hk => by
        rw [mset_ap, mset_ne (by omega)]
        by_cases c : k = j
        · rw [if_pos ⟨rfl, rfl, c⟩, c]
        · rw [if_neg (by omega)]; exact h1 k (by omega))
      refine ⟨μ', fun k hk => by rw [a1 k hk, mset_ne (by omega)], fun t i c => by rw [a2 t i c, mset_ne c], fun K hk => ?_⟩
      rw [f_X7_row_1_3_2, if_neg (show ¬ (136 : Int32) ≤ nI j from nI_ge (a := j) (b := 136) (by omega) (by omega)), nI_clamp (by omega), nI_1]
      exact ⟨vp_in_nI (by omega) (by omega), vp_in_nI (by omega) (by omega), _, rfl, a3 K hk⟩
  obtain ⟨μ', a1, a2, a3⟩ := main 136 0 μ (by omega) (fun k hk => absurd hk (by omega))
  exact ⟨μ', a1, a2, fun K hk => ⟨137, a3 K hk⟩⟩
/-- the class behind a step, at its k-th item -/
def tkC (K : Int32 → Mm → Prop) (m k : Nat) (σ : Mm) : Prop := f_X5_takeItem σ (fun b5 σ4 => (if b5 = true then (if (σ4 11 0 3) = 0 then (K (nI k) σ4) else (if (σ4 11 0 3) = (3 : Int32) then (f_X5_take_12 K m (nI k + (1 : Int32)) σ4) else (K ((-1 : Int32) - (σ4 11 0 4)) σ4))) else (K ((-1 : Int32) - (σ4 11 0 4)) σ4)))
def TL (k : Nat) (σ μ : Mm) : Prop := ∃ σ' μ', TB σ σ' ∧ TZ μ μ' ∧ ((∃ k' nb', k' ≤ 121 ∧ RI σ' 2 (μ' 1 0) nb' ∧ μ' 0 0 17 = 0 ∧ μ' 0 0 13 = 0 ∧ (∀ K, K (nI k') σ' → ∃ m, tkC K m k σ) ∧ (∀ K k58, k58 (nI k') μ' → ∃ m, f_X7_text_29 K k58 m (nI (k - 1)) (1 : Int32) μ)) ∨ (∃ k' f, f ≤ 120 ∧ ¬ (μ' 0 0 17 = 0 ∧ μ' 0 0 13 = 0) ∧ μ' 0 0 14 = nI f ∧ (∀ K, K ((-1 : Int32) - nI f) σ' → ∃ m, tkC K m k σ) ∧ (∀ K k58, k58 (nI k') μ' → ∃ m, f_X7_text_29 K k58 m (nI (k - 1)) (1 : Int32) μ)))
theorem text_loop {L : Nat} : ∀ (d k nb : Nat) (q : Nat × Nat × Nat × Nat) (σ μ : Mm), L ≤ q.2.1 + d → 1 ≤ k → 2 * (k - 1) ≤ q.2.1 → SS L q σ μ → RI σ 2 (μ 1 0) nb → TL k σ μ := by
  intro d
  induction d using Nat.strongRecOn with
  | _ d ih =>
    intro k nb q σ μ hd hk h2 hS hr
    have kk : k - 1 + 1 = k := Nat.sub_add_cancel hk
    obtain ⟨σ1, μ1, B1, Z1, Y1, R⟩ := item_both hS hr
    have hL := hS.2.2.2.2.2
    -- the reference behind an item
    have Yi : ∀ (K : Int32 → Mm → Prop) (k58 : Int32 → Mm → Prop) (m : Nat), f_X7_isSign (59 : Int32) μ1 (fun b7 σ6 => (if b7 = true then (f_X7_token σ6 (fun σ8 => (f_X7_text_29 K k58 m (nI k) (b2i b7) σ8))) else (f_X7_text_29 K k58 m (nI k) (b2i b7) σ6))) → f_X7_text_29 K k58 (m + 1) (nI (k - 1)) (1 : Int32) μ := by
      intro K k58 m h
      rw [f_X7_text_29, if_neg (by decide)]
      refine Y1 _ ?_
      rw [nI_1, kk]
      exact h
    -- no more items
    have Yn : ∀ (K : Int32 → Mm → Prop) (k58 : Int32 → Mm → Prop), f_X7_isSign (59 : Int32) μ1 (fun b7 σ6 => (if b7 = true then (f_X7_token σ6 (fun σ8 => (f_X7_text_29 K k58 1 (nI k) (b2i b7) σ8))) else (f_X7_text_29 K k58 1 (nI k) (b2i b7) σ6))) → ∃ m, f_X7_text_29 K k58 m (nI (k - 1)) (1 : Int32) μ := fun K k58 h => ⟨2, Yi K k58 1 h⟩
    have stop : ∀ (K : Int32 → Mm → Prop) (k58 : Int32 → Mm → Prop) (ν : Mm), k58 (nI k) ν → f_X7_text_29 K k58 1 (nI k) (b2i false) ν := by
      intro K k58 ν h
      rw [f_X7_text_29, if_pos (show b2i false = 0 from rfl)]
      exact h
    rcases R with ⟨q1, nb1, S1, r1, e1, X1⟩ | ⟨f, b, f1, f2, f3, f4, f5, X1⟩
    · have qc : q1.1 ≤ 4 := S1.2.2.2.1.2.2.2.1
      obtain ⟨p1, p2, p3⟩ := S1.pl
      have s3 : σ1 11 0 3 = nI q1.1 := S1.1.2.1
      have t3 : μ1 0 0 13 = nI (if q1.1 = 4 then 3 else q1.1) := S1.2.1.2.1
      have b17 := S1.2.2.2.2.1
      have nq : ∀ x, x ≤ 4 → q1.1 ≠ x → ¬ nI q1.1 = nI x := fun x hx c e => c ((nI_eq (by omega) (by omega)).mp e)
      have q13 : q1.2.2.1 ≤ L := S1.2.2.2.1.2.2.1
      have q12 : q1.2.1 ≤ q1.2.2.1 := S1.2.2.2.1.2.1
      have sgn : ∀ K : Bool → Mm → Prop, K (decide (q1.1 = 3)) μ1 → f_X7_isSign (59 : Int32) μ1 K := by
        intro K h
        unfold f_X7_isSign
        rw [if_pos b17, t3]
        by_cases c : q1.1 = 3
        · rw [decide_eq_true c] at h
          have lt : q1.2.1 < q1.2.2.1 := S1.2.2.2.1.2.2.2.2.2.1 (by omega)
          rw [if_pos (by rw [c]; rfl), p3, nI_clamp (by omega), S1.2.2.2.1.2.2.2.2.2.2.1 c, if_pos rfl]
          exact ⟨vp_in_nI (by omega) (by omega), h⟩
        · rw [decide_eq_false c] at h
          by_cases c4 : q1.1 = 4
          · have lt : q1.2.1 < q1.2.2.1 := S1.2.2.2.1.2.2.2.2.2.1 (by omega)
            rw [if_pos (by rw [c4]; rfl), p3, nI_clamp (by omega), if_neg (S1.2.2.2.1.2.2.2.2.2.2.2.1 c4)]
            exact ⟨vp_in_nI (by omega) (by omega), h⟩
          · rw [if_neg c4, if_neg (fun e => c ((lit_eq q1.1 3 (by omega) (by omega)).mp e))]
            exact h
      by_cases c0 : q1.1 = 0
      · have le1 : q1.2.1 ≤ 120 := p1
        refine ⟨σ1, μ1, B1, Z1, Or.inl ⟨k, nb1, by omega, r1, b17, by rw [t3, c0]; rfl, fun K hk => ⟨0, X1 _ (itt ?_)⟩, fun K k58 hk => Yn K k58 (sgn _ ?_)⟩⟩
        · rw [s3, if_pos (by rw [c0]; rfl)]
          exact hk
        · rw [decide_eq_false (by omega)]
          exact itf (stop K k58 μ1 hk)
      · by_cases c3 : q1.1 = 3
        · obtain ⟨q2, σ2, μ2, S2, l2, o2, y2, k2, j2⟩ := next2 S1
          have lt : q1.2.1 < q1.2.2.1 := S1.2.2.2.1.2.2.2.2.2.1 c0
          have q2L : q2.2.1 ≤ L := by
            have a1 := S2.2.2.2.1.2.1
            have a2 := S2.2.2.2.1.2.2.1
            omega
          obtain ⟨σ', μ', B', Z', R'⟩ := ih (d - 1) (by omega) (k + 1) nb1 q2 σ2 μ2 (by omega) (by omega) (by omega) S2 (by rw [y2.1 1 0 (by omega)]; exact r1.oc (by omega) o2)
          have goX : ∀ (K : Int32 → Mm → Prop), (∃ m, tkC K m (k + 1) σ2) → ∃ m, tkC K m k σ := by
            intro K ⟨m, hm⟩
            refine ⟨m + 1, X1 _ (itt ?_)⟩
            rw [s3, if_neg (show ¬ nI q1.1 = (0 : Int32) from nq 0 (by omega) c0), if_pos (by rw [c3]; rfl), nI_1, f_X5_take_12, if_neg (show ¬ (120 : Int32) < nI (k + 1) from nI_nlt (a := 120) (by omega) (by omega))]
            exact k2 _ hm
          have goY : ∀ (K : Int32 → Mm → Prop) (k58 : Int32 → Mm → Prop), (∃ m, f_X7_text_29 K k58 m (nI (k + 1 - 1)) (1 : Int32) μ2) → ∃ m, f_X7_text_29 K k58 m (nI (k - 1)) (1 : Int32) μ := by
            intro K k58 ⟨m, hm⟩
            refine ⟨m + 1, Yi K k58 m (sgn _ ?_)⟩
            rw [decide_eq_true c3]
            exact itt (j2 _ hm)
          refine ⟨σ', μ', (B1.tr o2.tb).tr B', (Z1.tr y2.tz).tr Z', ?_⟩
          rcases R' with ⟨k', nb', a1, a2, a3, a4, a5, a6⟩ | ⟨k', f, a1, a2, a3, a4, a5⟩
          · exact Or.inl ⟨k', nb', a1, a2, a3, a4, fun K hk => goX K (a5 K hk), fun K k58 hk => goY K k58 (a6 K k58 hk)⟩
          · exact Or.inr ⟨k', f, a1, a2, a3, fun K hk => goX K (a4 K hk), fun K k58 hk => goY K k58 (a5 K k58 hk)⟩
        · refine ⟨σ1, μ1, B1, Z1, Or.inr ⟨k, q1.2.1, p1, fun g => ?_, p3, fun K hk => ⟨0, X1 _ (itt ?_)⟩, fun K k58 hk => Yn K k58 (sgn _ ?_)⟩⟩
          · have g := g.2
            rw [t3] at g
            have := (lit_eq (if q1.1 = 4 then 3 else q1.1) 0 (by split <;> omega) (by omega)).mp g
            split at this <;> omega
          · rw [s3, if_neg (show ¬ nI q1.1 = (0 : Int32) from nq 0 (by omega) c0), if_neg (show ¬ nI q1.1 = (3 : Int32) from nq 3 (by omega) c3), p2]
            exact hk
          · rw [decide_eq_false c3]
            exact itf (stop K k58 μ1 hk)
    · refine ⟨σ1, μ1, B1, Z1, Or.inr ⟨k, f, f1, fun g => ?_, f3, fun K hk => ⟨0, X1 _ ?_⟩, fun K k58 hk => Yn K k58 ?_⟩⟩
      · rw [f4] at g; exact absurd g.1 (by decide)
      · cases b with
        | true =>
          refine itt ?_
          rw [f5 rfl, if_neg (by decide), if_neg (by decide), f2]
          exact hk
        | false =>
          refine itf ?_
          rw [f2]
          exact hk
      · unfold f_X7_isSign
        rw [if_neg (by rw [f4]; decide)]
        exact itf (stop K k58 μ1 hk)
theorem E_text {σ μ : Mm} (h : Rel σ μ) : f_X6_text σ (fun r σ' => f_X7_text μ (fun r' μ' => r' = r ∧ Rel σ' μ')) := by
  obtain ⟨nb, h5, hx, hy, hr⟩ := h.nbx
  obtain ⟨L, l1, l2, l3, l4⟩ := h.2.2.2.1
  unfold f_X6_text
  refine copyR_X (by omega) (by omega) (by omega) hr.ov (fun σ1 hc => ?_)
  have ho := hc.2.2.2.2.2.2
  have r2 : RI σ1 2 (μ 1 0) nb := hr.copy hc
  have e16 : σ1 16 0 7 = nI L := by rw [ho 16 0 (by unfold inR; omega)]; exact l2
  rw [e16]
  obtain ⟨μ1, m1, m2, m3⟩ := row13_ex (μ := μ)
  -- both readers at their start
  obtain ⟨σ2, e2⟩ : ∃ σ2, σ2 = mset (mset σ1 11 0 2 (nI L)) 11 0 5 (0 : Int32) := ⟨_, rfl⟩
  obtain ⟨μ2, f2⟩ : ∃ μ2, μ2 = mset (mset μ1 0 0 15 (0 : Int32)) 0 0 17 (0 : Int32) := ⟨_, rfl⟩
  have s2 : σ2 11 0 2 = nI L := by rw [e2, mset_ap, if_neg (by omega), mset_ap, if_pos ⟨rfl, rfl, rfl⟩]
  have s5 : σ2 11 0 5 = nI 0 := by rw [e2, mset_ap, if_pos ⟨rfl, rfl, rfl⟩]; rfl
  have so : Oc σ1 σ2 := by rw [e2]; exact Oc.set.tr Oc.set
  have u12 : μ2 0 0 12 = nI L := by rw [f2, mset_ap, if_neg (by omega), mset_ap, if_neg (by omega), m2 0 0 (by omega)]; exact l3
  have u15 : μ2 0 0 15 = nI 0 := by rw [f2, mset_ap, if_neg (by omega), mset_ap, if_pos ⟨rfl, rfl, rfl⟩]; rfl
  have u17 : μ2 0 0 17 = 0 := by rw [f2, set17]
  have uo : ∀ t i, ¬ (t = 0 ∧ i = 0) → ¬ (t = 3 ∧ i = 0) → μ2 t i = μ t i := fun t i a b => by rw [f2, mset_ne a, mset_ne a, m2 t i b]
  have uz : ∀ j, j < 13 → μ2 0 0 j = μ 0 0 j := fun j hj => by rw [f2, set17o (by omega), mset_ap, if_neg (by omega), m2 0 0 (by omega)]
  have hT : ∀ k, k < L → σ2 10 0 k = μ2 9 0 k := fun k hk => by rw [so 10 0 (by omega), ho 10 0 (by unfold inR; omega), uo 9 0 (by omega) (by omega)]; exact l4 k hk
  obtain ⟨σ3, a1, a2, a3⟩ := step_X (T := μ2 9 0) l1 (Nat.zero_le L) s2 s5 hT
  obtain ⟨μ3, b1, b2, b3⟩ := token_Y l1 (Nat.zero_le L) u12 u15
  have ok := scan_ok (T := μ2 9 0) (Nat.zero_le L)
  have e9 : μ3 9 0 = μ2 9 0 := b2.1 9 0 (by omega)
  have S3 : SS L (scan (μ2 9 0) L 0) σ3 μ3 := ⟨a1, b1, fun k hk => by rw [a2 10 0 (by omega), e9]; exact hT k hk, by rw [e9]; exact ok, by rw [b2.2 17 (by omega)]; exact u17, l1⟩
  have r3 : RI σ3 2 (μ3 1 0) nb := by
    rw [b2.1 1 0 (by omega), uo 1 0 (by omega) (by omega)]
    exact (r2.oc (by omega) so).oc (by omega) a2
  obtain ⟨σ4, μ4, B4, Z4, R⟩ := text_loop L 1 nb _ σ3 μ3 (by omega) (Nat.le_refl 1) (Nat.zero_le _) S3 r3
  -- what has not changed
  have oX : ∀ t i, ¬ inR t i 2 → ¬ (t = 11 ∧ i = 0) → σ4 t i = σ t i := fun t i a b => by rw [B4 t i a b, a2 t i b, so t i b, ho t i a]
  have oY : ∀ t i, ¬ (t = 0 ∧ i = 0) → ¬ (t = 1 ∧ i = 0) → ¬ (t = 3 ∧ i = 0) → μ4 t i = μ t i := fun t i a b c => by rw [Z4.1 t i a b, b2.1 t i a, uo t i a c]
  have oZ : ∀ j, j < 13 → μ4 0 0 j = μ 0 0 j := fun j hj => by rw [Z4.2 j (by omega), b2.2 j (by omega), uz j hj]
  have w3 : ∀ k, k < 136 → μ4 3 0 k = μ 1 0 k := fun k hk => by rw [Z4.1 3 0 (by omega) (by omega), b2.1 3 0 (by omega), f2, mset_ne (by omega), mset_ne (by omega)]; exact m1 k hk
  have runX : ∀ K : Int32 → Mm → Prop, (∃ m, tkC K m 1 σ3) → f_X5_take (nI L) σ1 K := by
    intro K ⟨m, hm⟩
    refine ⟨_, rfl, _, rfl, m + 1, ?_⟩
    rw [← e2, f_X5_take_12, if_neg (by decide)]
    exact a3 _ hm
  have runY : ∀ K : Int32 → Mm → Prop, (∃ m, f_X7_text_29 K (fun a1x9 σ9 => (if (σ9 0 0 17) = 0 then (if (σ9 0 0 13) = 0 then (f_X7_text_78 a1x9 (0 : Int32) K σ9) else (f_X7_text_73 a1x9 K σ9)) else (f_X7_text_73 a1x9 K σ9))) m (nI (1 - 1)) (1 : Int32) μ3) → f_X7_text μ K := by
    intro K hm
    unfold f_X7_text
    refine m3 _ ⟨_, rfl, _, rfl, ?_⟩
    rw [← f2]
    exact b3 _ hm
  -- the state behind, whatever was read: the kept room, findings, sheets, the search
  have outX : ∀ σ' : Mm, (∀ t i, ¬ inR t i 2 → ¬ inR t i 0 → ¬ (t = 11 ∧ i = 0) → ¬ (t = 16 ∧ i = 0) → σ' t i = σ t i) → σ' 16 0 7 = 0 → σ' 16 0 2 = σ 16 0 2 → ∀ μ' : Mm, (∀ t i, ¬ (t = 0 ∧ i = 0) → ¬ (t = 1 ∧ i = 0) → ¬ (t = 3 ∧ i = 0) → μ' t i = μ t i) → μ' 0 0 3 = μ 0 0 3 → μ' 0 0 12 = 0 → ∀ nb', RI σ' 0 (μ' 1 0) nb' → Rel σ' μ' := by
    intro σ' x1 x2 x3 μ' y1 y2 y3 nb' hr'
    obtain ⟨-, ⟨h3, h4, h5'⟩, h6, -, h8, h9⟩ := h
    refine ⟨⟨nb', hr'⟩, ⟨by rw [x3, y2]; exact h3, by rw [y2]; exact h4, fun hk => ?_⟩, fun j hj => ?_, ⟨0, by omega, by rw [x2]; rfl, by rw [y3]; rfl, fun k hk => absurd hk (by omega)⟩, fun s hs => ?_, ?_, ?_⟩
    · rw [y2] at hk
      obtain ⟨n, a, b⟩ := h5' hk
      rw [y1 2 0 (by omega) (by omega) (by omega)]
      have hn := b.nb
      exact ⟨n, a.congr (by omega) b.nb (x1 _ _ (by unfold inR; omega) (by unfold inR; omega) (by omega) (by omega)) (x1 _ _ (by unfold inR; omega) (by unfold inR; omega) (by omega) (by omega)) (x1 _ _ (by unfold inR; omega) (by unfold inR; omega) (by omega) (by omega)) (x1 _ _ (by unfold inR; omega) (by unfold inR; omega) (by omega) (by omega)) (x1 _ _ (by unfold inR; omega) (by unfold inR; omega) (by omega) (by omega)) (fun _ _ => x1 _ _ (by unfold inR; omega) (by unfold inR; omega) (by omega) (by omega)) (fun _ _ => x1 _ _ (by unfold inR; omega) (by unfold inR; omega) (by omega) (by omega)), b⟩
    · rw [x1 15 0 (by unfold inR; omega) (by unfold inR; omega) (by omega) (by omega), y1 4 0 (by omega) (by omega) (by omega)]; exact h6 j hj
    · rw [x1 13 s (by unfold inR; omega) (by unfold inR; omega) (by omega) (by omega), x1 14 s (by unfold inR; omega) (by unfold inR; omega) (by omega) (by omega), y1 10 0 (by omega) (by omega) (by omega), y1 11 0 (by omega) (by omega) (by omega), y1 12 0 (by omega) (by omega) (by omega)]; exact h8 s hs
    · rw [x1 8 0 (by unfold inR; omega) (by unfold inR; omega) (by omega) (by omega)]; exact h9.1
    · rw [x1 9 0 (by unfold inR; omega) (by unfold inR; omega) (by omega) (by omega)]; exact h9.2
  rcases R with ⟨k', nb', q1, q2, q3, q4, q5, q6⟩ | ⟨k', f, q1, q2, q3, q4, q5⟩
  · refine runX _ (q5 _ ⟨_, rfl, ?_⟩)
    rw [if_neg (nI_pos (by omega))]
    have q2' : RI (mset σ4 16 0 7 0) 2 (μ4 1 0) nb' := ⟨q2.1.congr (by omega) q2.2.nb (mset_ne (by omega)) (mset_ne (by omega)) (mset_ne (by omega)) (mset_ne (by omega)) (mset_ne (by omega)) (fun _ _ => mset_ne (by omega)) (fun _ _ => mset_ne (by omega)), q2.2⟩
    refine copyR_X (by omega) (by omega) (by omega) q2'.ov (fun σ6 hc6 => ?_)
    have ho6 := hc6.2.2.2.2.2.2
    refine runY _ (q6 _ _ ?_)
    rw [if_pos q3, if_pos q4]
    refine ⟨⟨false, rfl⟩, _, rfl, _, rfl, ?_⟩
    rw [mset_same q3]
    have v17 : mset μ4 0 0 12 0 0 0 17 = 0 := by rw [mset_ap, if_neg (by omega)]; exact q3
    rw [if_pos v17]
    refine ⟨rfl, outX _ (fun t i z1 z2 z3 z4 => ?_) ?_ ?_ _ (fun t i z1 z2 z3 => ?_) ?_ ?_ nb' ?_⟩
    · rw [ho6 t i z2, mset_ne z4, oX t i z1 z3]
    · rw [ho6 16 0 (by unfold inR; omega), mset_ap, if_pos ⟨rfl, rfl, rfl⟩]
    · rw [ho6 16 0 (by unfold inR; omega), mset_ap, if_neg (by omega), oX 16 0 (by unfold inR; omega) (by omega)]
    · rw [mset_ne z1, oY t i z1 z2 z3]
    · rw [mset_ap, if_neg (by omega), oZ 3 (by omega)]
    · rw [mset_ap, if_pos ⟨rfl, rfl, rfl⟩]
    · rw [mset_ne (by omega)]
      exact q2'.copy hc6
  · refine runX _ (q4 _ ⟨_, rfl, ?_⟩)
    have neg : (-1 : Int32) - nI f < 0 := by
      have e : (-1 : Int32) = nI 0 - nI 1 := by decide
      have st : ((-1 : Int32) - nI f).toInt = -1 - (f : Int) := by
        rw [Int32.sub_eq_add_neg]
        exact add_toInt (a := -1) (b := -(f : Int)) (by decide) (neg_toInt (by omega)) (by omega) (by omega)
      rw [Int32.lt_iff_toInt_lt, st, z0]
      omega
    rw [if_pos neg]
    have fin : ∀ K : Int32 → Mm → Prop, (∀ μ5, (∀ t i, ¬ (t = 0 ∧ i = 0) → ¬ (t = 1 ∧ i = 0) → μ5 t i = μ4 t i) → (∀ j, j < 12 → μ5 0 0 j = μ4 0 0 j) → μ5 0 0 12 = 0 → (∀ k, k < 136 → μ5 1 0 k = μ 1 0 k) → K ((-1 : Int32) - nI f) μ5) → f_X7_text_73 (nI k') K μ4 := by
      intro K hK
      refine ⟨⟨true, rfl⟩, _, rfl, _, rfl, ?_⟩
      have v17 : mset (mset μ4 0 0 17 1) 0 0 12 0 0 0 17 = 1 := by rw [mset_ap, if_neg (by omega), set17]
      have v14 : mset μ4 0 0 17 1 0 0 14 = nI f := by rw [set17o (by omega)]; exact q3
      rw [v17, if_neg (by decide), v14]
      refine row_3_1 (fun μ5 g1 g2 => hK μ5 (fun t i c1 c2 => ?_) (fun j hj => ?_) ?_ (fun k hk => ?_))
      · rw [g2 t i c2, mset_ne c1, mset_ne c1]
      · rw [g2 0 0 (by omega), mset_ap, if_neg (by omega), set17o (by omega)]
      · rw [g2 0 0 (by omega), mset_ap, if_pos ⟨rfl, rfl, rfl⟩]
      · rw [g1 k hk, mset_ne (by omega), mset_ne (by omega)]; exact w3 k hk
    refine runY _ (q5 _ _ ?_)
    have done : f_X7_text_73 (nI k') (fun r' μ' => r' = (-1 : Int32) - nI f ∧ Rel (mset σ4 16 0 7 0) μ') μ4 := by
      refine fin _ (fun μ5 g1 g2 g3 g4 => ⟨rfl, outX _ (fun t i z1 z2 z3 z4 => ?_) ?_ ?_ _ (fun t i z1 z2 z3 => ?_) ?_ ?_ nb ?_⟩)
      · rw [mset_ne z4, oX t i z1 z3]
      · rw [mset_ap, if_pos ⟨rfl, rfl, rfl⟩]
      · rw [mset_ap, if_neg (by omega), oX 16 0 (by unfold inR; omega) (by omega)]
      · rw [g1 t i z1 z2, oY t i z1 z2 z3]
      · rw [g2 3 (by omega), oZ 3 (by omega)]
      · exact g3
      · have hr0 : RI (mset σ4 16 0 7 0) 0 (μ 1 0) nb := ⟨hr.1.congr (by omega) h5 (by rw [mset_ne (by omega), oX _ _ (by unfold inR; omega) (by omega)]) (by rw [mset_ne (by omega), oX _ _ (by unfold inR; omega) (by omega)]) (by rw [mset_ne (by omega), oX _ _ (by unfold inR; omega) (by omega)]) (by rw [mset_ne (by omega), oX _ _ (by unfold inR; omega) (by omega)]) (by rw [mset_ne (by omega), oX _ _ (by unfold inR; omega) (by omega)]) (fun b hb => by rw [mset_ne (by omega), oX _ _ (by unfold inR; omega) (by omega)]) (fun b hb => by rw [mset_ne (by omega), oX _ _ (by unfold inR; omega) (by omega)]), hr.2⟩
        exact hr0.ext g4
    by_cases c17 : μ4 0 0 17 = 0
    · rw [if_pos c17, if_neg (fun e => q2 ⟨c17, e⟩)]
      exact done
    · rw [if_neg c17]
      exact done
