/-! PURE: new benches and sitters of a text -/
theorem clear_ex {i : Nat} {a b : Int32} {σ : Mm} (hi : i < 17) : ∃ σ', Clr σ i a b σ' ∧ ∀ K : Mm → Prop, K σ' → f_X0_clear i a b σ K := by
  have main : ∀ (d j : Nat) (ν : Mm), j + d = 8 → (∀ k, k < j → ν 1 i k = -1) → ∃ σ', (∀ k, k < 8 → σ' 1 i k = -1) ∧ (∀ t x, ¬ (t = 1 ∧ x = i) → σ' t x = ν t x) ∧ ∀ K : Mm → Prop, K σ' → f_J7_fill_53178_1_5 i (-1 : Int32) (8 : Int32) K (d + 1) (nI j) ν := by
    intro d
    induction d with
    | zero =>
      intro j ν hj h1
      have : j = 8 := by omega
      subst this
      refine ⟨ν, h1, fun _ _ _ => rfl, fun K hk => ?_⟩
      rw [f_J7_fill_53178_1_5, if_pos (by decide)]; exact hk
    | succ d ih =>
      intro j ν hj h1
      obtain ⟨σ', a1, a2, a3⟩ := ih (j + 1) (mset ν 1 i j (-1)) (by omega) (fun k hk => by
        rw [mset_ap]
        by_cases e : k = j
        · rw [if_pos ⟨rfl, rfl, e⟩]
        · rw [if_neg (by omega)]; exact h1 k (by omega))
      refine ⟨σ', a1, fun t x c => by rw [a2 t x c, mset_ne c], fun K hk => ?_⟩
      rw [f_J7_fill_53178_1_5, if_neg (show ¬ (8 : Int32) ≤ nI j from nI_ge (a := j) (b := 8) (by omega) (by omega)), nI_clamp (by omega), nI_1]
      exact ⟨vp_in_nI (by omega) (by omega), _, rfl, a3 K hk⟩
  obtain ⟨σ', a1, a2, a3⟩ := main 8 0 (mset (mset σ 0 i 0 a) 0 i 1 b) (by omega) (fun k hk => absurd hk (by omega))
  refine ⟨σ', ⟨?_, ?_, a1, fun t x c => ?_⟩, fun K hk => ⟨hi, _, rfl, _, rfl, hi, 9, a3 K hk⟩⟩
  · rw [a2 0 i (by omega), mset_ap, if_neg (by omega), mset_ap, if_pos ⟨rfl, rfl, rfl⟩]
  · rw [a2 0 i (by omega), mset_ap, if_pos ⟨rfl, rfl, rfl⟩]
  · rw [a2 t x (by omega), mset_ne (by omega), mset_ne (by omega)]
theorem comes_ex {nb : Nat} {a b : Int32} {μ : Mm} (e : μ 1 0 3 = nI nb) (hn : nb < 5) : ∃ μ', (∀ j, j ≠ 3 → ¬ (76 + 10 * nb ≤ j ∧ j < 86 + 10 * nb) → μ' 1 0 j = μ 1 0 j) ∧ μ' 1 0 3 = nI (nb + 1) ∧ μ' 1 0 (76 + 10 * nb) = a ∧ μ' 1 0 (77 + 10 * nb) = b ∧ (∀ s, s < 8 → μ' 1 0 (78 + 10 * nb + s) = -1) ∧ (∀ t i, ¬ (t = 1 ∧ i = 0) → μ' t i = μ t i) ∧ ∀ K : Mm → Prop, K μ' → f_X7_comes a b μ K := by
  have main : ∀ (d s : Nat) (ν : Mm), s + d = 8 → ν 1 0 3 = nI nb → (∀ q, q < s → ν 1 0 (78 + 10 * nb + q) = -1) → ∃ μ', μ' 1 0 3 = nI (nb + 1) ∧ (∀ j, j ≠ 3 → ¬ (78 + 10 * nb ≤ j ∧ j < 86 + 10 * nb) → μ' 1 0 j = ν 1 0 j) ∧ (∀ q, q < 8 → μ' 1 0 (78 + 10 * nb + q) = -1) ∧ (∀ t i, ¬ (t = 1 ∧ i = 0) → μ' t i = ν t i) ∧ ∀ K : Mm → Prop, K μ' → f_X7_comes_38 (nI nb) K (d + 1) (nI s) ν := by
    intro d
    induction d with
    | zero =>
      intro s ν hs h3 h1
      have : s = 8 := by omega
      subst this
      refine ⟨mset ν 1 0 3 (nI (nb + 1)), by rw [mset_ap, if_pos ⟨rfl, rfl, rfl⟩], fun j c _ => by rw [mset_ap, if_neg (by omega)], fun q hq => by rw [mset_ap, if_neg (by omega)]; exact h1 q hq, fun t i c => mset_ne c, fun K hk => ?_⟩
      rw [f_X7_comes_38, if_pos (by decide), h3, nI_1]
      exact ⟨_, rfl, hk⟩
    | succ d ih =>
      intro s ν hs h3 h1
      obtain ⟨μ', a1, a2, a3, a4, a5⟩ := ih (s + 1) (mset ν 1 0 (78 + 10 * nb + s) (-1)) (by omega) (by rw [mset_ap, if_neg (by omega)]; exact h3) (fun q hq => by
        rw [mset_ap]
        by_cases c : q = s
        · subst c; rw [if_pos ⟨rfl, rfl, rfl⟩]
        · rw [if_neg (by omega)]; exact h1 q (by omega))
      refine ⟨μ', a1, fun j c c' => by rw [a2 j c c', mset_ap, if_neg (by omega)], a3, fun t i c => by rw [a4 t i c, mset_ne c], fun K hk => ?_⟩
      rw [f_X7_comes_38, if_neg (show ¬ (8 : Int32) ≤ nI s from nI_ge (a := s) (b := 8) (by omega) (by omega)), at_Y hn (by omega), nI_clamp (by omega), nI_1]
      exact ⟨vp_in_nI (by omega) (by omega), _, rfl, a5 K hk⟩
  obtain ⟨μ', a1, a2, a3, a4, a5⟩ := main 8 0 (mset (mset μ 1 0 (76 + 10 * nb) a) 1 0 (77 + 10 * nb) b) (by omega) (by rw [mset_ap, if_neg (by omega), mset_ap, if_neg (by omega)]; exact e) (fun q hq => absurd hq (by omega))
  refine ⟨μ', fun j c c' => ?_, a1, ?_, ?_, a3, fun t i c => ?_, fun K hk => ?_⟩
  · rw [a2 j c (by omega), mset_ap, if_neg (by omega), mset_ap, if_neg (by omega)]
  · rw [a2 _ (by omega) (by omega), mset_ap, if_neg (by omega), mset_ap, if_pos ⟨rfl, rfl, rfl⟩]
  · rw [a2 _ (by omega) (by omega), mset_ap, if_pos ⟨rfl, rfl, rfl⟩]
  · rw [a4 t i c, mset_ne c, mset_ne c]
  · unfold f_X7_comes
    rw [e, sz_ix hn, kd_ix hn, nI_clamp (by omega), nI_clamp (by omega)]
    exact ⟨vp_in_nI (by omega) (by omega), _, rfl, vp_in_nI (by omega) (by omega), _, rfl, 9, a5 K hk⟩
theorem RZ.lift {L e e1 : Nat} {σ μ σ1 μ1 σ' μ' : Mm} {X X1 : (Bool → Mm → Prop) → Prop} {Y Y1 : (Mm → Prop) → Prop} (h : RZ L e1 σ1 μ1 σ' μ' X1 Y1) (hB : TB σ σ1) (hZ : TZ μ μ1) (he : e ≤ e1) (hX : ∀ K, X1 K → X K) (hY : ∀ K, Y1 K → Y K) : RZ L e σ μ σ' μ' X Y := by
  obtain ⟨h1, h2, h3, h4⟩ := h
  refine ⟨hB.tr h1, hZ.tr h2, fun K hk => hY K (h3 K hk), ?_⟩
  rcases h4 with ⟨q, nb, a, b, c, d⟩ | ⟨f, b, a1, a2, a3, a4, a5, a6⟩
  · exact Or.inl ⟨q, nb, a, b, by omega, fun K hk => hX K (d K hk)⟩
  · exact Or.inr ⟨f, b, a1, a2, a3, a4, a5, fun K hk => hX K (a6 K hk)⟩
theorem SS.s2 {L : Nat} {q : Nat × Nat × Nat × Nat} {σ μ : Mm} (h : SS L q σ μ) : (μ 0 0 13 = 2 ↔ q.1 = 2) ∧ (σ 11 0 3 = 2 ↔ q.1 = 2) := by
  have q4 : q.1 ≤ 4 := h.2.2.2.1.2.2.2.1
  rw [h.2.1.2.1, h.1.2.1]
  constructor
  · refine ⟨fun e => ?_, fun e => by rw [e]; rfl⟩
    have := (lit_eq (if q.1 = 4 then 3 else q.1) 2 (by split <;> omega) (by omega)).mp e
    split at this <;> omega
  · exact ⟨fun e => (lit_eq q.1 2 (by omega) (by omega)).mp e, fun e => by rw [e]; rfl⟩
/-- the reference has found a bad sitter -/
theorem sits_bad {L b s : Nat} {q : Nat × Nat × Nat × Nat} {σ μ : Mm} {a3 : Int32} {K : Mm → Prop} {m : Nat} (hS : SS L q σ μ) (hc : a3 = 0 ∨ nuB q 0 8 = false) (hk : K (mset μ 0 0 17 1)) : f_X7_sits_52 (nI b) (nI s) a3 K (f_X7_sits_4 (nI b) K (m + 1)) μ := by
  unfold f_X7_sits_52
  refine hS.bad (lo := 0) (hi := 8) (by omega) (by omega) hc ?_
  rw [set17, if_neg (by decide)]
  unfold f_X7_sits_95
  rw [set17, if_neg (by decide), f_X7_sits_4, if_pos rfl]
  exact hk
theorem sits_both {L b n N : Nat} (hb5 : b < 5) (hbN : b < N) (n1 : 1 ≤ n) (n8 : n ≤ 8) : ∀ (d s : Nat) (σ μ : Mm) (q : Nat × Nat × Nat × Nat), s + d = n → SS L q σ μ → RI σ 2 (μ 1 0) N → μ 1 0 (77 + 10 * b) = nI n → (∀ j, s ≤ j → j < 8 → μ 1 0 (78 + 10 * b + j) = -1) → q.1 = 2 → ∃ σ' μ', RZ L q.2.1 σ μ σ' μ' (fun K => ∃ m, f_X5_takeSitters_16 (nI b) K m (nI s) σ) (fun K => ∃ m, f_X7_sits_4 (nI b) K m (nI s) (1 : Int32) μ) := by
  intro d
  induction d with
  | zero =>
    intro s σ μ q hs hS hr en hz q2
    have : s = n := by omega
    subst this
    obtain ⟨p1, p2, p3⟩ := hS.pl
    have fn : σ 0 (5 * 2 + b) 1 = nI s := by rw [← (hr.1.2.2.2.1 b hbN).2.1]; exact en
    refine ⟨σ, mset μ 0 0 17 1, TB.rf, TZ.bad, fun K hk => ⟨2, ?_⟩, Or.inr ⟨q.2.1, true, p1, p2, by rw [set17o (by omega)]; exact p3, set17, fun _ => hS.s2.2.mpr q2, fun K hk => ⟨1, ?_⟩⟩⟩
    · rw [f_X7_sits_4, if_neg (by decide)]
      refine seatsOf_Y hb5 ?_
      rw [en, if_pos (nI_le (by omega) (by omega))]
      exact sits_bad hS (Or.inl rfl) hk
    · rw [f_X5_takeSitters_16, nI_clamp (by omega), fn, if_pos (nI_le (by omega) (by omega))]
      exact ⟨vp_in_nI hb5 (by omega), by omega, hk⟩
  | succ d ih =>
    intro s σ μ q hs hS hr en hz q2
    obtain ⟨p1, p2, p3⟩ := hS.pl
    have fn : σ 0 (5 * 2 + b) 1 = nI n := by rw [← (hr.1.2.2.2.1 b hbN).2.1]; exact en
    have v9 : q.2.2.2 ≤ 9999 := hS.2.2.2.1.2.2.2.2.2.2.2.2.1
    have q22 : q.2.1 ≤ q.2.2.1 := hS.2.2.2.1.2.1
    -- the class at this seat
    have X0 : ∀ (K : Bool → Mm → Prop) (m : Nat), f_X5_isNumber (0 : Int32) (8 : Int32) σ (fun b5 σ4 => (if b5 = true then (if (σ4 11 0 6) = (8 : Int32) then (f_X5_takeSitters_96 (nI b) (nI s) K (f_X5_takeSitters_16 (nI b) K m) σ4) else (f_X2_benchWith 2 (σ4 11 0 6) σ4 (fun r8 σ7 => (if r8 = (-1 : Int32) then (vp_in (nI b) 5 ∧ (vp_in (nI s) 8 ∧ (∃ σ11, σ11 = mset σ7 1 (5 * 2 + b) s (σ7 11 0 6) ∧ (f_X5_takeSitters_96 (nI b) (nI s) K (f_X5_takeSitters_16 (nI b) K m) σ11)))) else (K false σ7))))) else (K false σ4))) → f_X5_takeSitters_16 (nI b) K (m + 1) (nI s) σ := by
      intro K m h
      rw [f_X5_takeSitters_16, nI_clamp (by omega), nI_clamp (by omega), fn, if_neg (nI_ge (by omega) (by omega)), if_pos (hS.s2.2.mpr q2)]
      exact ⟨vp_in_nI hb5 (by omega), by omega, h⟩
    -- the reference at this seat
    have Y0 : ∀ (K : Mm → Prop) (m : Nat), (if q.2.2.2 = 8 then f_X7_sits_47 (nI b) (nI s) K (f_X7_sits_4 (nI b) K m) μ else f_X7_isPerson (nI q.2.2.2) μ (fun b10 σ9 => (if b10 = true then (f_X7_whereIs (σ9 0 0 16) σ9 (fun r12 σ11 => (if 0 ≤ r12 then (f_X7_sits_51 (nI b) (nI s) K (f_X7_sits_4 (nI b) K m) σ11) else (f_X7_sits_47 (nI b) (nI s) K (f_X7_sits_4 (nI b) K m) σ11)))) else (f_X7_sits_47 (nI b) (nI s) K (f_X7_sits_4 (nI b) K m) σ9)))) → f_X7_sits_4 (nI b) K (m + 1) (nI s) (1 : Int32) μ := by
      intro K m h
      rw [f_X7_sits_4, if_neg (by decide)]
      refine seatsOf_Y hb5 ?_
      rw [en, if_neg (nI_ge (by omega) (by omega)), hS.2.1.2.2.2.2]
      by_cases c : q.2.2.2 = 8
      · rw [if_pos c] at h
        rw [if_pos (by rw [c]; rfl)]; exact h
      · rw [if_neg c] at h
        rw [if_neg (fun e => c ((lit_eq q.2.2.2 8 (by omega) (by omega)).mp e))]; exact h
    -- what follows a good sitter
    have tail : ∀ (q1 : Nat × Nat × Nat × Nat) (σ1 μ2 : Mm), SS L q1 σ1 μ2 → RI σ1 2 (μ2 1 0) N → μ2 1 0 (77 + 10 * b) = nI n → (∀ j, s + 1 ≤ j → j < 8 → μ2 1 0 (78 + 10 * b + j) = -1) → ∃ σ' μ', RZ L q1.2.1 σ1 μ2 σ' μ' (fun K => ∃ m, f_X5_takeSitters_16 (nI b) K m (nI (s + 1)) σ1) (fun K => ∃ m, f_X7_sits_95 (nI b) (nI s) K (f_X7_sits_4 (nI b) K m) μ2) := by
      intro q1 σ1 μ2 S1 r1 en1 hz1
      by_cases c : q1.1 = 2
      · obtain ⟨σ', μ', Z⟩ := ih (s + 1) σ1 μ2 q1 (by omega) S1 r1 en1 hz1 c
        refine ⟨σ', μ', Z.lift TB.rf TZ.rf (Nat.le_refl _) (fun K h => h) (fun K h => ?_)⟩
        obtain ⟨m, hm⟩ := h
        refine ⟨m, ?_⟩
        unfold f_X7_sits_95
        rw [if_pos S1.2.2.2.2.1, if_pos (S1.s2.1.mpr c), nI_1]
        exact hm
      · have fn1 : σ1 0 (5 * 2 + b) 1 = nI n := by rw [← (r1.1.2.2.2.1 b hbN).2.1]; exact en1
        refine ⟨σ1, μ2, TB.rf, TZ.rf, fun K hk => ⟨1, ?_⟩, Or.inl ⟨q1, N, S1, r1, Nat.le_refl _, fun K hk => ⟨1, ?_⟩⟩⟩
        · unfold f_X7_sits_95
          rw [if_pos S1.2.2.2.2.1, if_neg (fun e => c (S1.s2.1.mp e)), f_X7_sits_4, if_pos rfl]
          exact hk
        · rw [f_X5_takeSitters_16, nI_clamp (by omega), fn1]
          refine ⟨vp_in_nI hb5 (by omega), by omega, ?_⟩
          by_cases g : n ≤ s + 1
          · rw [if_pos (nI_le g (by omega))]; exact hk
          · rw [if_neg (nI_ge (by omega) (by omega)), if_neg (fun e => c (S1.s2.2.mp e))]; exact hk
    cases nu : nuB q 0 8 with
    | false =>
      have v8 : 8 < q.2.2.2 := by
        have := of_decide_eq_false nu
        omega
      refine RZ.no (μ' := mset μ 0 0 17 1) hS TB.rf TZ.rf TZ.bad (set17o (by omega)) set17 (fun K hk => ⟨1, X0 K 0 (hS.nX (lo := 0) (hi := 8) (by omega) (by omega) ?_)⟩) (fun K hk => ⟨2, Y0 K 1 ?_⟩)
      · rw [nu]; exact itf hk
      · rw [if_neg (by omega), isPerson_Y, show inZ (nI q.2.2.2) 0 7 = false from by
          unfold inZ
          rw [nI_toInt (by omega)]
          exact decide_eq_false (by omega)]
        exact itf (sits_bad hS (Or.inr nu) hk)
    | true =>
      obtain ⟨-, -, v8, vx, vy⟩ := hS.val (by omega) nu
      by_cases c8 : q.2.2.2 = 8
      · obtain ⟨q1, σ1, μ1, S1, l1, o1, y1, k1, j1⟩ := next2 hS
        have m1 : μ1 1 0 = μ 1 0 := y1.1 1 0 (by omega)
        have sm : mset μ1 1 0 (78 + 10 * b + s) (-1) = μ1 := mset_same (by rw [m1]; exact hz s (Nat.le_refl s) (by omega))
        obtain ⟨σ', μ', Z⟩ := tail q1 σ1 μ1 S1 (by rw [m1]; exact hr.oc (by omega) o1) (by rw [m1]; exact en) (fun j a a' => by rw [m1]; exact hz j (by omega) a')
        refine ⟨σ', μ', Z.lift o1.tb y1.tz (by omega) (fun K h => ?_) (fun K h => ?_)⟩
        · obtain ⟨m, hm⟩ := h
          refine ⟨m + 1, X0 K m (hS.nX (lo := 0) (hi := 8) (by omega) (by omega) ?_)⟩
          rw [nu]
          refine itt ?_
          rw [vx, if_pos (by rw [c8]; rfl)]
          refine k1 _ ?_
          rw [nI_1]; exact hm
        · obtain ⟨m, hm⟩ := h
          refine ⟨m + 1, Y0 K m ?_⟩
          rw [if_pos c8]
          refine hS.ok (lo := 0) (hi := 8) (by omega) (by omega) (by decide) nu (j1 _ ?_)
          rw [if_pos S1.2.2.2.2.1, at_Y hb5 (by omega), if_pos (by rw [c8]; rfl)]
          refine ⟨vp_in_nI (by omega) (by omega), _, rfl, ?_⟩
          rw [nI_clamp (by omega), sm]
          exact hm
      · have n8' : ¬ nI q.2.2.2 = (8 : Int32) := fun e => c8 ((lit_eq q.2.2.2 8 (by omega) (by omega)).mp e)
        have ip : inZ (nI q.2.2.2) 0 7 = true := inZ_nI (lo := 0) (hi := 7) (by omega) (by omega) (by omega)
        rcases at_or (μ 1 0) N q.2.2.2 with ⟨b', s', ha⟩ | hn
        · refine RZ.no (μ' := mset μ 0 0 17 1) hS TB.rf TZ.rf TZ.bad (set17o (by omega)) set17 (fun K hk => ⟨1, X0 K 0 (hS.nX (lo := 0) (hi := 8) (by omega) (by omega) ?_)⟩) (fun K hk => ⟨2, Y0 K 1 ?_⟩)
          · rw [nu]
            refine itt ?_
            rw [vx, if_neg n8']
            have hN5 := hr.2.nb
            have hb' := ha.1
            refine with_at hr (by omega) (by omega) ha ?_
            rw [if_neg (nI_ne_m1 (by omega))]
            exact hk
          · rw [if_neg c8, isPerson_Y, ip]
            refine itt ?_
            rw [vy]
            have hN5 := hr.2.nb
            have hb' := ha.1
            have hs' := ha.2.1
            refine where_at hr.2 (by omega) ha ?_
            rw [if_pos (nI_pos' (by omega))]
            exact sits_bad hS (Or.inl rfl) hk
        · obtain ⟨σt, et⟩ : ∃ σt, σt = mset σ 1 (5 * 2 + b) s (nI q.2.2.2) := ⟨_, rfl⟩
          have St : SS L q σt μ := hS.cls (by rw [et, mset_ne (by omega)]) (by rw [et, mset_ne (by omega)])
          obtain ⟨q1, σ1, μ1, S1, l1, o1, y1, k1, j1⟩ := next2 St
          have m1 : μ1 1 0 = μ 1 0 := y1.1 1 0 (by omega)
          have hrt := hr.seat (b := b) (s := s) (n := n) hbN en n8 (by omega) (pv_nI (p := q.2.2.2) (by omega)) (Or.inr (fun b' s' hb' hs' e => absurd e (hn b' s' hb' hs')))
          rw [← et] at hrt
          obtain ⟨σ', μ', Z⟩ := tail q1 σ1 (mset μ1 1 0 (78 + 10 * b + s) (nI q.2.2.2)) (S1.ref (by rw [mset_ne (by omega)]) (by rw [mset_ne (by omega)])) (by rw [mset_eq, m1]; exact hrt.oc (by omega) o1) (by rw [mset_ap, if_neg (by omega), m1]; exact en) (fun j a a' => by rw [mset_ap, if_neg (by omega), m1]; exact hz j (by omega) a')
          have TBt : TB σ σt := by rw [et]; exact TB.set (by unfold inR; omega)
          refine ⟨σ', μ', Z.lift (TBt.tr o1.tb) (y1.tz.tr TZ.row) (by omega) (fun K h => ?_) (fun K h => ?_)⟩
          · obtain ⟨m, hm⟩ := h
            refine ⟨m + 1, X0 K m (hS.nX (lo := 0) (hi := 8) (by omega) (by omega) ?_)⟩
            rw [nu]
            refine itt ?_
            rw [vx, if_neg n8']
            refine with_no hr (by omega) hn ?_
            rw [if_pos rfl, vx, ← et]
            refine ⟨vp_in_nI hb5 (by omega), vp_in_nI (by omega) (by omega), _, rfl, k1 _ ?_⟩
            rw [nI_1]; exact hm
          · obtain ⟨m, hm⟩ := h
            refine ⟨m + 1, Y0 K m ?_⟩
            rw [if_neg c8, isPerson_Y, ip]
            refine itt ?_
            rw [vy]
            refine where_no hr.2 hn ?_
            rw [if_neg (by decide)]
            refine hS.ok (lo := 0) (hi := 8) (by omega) (by omega) (by decide) nu (j1 _ ?_)
            rw [if_pos S1.2.2.2.2.1, at_Y hb5 (by omega), if_neg n8']
            refine ⟨vp_in_nI (by omega) (by omega), _, rfl, ?_⟩
            rw [nI_clamp (by omega)]
            exact hm
