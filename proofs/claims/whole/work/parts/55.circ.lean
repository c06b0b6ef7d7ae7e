/-! PURE: circle, bench, as -/
/-- the friends of p among the first j persons, as a set -/
def cirF (B : Nat → Int32) (ov : Int32) (p : Nat) : Nat → Int32
  | 0 => 0
  | j + 1 => if frN B ov p j = true then cirF B ov p j ||| ((1 : Int32) <<< (nI j &&& 31)) else cirF B ov p j
theorem frN_congr {B B' : Nat → Int32} {ov : Int32} {p q : Nat} (h : B (8 * p + q) = B' (8 * p + q)) : frN B ov p q = frN B' ov p q := by
  unfold frN; rw [h]
theorem cirF_congr {B B' : Nat → Int32} {ov : Int32} {p : Nat} (hp : p < 8) (h : ∀ j, j < 64 → B j = B' j) : ∀ j, j ≤ 8 → cirF B ov p j = cirF B' ov p j := by
  intro j
  induction j with
  | zero => intro _; rfl
  | succ j ih => intro hj; rw [cirF, cirF, ih (by omega), frN_congr (h _ (by omega))]
theorem friendsOf_X {r p : Nat} {σ : Mm} {K : Int32 → Mm → Prop} (hr : r < 3) (hp : p < 8) (ho : bz (σ 2 r 2)) (h : K (cirF (σ 3 r) (σ 2 r 2) p 8) σ) : f_X1_friendsOf r (nI p) σ K := by
  have main : ∀ (d j : Nat), j + d = 8 → f_X1_friendsOf_4 r (nI p) K (d + 1) (cirF (σ 3 r) (σ 2 r 2) p j) (nI j) σ := by
    intro d
    induction d with
    | zero =>
      intro j hj
      have : j = 8 := by omega
      subst this
      rw [f_X1_friendsOf_4, if_pos (by decide)]; exact h
    | succ d ih =>
      intro j hj
      have step := ih (j + 1) (by omega)
      rw [f_X1_friendsOf_4, if_neg (show ¬ (8 : Int32) ≤ nI j from nI_ge (a := j) (b := 8) (by omega) (by omega)), nI_1]
      refine frN_X hr hp (by omega) ho ?_
      unfold cirF at step
      cases e : frN (σ 3 r) (σ 2 r 2) p j with
      | true => rw [if_pos rfl]; rw [if_pos e] at step; exact step
      | false => rw [if_neg (by decide)]; rw [if_neg (by rw [e]; decide)] at step; exact step
  exact ⟨hr, 9, main 8 0 (by omega)⟩
theorem i32_or0 (x : Int32) : x ||| 0 = x := by
  apply b_ext
  intro i _
  rw [b_or, b_0, Bool.or_false]
theorem circle_Y {p : Nat} {μ : Mm} {K : Int32 → Mm → Prop} (hp : p < 8) (h : K (cirF (fun j => μ 1 0 (4 + j)) (μ 1 0 0) p 8) μ) : ∃ m, f_X7_circle_18 (nI p) K m (0 : Int32) (0 : Int32) μ := by
  have main : ∀ (d j : Nat), j + d = 8 → f_X7_circle_18 (nI p) K (d + 1) (cirF (fun j => μ 1 0 (4 + j)) (μ 1 0 0) p j) (nI j) μ := by
    intro d
    induction d with
    | zero =>
      intro j hj
      have : j = 8 := by omega
      subst this
      rw [f_X7_circle_18, if_pos (by decide)]; exact h
    | succ d ih =>
      intro j hj
      have step := ih (j + 1) (by omega)
      rw [f_X7_circle_18, if_neg (show ¬ (8 : Int32) ≤ nI j from nI_ge (a := j) (b := 8) (by omega) (by omega)), nI_1]
      refine frN_Y hp (by omega) ?_
      unfold cirF at step
      cases e : frN (fun j => μ 1 0 (4 + j)) (μ 1 0 0) p j with
      | true => rw [if_pos rfl]; rw [if_pos e] at step; exact step
      | false => rw [if_neg (by decide)]; rw [if_neg (by rw [e]; decide)] at step; rw [i32_or0]; exact step
  exact ⟨9, main 8 0 (by omega)⟩
theorem E_circle (a : Int32) {σ μ : Mm} (h : Rel σ μ) : f_X6_circle a σ (fun r σ' => f_X7_circle a μ (fun r' μ' => r' = r ∧ Rel σ' μ')) := by
  obtain ⟨nb, h5, hx, hy, hr⟩ := h.nbx
  unfold f_X6_circle
  rw [isPerson_X]
  cases e : inZ a 0 7 with
  | false =>
    rw [if_neg (by decide)]
    refine E_find0' h (fun r σ' hh => ?_)
    show f_X7_circle a μ _
    unfold f_X7_circle
    rw [isPerson_Y, e, if_neg (by decide)]
    exact hh
  | true =>
    rw [if_pos rfl]
    obtain ⟨p, -, hp, rfl⟩ := inZ_ex (lo := 0) (hi := 7) e (by omega)
    refine friendsOf_X (by omega) (by omega) hr.ov ?_
    show f_X7_circle (nI p) μ _
    unfold f_X7_circle
    rw [isPerson_Y, e, if_pos rfl]
    refine circle_Y (by omega) ⟨?_, h⟩
    rw [hr.1.1.1]
    exact cirF_congr (by omega) (fun j hj => hr.1.2.1 j hj) 8 (by omega)
theorem fill8 {i : Nat} {v : Int32} {σ : Mm} {K : Mm → Prop} (hi : i < 17) (h : ∀ σ', (∀ k, k < 8 → σ' 1 i k = v) → (∀ t x, ¬ (t = 1 ∧ x = i) → σ' t x = σ t x) → K σ') : f_J7_fill_53178_1 i v σ K := by
  have main : ∀ (d j : Nat) (ν : Mm), j + d = 8 → (∀ k, k < j → ν 1 i k = v) → (∀ t x, ¬ (t = 1 ∧ x = i) → ν t x = σ t x) → f_J7_fill_53178_1_5 i v (8 : Int32) K (d + 1) (nI j) ν := by
    intro d
    induction d with
    | zero =>
      intro j ν hj h1 h2
      have : j = 8 := by omega
      subst this
      rw [f_J7_fill_53178_1_5, if_pos (by decide)]; exact h ν h1 h2
    | succ d ih =>
      intro j ν hj h1 h2
      rw [f_J7_fill_53178_1_5, if_neg (show ¬ (8 : Int32) ≤ nI j from nI_ge (a := j) (b := 8) (by omega) (by omega)), nI_clamp (by omega), nI_1]
      refine ⟨vp_in_nI (by omega) (by omega), _, rfl, ih (j + 1) _ (by omega) (fun k hk => ?_) (fun t x hne => by rw [mset_ne hne]; exact h2 t x hne)⟩
      rw [mset_ap]
      by_cases e : k = j
      · rw [if_pos ⟨rfl, rfl, e⟩]
      · rw [if_neg (by omega)]; exact h1 k (by omega)
  exact ⟨hi, 9, main 8 0 σ (by omega) (fun k hk => absurd hk (by omega)) (fun _ _ _ => rfl)⟩
/-- a bench is new: its kind, its size, nobody on it -/
def Clr (σ : Mm) (i : Nat) (a b : Int32) (σ' : Mm) : Prop := σ' 0 i 0 = a ∧ σ' 0 i 1 = b ∧ (∀ s, s < 8 → σ' 1 i s = -1) ∧ ∀ t x, ¬ ((t = 0 ∨ t = 1) ∧ x = i) → σ' t x = σ t x
theorem clear_X {i : Nat} {a b : Int32} {σ : Mm} {K : Mm → Prop} (hi : i < 17) (h : ∀ σ', Clr σ i a b σ' → K σ') : f_X0_clear i a b σ K := by
  refine ⟨hi, _, rfl, _, rfl, fill8 hi (fun σ' h1 h2 => h σ' ⟨?_, ?_, h1, fun t x hne => ?_⟩)⟩
  · rw [h2 _ _ (by omega), mset_ap, if_neg (by omega), mset_ap, if_pos ⟨rfl, rfl, rfl⟩]
  · rw [h2 _ _ (by omega), mset_ap, if_pos ⟨rfl, rfl, rfl⟩]
  · rw [h2 _ _ (by omega), mset_ne (by omega), mset_ne (by omega)]
theorem addBench_X {r nb : Nat} {a b : Int32} {σ : Mm} {K : Int32 → Mm → Prop} (hr : r < 3) (e : σ 5 r 2 = nI nb) (hn : nb < 5) (h : ∀ σ' σ'', Clr σ (5 * r + nb) a b σ' → σ'' = mset σ' 5 r 2 (nI (nb + 1)) → K (nI nb) σ'') : f_X2_addBench r a b σ K := by
  unfold f_X2_addBench
  rw [e, nI_clamp (by omega)]
  refine ⟨hr, vp_in_nI hn (by omega), by omega, clear_X (by omega) (fun σ' hc => ⟨_, rfl, h σ' _ hc ?_⟩)⟩
  rw [hc.2.2.2 5 r (by omega), e, nI_1]
theorem comes_Y {nb : Nat} {a b : Int32} {μ : Mm} {K : Mm → Prop} (e : μ 1 0 3 = nI nb) (hn : nb < 5) (h : ∀ μ', (∀ j, j ≠ 3 → ¬ (76 + 10 * nb ≤ j ∧ j < 86 + 10 * nb) → μ' 1 0 j = μ 1 0 j) → μ' 1 0 3 = nI (nb + 1) → μ' 1 0 (76 + 10 * nb) = a → μ' 1 0 (77 + 10 * nb) = b → (∀ s, s < 8 → μ' 1 0 (78 + 10 * nb + s) = -1) → (∀ t i, ¬ (t = 1 ∧ i = 0) → μ' t i = μ t i) → K μ') : f_X7_comes a b μ K := by
  unfold f_X7_comes
  rw [e, sz_ix hn, kd_ix hn, nI_clamp (by omega), nI_clamp (by omega)]
  refine ⟨vp_in_nI (by omega) (by omega), _, rfl, vp_in_nI (by omega) (by omega), _, rfl, ?_⟩
  have main : ∀ (d s : Nat) (ν : Mm), s + d = 8 → (∀ j, ¬ (76 + 10 * nb ≤ j ∧ j < 86 + 10 * nb) → ν 1 0 j = μ 1 0 j) → ν 1 0 (76 + 10 * nb) = a → ν 1 0 (77 + 10 * nb) = b → (∀ q, q < s → ν 1 0 (78 + 10 * nb + q) = -1) → (∀ t i, ¬ (t = 1 ∧ i = 0) → ν t i = μ t i) → f_X7_comes_38 (nI nb) K (d + 1) (nI s) ν := by
    intro d
    induction d with
    | zero =>
      intro s ν hs h1 h2 h3 h4 h5
      have : s = 8 := by omega
      subst this
      rw [f_X7_comes_38, if_pos (by decide)]
      refine ⟨_, rfl, h _ (fun j a1 a2 => ?_) ?_ ?_ ?_ (fun q hq => ?_) (fun t i hne => ?_)⟩
      · rw [mset_ap, if_neg (by omega)]; exact h1 j a2
      · rw [mset_ap, if_pos ⟨rfl, rfl, rfl⟩, h1 3 (by omega), e, nI_1]
      · rw [mset_ap, if_neg (by omega)]; exact h2
      · rw [mset_ap, if_neg (by omega)]; exact h3
      · rw [mset_ap, if_neg (by omega)]; exact h4 q hq
      · rw [mset_ne hne]; exact h5 t i hne
    | succ d ih =>
      intro s ν hs h1 h2 h3 h4 h5
      rw [f_X7_comes_38, if_neg (show ¬ (8 : Int32) ≤ nI s from nI_ge (a := s) (b := 8) (by omega) (by omega)), at_Y hn (by omega), nI_clamp (by omega), nI_1]
      refine ⟨vp_in_nI (by omega) (by omega), _, rfl, ih (s + 1) _ (by omega) (fun j a2 => ?_) ?_ ?_ (fun q hq => ?_) (fun t i hne => ?_)⟩
      · rw [mset_ap, if_neg (by omega)]; exact h1 j a2
      · rw [mset_ap, if_neg (by omega)]; exact h2
      · rw [mset_ap, if_neg (by omega)]; exact h3
      · rw [mset_ap]
        by_cases c : q = s
        · rw [if_pos ⟨rfl, rfl, by omega⟩]
        · rw [if_neg (by omega)]; exact h4 q (by omega)
      · rw [mset_ne hne]; exact h5 t i hne
  refine ⟨9, main 8 0 _ (by omega) (fun j a2 => ?_) ?_ ?_ (fun q hq => absurd hq (by omega)) (fun t i hne => ?_)⟩
  · rw [mset_ap, if_neg (by omega), mset_ap, if_neg (by omega)]
  · rw [mset_ap, if_neg (by omega), mset_ap, if_pos ⟨rfl, rfl, rfl⟩]
  · rw [mset_ap, if_pos ⟨rfl, rfl, rfl⟩]
  · rw [mset_ne hne, mset_ne hne]
/-- a new bench on both sides -/
theorem RI.add {σ σ' μ μ' : Mm} {r nb k n : Nat} (hr3 : r < 3) (h : RI σ r (μ 1 0) nb) (hn : nb < 5) (hk : k < 7) (h1 : 1 ≤ n) (h8 : n ≤ 8) (hc : Clr σ (5 * r + nb) (nI k) (nI n) σ') (a1 : ∀ j, j ≠ 3 → ¬ (76 + 10 * nb ≤ j ∧ j < 86 + 10 * nb) → μ' 1 0 j = μ 1 0 j) (a2 : μ' 1 0 3 = nI (nb + 1)) (a3 : μ' 1 0 (76 + 10 * nb) = nI k) (a4 : μ' 1 0 (77 + 10 * nb) = nI n) (a5 : ∀ s, s < 8 → μ' 1 0 (78 + 10 * nb + s) = -1) : RI (mset σ' 5 r 2 (nI (nb + 1))) r (μ' 1 0) (nb + 1) := by
  obtain ⟨c1, c2, c3, c4⟩ := hc
  refine h.bench hn hk h1 h8 a1 a2 a3 a4 a5 ?_ ?_ ?_ ?_ ?_ ?_ (fun b hb => ?_) (fun b hb => ?_) ?_ ?_ (fun s hs => ?_)
  · rw [mset_ne (by omega), c4 _ _ (by omega)]
  · rw [mset_ne (by omega), c4 _ _ (by omega)]
  · rw [mset_ne (by omega), c4 _ _ (by omega)]
  · rw [mset_ne (by omega), c4 _ _ (by omega)]
  · rw [mset_ap, if_pos ⟨rfl, rfl, rfl⟩]
  · rw [mset_ap, if_neg (by omega), c4 _ _ (by omega)]
  · rw [mset_ne (by omega), c4 _ _ (by omega)]
  · rw [mset_ne (by omega), c4 _ _ (by omega)]
  · rw [mset_ne (by omega)]; exact c1
  · rw [mset_ne (by omega)]; exact c2
  · rw [mset_ne (by omega)]; exact c3 s hs
theorem E_bench (a b : Int32) {σ μ : Mm} (h : Rel σ μ) : f_X6_bench a b σ (fun r σ' => f_X7_bench a b μ (fun r' μ' => r' = r ∧ Rel σ' μ')) := by
  obtain ⟨nb, h5, hx, hy, hr⟩ := h.nbx
  unfold f_X6_bench
  rw [isKind_X]
  have e18 : inZ b (1 : Int32).toInt (8 : Int32).toInt = inZ b 1 8 := rfl
  have e18' : inZ b (1 : Int64).toInt (8 : Int64).toInt = inZ b 1 8 := rfl
  cases e : inZ a 0 6 with
  | false =>
    rw [if_neg (by decide)]
    refine E_find0' h (fun r σ' hh => ?_)
    show f_X7_bench a b μ _
    unfold f_X7_bench
    rw [isKind_Y, e, if_neg (by decide)]
    exact hh
  | true =>
    rw [if_pos rfl, ite_inZ, e18]
    cases e2 : inZ b 1 8 with
    | false =>
      rw [if_neg (by decide)]
      refine E_find0' h (fun r σ' hh => ?_)
      show f_X7_bench a b μ _
      unfold f_X7_bench
      rw [isKind_Y, e, if_pos rfl, in_inZ, e18', e2, if_neg (by decide)]
      exact hh
    | true =>
      rw [if_pos rfl, hx]
      have Y : ∀ {G : Int32 → Mm → Prop}, (if nI nb = (5 : Int32) then f_X7_finds (-1000002 : Int32) μ (fun r9 σ8 => G r9 σ8) else f_X7_comes a b μ (fun σ7 => G ((σ7 1 0 3) - (1 : Int32)) σ7)) → f_X7_bench a b μ G := by
        intro G hG
        unfold f_X7_bench
        rw [isKind_Y, e, if_pos rfl, in_inZ, e18', e2, if_pos rfl, hy]
        exact hG
      by_cases c : nb = 5
      · rw [if_neg (show ¬ nI nb < (5 : Int32) from nI_nlt (b := 5) (by omega) (by omega))]
        refine E_find' 1 (by decide) (-1000002 : Int32) rfl (by decide) h (fun r σ' hh => Y ?_)
        rw [if_pos (by rw [c]; rfl)]
        exact hh
      · rw [if_pos (show nI nb < (5 : Int32) from nI_lt (b := 5) (by omega) (by omega))]
        obtain ⟨k, -, hk, rfl⟩ := inZ_ex (lo := 0) (hi := 6) e (by omega)
        obtain ⟨n, n1, n8, rfl⟩ := inZ_ex (lo := 1) (hi := 8) e2 (by omega)
        refine addBench_X (by omega) hx (by omega) (fun σ' σ'' hc es => Y ?_)
        rw [if_neg (show ¬ nI nb = (5 : Int32) from fun z => c ((nI_eq (a := nb) (b := 5) (by omega) (by omega)).mp z))]
        refine comes_Y hy (by omega) (fun μ' a1 a2 a3 a4 a5 a6 => ⟨?_, ?_⟩)
        · rw [a2]; exact pk_sub (a := nb + 1) (b := 1) (by omega)
        · subst es
          have c4 := hc.2.2.2
          refine h.out (nb := nb + 1) ?_ ⟨fun t ht => a6 _ _ (by omega), by rw [a6 _ _ (by omega)], by rw [a6 _ _ (by omega)]⟩ (RI.add (by omega) hr (by omega) (by omega) n1 n8 hc a1 a2 a3 a4 a5)
          exact Out.tr ⟨fun t i x y z => c4 _ _ (by omega), fun t x => c4 _ _ (by omega), fun t i x => c4 _ _ (by omega), by rw [c4 _ _ (by omega)], by rw [c4 _ _ (by omega)]⟩ (Out.set (by omega))
