/-! PURE: a bench's sitters move on: course, turns -/
theorem mod_inj : ∀ n, n < 9 → ∀ t, t < 9 → ∀ s, s < n → ∀ s', s' < n → (s + t) % n = (s' + t) % n → s = s' := by decide +kernel
theorem mod_sur : ∀ n, n < 9 → ∀ t, t < 9 → ∀ j, j < n → (j + 8 * n - t) % n < n ∧ ((j + 8 * n - t) % n + t) % n = j := by decide +kernel
def mvF (v : Nat → Int32) (t n : Nat) (j : Nat) : Int32 := v ((j + 8 * n - t) % n)
def Mv (v : Nat → Int32) (t n : Nat) (w : Nat → Int32) : Prop := ∀ s, s < n → w ((s + t) % n) = v s
theorem Mv.ev {v w : Nat → Int32} {t n : Nat} (h : Mv v t n w) (h8 : n ≤ 8) (ht : t ≤ 8) : ∀ j, j < n → w j = mvF v t n j := by
  intro j hj
  obtain ⟨a, b⟩ := mod_sur n (by omega) t (by omega) j hj
  have := h _ a
  rw [b] at this
  exact this
theorem mvF_pv {v : Nat → Int32} {t n : Nat} (hv : pvs v n) (h8 : n ≤ 8) (ht : t ≤ 8) : pvs (mvF v t n) n := fun j hj => hv _ (mod_sur n (by omega) t (by omega) j hj).1
theorem moved_X {i j k n t : Nat} {σ : Mm} {K : Mm → Prop} (hi : i < 17) (hj : j < 17) (hne : i ≠ j) (ek : σ 0 j 0 = nI k) (en : σ 0 j 1 = nI n) (h1 : 1 ≤ n) (h8 : n ≤ 8) (ht : t ≤ 8) (h : ∀ σ', (∀ t x, ¬ ((t = 0 ∨ t = 1) ∧ x = i) → σ' t x = σ t x) → σ' 0 i 0 = nI k → σ' 0 i 1 = nI n → Mv (σ 1 j) t n (σ' 1 i) → (∀ s, n ≤ s → s < 8 → σ' 1 i s = -1) → K σ') : f_X0_becomeMovedOn i j (nI t) σ K := by
  refine ⟨hi, hj, clear_X hi (fun σ1 hc => ?_)⟩
  rw [ek, en] at hc
  obtain ⟨c0, c1, c2, c3⟩ := hc
  have main : ∀ (d s : Nat) (σ' : Mm), s + d = n → (∀ t x, ¬ ((t = 0 ∨ t = 1) ∧ x = i) → σ' t x = σ t x) → σ' 0 i 0 = nI k → σ' 0 i 1 = nI n → (∀ s', s' < s → σ' 1 i ((s' + t) % n) = σ 1 j s') → (∀ s, n ≤ s → s < 8 → σ' 1 i s = -1) → f_X0_becomeMovedOn_14 i j (nI t) K (d + 1) (nI s) σ' := by
    intro d
    induction d with
    | zero =>
      intro s σ' hs g1 g2 g3 g4 g5
      have : s = n := by omega
      subst this
      rw [f_X0_becomeMovedOn_14, g3, if_pos (nI_le (by omega) (by omega))]
      exact h σ' g1 g2 g3 g4 g5
    | succ d ih =>
      intro s σ' hs g1 g2 g3 g4 g5
      have hm : (s + t) % n < n := Nat.mod_lt _ (by omega)
      rw [f_X0_becomeMovedOn_14, g3, if_neg (nI_ge (by omega) (by omega)), nI_add, pk_rem (by omega) (by omega) (by omega), nI_clamp (n := (s + t) % n) (by omega), nI_clamp (n := s) (by omega), nI_1]
      refine ⟨fun e => by have := (lit_eq n 0 (by omega) (by omega)).mp e; omega, vp_in_nI (by omega) (by omega), vp_in_nI (by omega) (by omega), _, rfl, ?_⟩
      refine ih (s + 1) _ (by omega) ?_ ?_ ?_ ?_ ?_
      · intro t' x g
        rw [mset_ne (by omega)]; exact g1 t' x g
      · rw [mset_ne (by omega)]; exact g2
      · rw [mset_ne (by omega)]; exact g3
      · intro s' hs'
        rw [mset_ap]
        by_cases c : s' = s
        · subst c
          rw [if_pos ⟨rfl, rfl, rfl⟩, g1 1 j (by omega)]
        · rw [if_neg (fun e => c (mod_inj n (by omega) t (by omega) s' (by omega) s (by omega) e.2.2))]
          exact g4 s' (by omega)
      · intro s' hs' h'
        rw [mset_ap, if_neg (by omega)]; exact g5 s' hs' h'
  exact ⟨n + 1, main n 0 σ1 (by omega) c3 c0 c1 (fun s' h' => absurd h' (by omega)) (fun s _ hs => c2 s hs)⟩
theorem goesOn_Y {b k n t : Nat} {μ : Mm} {K : Mm → Prop} (hb : b < 5) (ek : μ 1 0 (76 + 10 * b) = nI k) (en : μ 1 0 (77 + 10 * b) = nI n) (h1 : 1 ≤ n) (h8 : n ≤ 8) (ht : t ≤ 8) (h : ∀ μ', SY μ μ' → μ' 0 0 6 = nI k → μ' 0 0 7 = nI n → Mv (fun s => μ 1 0 (78 + 10 * b + s)) t n (μ' 5 0) → K μ') : f_X7_goesOn (nI b) (nI t) μ K := by
  have main : ∀ (d s : Nat) (μ' : Mm), s + d = n → SY μ μ' → μ' 0 0 6 = nI k → μ' 0 0 7 = nI n → (∀ s', s' < s → μ' 5 0 ((s' + t) % n) = μ 1 0 (78 + 10 * b + s')) → f_X7_goesOn_20 (nI b) (nI t) K (d + 1) (nI s) μ' := by
    intro d
    induction d with
    | zero =>
      intro s μ' hs g1 g2 g3 g4
      have : s = n := by omega
      subst this
      rw [f_X7_goesOn_20, g3, if_pos (nI_le (by omega) (by omega))]
      exact h μ' g1 g2 g3 g4
    | succ d ih =>
      intro s μ' hs g1 g2 g3 g4
      have hm : (s + t) % n < n := Nat.mod_lt _ (by omega)
      rw [f_X7_goesOn_20, g3, if_neg (nI_ge (by omega) (by omega)), nI_add, pk_rem (by omega) (by omega) (by omega), nI_clamp (n := (s + t) % n) (by omega), nI_1]
      refine ⟨fun e => by have := (lit_eq n 0 (by omega) (by omega)).mp e; omega, ?_⟩
      rw [at_Y hb (by omega), nI_clamp (by omega)]
      refine ⟨vp_in_nI (by omega) (by omega), vp_in_nI (by omega) (by omega), _, rfl, ?_⟩
      refine ih (s + 1) _ (by omega) ⟨fun t' i g => ?_, fun j c1 c2 => ?_⟩ ?_ ?_ ?_
      · rw [mset_ne (by omega)]; exact g1.1 t' i g
      · rw [mset_ne (by omega)]; exact g1.2 j c1 c2
      · rw [mset_ne (by omega)]; exact g2
      · rw [mset_ne (by omega)]; exact g3
      · intro s' hs'
        rw [mset_ap]
        by_cases c : s' = s
        · subst c
          rw [if_pos ⟨rfl, rfl, rfl⟩, g1.m]
        · rw [if_neg (fun e => c (mod_inj n (by omega) t (by omega) s' (by omega) s (by omega) e.2.2))]
          exact g4 s' (by omega)
  refine kindOf_Y hb ⟨_, rfl, seatsOf_Y hb ?_⟩
  refine ⟨_, rfl, n + 1, ?_⟩
  rw [mset_ne (t := 0) (t' := 1) (by omega), ek, en]
  refine main n 0 _ (by omega) ⟨fun t' i g => ?_, fun j c1 c2 => ?_⟩ ?_ ?_ (fun s' h' => absurd h' (by omega))
  · rw [mset_ne (by omega), mset_ne (by omega)]
  · rw [mset_ap, if_neg (by omega), mset_ap, if_neg (by omega)]
  · rw [mset_ap, if_neg (by omega), mset_ap, if_pos ⟨rfl, rfl, rfl⟩]
  · rw [mset_ap, if_pos ⟨rfl, rfl, rfl⟩]
theorem lays_Y {b n : Nat} {μ : Mm} {K : Mm → Prop} (hb : b < 5) (en : μ 0 0 7 = nI n) (h8 : n ≤ 8) (h : ∀ μ', (∀ s, s < n → μ' 1 0 (78 + 10 * b + s) = μ 5 0 s) → (∀ j, ¬ (78 + 10 * b ≤ j ∧ j < 78 + 10 * b + n) → μ' 1 0 j = μ 1 0 j) → (∀ t i, ¬ (t = 1 ∧ i = 0) → μ' t i = μ t i) → K μ') : f_X7_laysDown (nI b) μ K := by
  have main : ∀ (d s : Nat) (μ' : Mm), s + d = n → (∀ s', s' < s → μ' 1 0 (78 + 10 * b + s') = μ 5 0 s') → (∀ j, ¬ (78 + 10 * b ≤ j ∧ j < 78 + 10 * b + n) → μ' 1 0 j = μ 1 0 j) → (∀ t i, ¬ (t = 1 ∧ i = 0) → μ' t i = μ t i) → f_X7_laysDown_2 (nI b) K (d + 1) (nI s) μ' := by
    intro d
    induction d with
    | zero =>
      intro s μ' hs g1 g2 g3
      have : s = n := by omega
      subst this
      rw [f_X7_laysDown_2, g3 0 0 (by omega), en, if_pos (nI_le (by omega) (by omega))]
      exact h μ' g1 g2 g3
    | succ d ih =>
      intro s μ' hs g1 g2 g3
      rw [f_X7_laysDown_2, g3 0 0 (by omega), en, if_neg (nI_ge (by omega) (by omega)), at_Y hb (by omega), nI_clamp (n := 78 + 10 * b + s) (by omega), nI_clamp (n := s) (by omega), nI_1]
      refine ⟨vp_in_nI (by omega) (by omega), vp_in_nI (by omega) (by omega), _, rfl, ih (s + 1) _ (by omega) ?_ ?_ ?_⟩
      · intro s' hs'
        rw [mset_ap]
        by_cases c : s' = s
        · subst c; rw [if_pos ⟨rfl, rfl, rfl⟩, g3 5 0 (by omega)]
        · rw [if_neg (by omega)]; exact g1 s' (by omega)
      · intro j hj
        rw [mset_ap, if_neg (by omega)]; exact g2 j hj
      · intro t i g
        rw [mset_ne g]; exact g3 t i g
  exact ⟨n + 1, main n 0 μ (by omega) (fun s' h' => absurd h' (by omega)) (fun _ _ => rfl) (fun _ _ _ => rfl)⟩
/-- a bench gets a new row of sitters -/
theorem RI.row {σ σ' : Mm} {r : Nat} {m m' : Nat → Int32} {nb b n : Nat} {w : Nat → Int32} (h : RI σ r m nb) (hb : b < nb) (en : m (77 + 10 * b) = nI n) (h8 : n ≤ 8)
    (hw : ∀ s, s < n → pv (w s)) (hu : ∀ j j', j < n → j' < n → ¬ w j = -1 → w j = w j' → j = j') (ho : ∀ j b' s', j < n → ¬ w j = -1 → b' < nb → s' < 8 → b' ≠ b → ¬ m (78 + 10 * b' + s') = w j)
    (em : ∀ j, ¬ (78 + 10 * b ≤ j ∧ j < 78 + 10 * b + n) → m' j = m j) (emw : ∀ j, j < n → m' (78 + 10 * b + j) = w j)
    (es : ∀ t i, ¬ ((t = 0 ∨ t = 1) ∧ i = 5 * r + b) → inR t i r → σ' t i = σ t i) (es0 : σ' 0 (5 * r + b) 0 = σ 0 (5 * r + b) 0) (es1 : σ' 0 (5 * r + b) 1 = σ 0 (5 * r + b) 1) (esw : ∀ j, j < n → σ' 1 (5 * r + b) j = w j) (esz : ∀ j, n ≤ j → j < 8 → σ' 1 (5 * r + b) j = -1) : RI σ' r m' nb := by
  obtain ⟨⟨a0, aB, aW, aS, aP⟩, i0, iB, iW, iS, iU, iP⟩ := h
  have h5 := i0.1
  have cell : ∀ c s, c < nb → s < 8 → m' (78 + 10 * c + s) = if c = b ∧ s < n then w s else m (78 + 10 * c + s) := by
    intro c s hc hs
    by_cases g : c = b ∧ s < n
    · obtain ⟨rfl, g2⟩ := g
      rw [if_pos ⟨rfl, g2⟩]; exact emw s g2
    · rw [if_neg g]; exact em _ (by omega)
  have bey : ∀ s, n ≤ s → s < 8 → m (78 + 10 * b + s) = -1 := by
    intro s h1 h2
    obtain ⟨-, ⟨n', n1, n2, n3, n4⟩, -⟩ := iS b hb
    have : n = n' := (nI_eq (by omega) (by omega)).mp (en.symm.trans n3)
    subst this
    exact n4 s h1 h2
  have e2 : σ' 2 r = σ 2 r := es 2 r (by omega) (by unfold inR; omega)
  have e3 : σ' 3 r = σ 3 r := es 3 r (by omega) (by unfold inR; omega)
  have e4 : σ' 4 r = σ 4 r := es 4 r (by omega) (by unfold inR; omega)
  have e5 : σ' 5 r = σ 5 r := es 5 r (by omega) (by unfold inR; omega)
  have e7 : σ' 7 r = σ 7 r := es 7 r (by omega) (by unfold inR; omega)
  refine ⟨⟨a0.to (fun j hj => em j (by omega)) e2 e5, aB.to (fun j _ _ => em j (by omega)) e3, aW.to (fun j _ _ => em j (by omega)) e4, fun c hc => ?_, aP.to (fun j _ _ => em j (by omega)) e7⟩, i0.to (fun j hj _ => em j (by omega)), iB.to (fun j _ _ => em j (by omega)), iW.to (fun j _ _ => em j (by omega)), fun c hc => ?_, fun b1 s1 b2 s2 c1 c2 c3 c4 => ?_, fun k hk => ?_⟩
  · obtain ⟨z1, z2, z3⟩ := aS c hc
    by_cases g : c = b
    · subst g
      refine ⟨by rw [em _ (by omega), es0]; exact z1, by rw [em _ (by omega), es1]; exact z2, fun s hs => ?_⟩
      by_cases g2 : s < n
      · rw [emw s g2, esw s g2]
      · rw [em _ (by omega), esz s (by omega) hs]; exact bey s (by omega) hs
    · rw [es 0 (5 * r + c) (by omega) (by unfold inR; omega), es 1 (5 * r + c) (by omega) (by unfold inR; omega), em (76 + 10 * c) (by omega), em (77 + 10 * c) (by omega)]
      exact ⟨z1, z2, fun s hs => by rw [em _ (by omega)]; exact z3 s hs⟩
  · obtain ⟨z1, ⟨n', n1, n2, n3, n4⟩, z3⟩ := iS c hc
    refine ⟨by rw [em _ (by omega)]; exact z1, ⟨n', n1, n2, by rw [em _ (by omega)]; exact n3, fun s h1 h2 => ?_⟩, fun s hs => ?_⟩
    · rw [cell c s hc h2]
      by_cases g : c = b ∧ s < n
      · obtain ⟨rfl, g2⟩ := g
        have : n = n' := (nI_eq (by omega) (by omega)).mp (en.symm.trans n3)
        omega
      · rw [if_neg g]; exact n4 s h1 h2
    · rw [cell c s hc hs]
      by_cases g : c = b ∧ s < n
      · rw [if_pos g]; exact hw s g.2
      · rw [if_neg g]; exact z3 s hs
  · rw [cell b1 s1 c1 c2, cell b2 s2 c3 c4]
    by_cases g1 : b1 = b ∧ s1 < n
    · rw [if_pos g1]
      by_cases g2 : b2 = b ∧ s2 < n
      · rw [if_pos g2]
        intro x1 x2
        exact ⟨g1.1.trans g2.1.symm, hu s1 s2 g1.2 g2.2 x1 x2⟩
      · rw [if_neg g2]
        intro x1 x2
        by_cases g3 : b2 = b
        · subst g3
          rw [bey s2 (by omega) c4] at x2
          exact absurd x2 x1
        · exact absurd x2.symm (ho s1 b2 s2 g1.2 x1 c3 c4 g3)
    · rw [if_neg g1]
      by_cases g2 : b2 = b ∧ s2 < n
      · rw [if_pos g2]
        intro x1 x2
        by_cases g3 : b1 = b
        · subst g3
          exact absurd (bey s1 (by omega) c2) x1
        · exact absurd x2 (ho s2 b1 s1 g2.2 (by rw [← x2]; exact x1) c1 c2 g3)
      · rw [if_neg g2]; exact iU b1 s1 b2 s2 c1 c2 c3 c4
  · rw [em _ (by omega)]; exact iP k hk
theorem ho_eq {σ : Mm} {r : Nat} {m : Nat → Int32} {nb k n : Nat} {w w' : Nat → Int32} (hr : RI σ r m nb) (h1 : 1 ≤ n) (hw : pvs w n) (e : ∀ j, j < n → w j = w' j) : hoB (σ 3 r) (σ 2 r 2) (σ 4 r) (σ 2 r 3) w k n = hoB (fun j => m (4 + j)) (m 0) (fun p => m (68 + p)) (m 1) w' k n := by
  rw [← hr.1.1.1, ← hr.1.1.2.1]
  exact hoB_congr h1 (fun j hj => (hr.1.2.1 j hj).symm) (fun p hp => (hr.1.2.2.1 p hp).symm) hw e
/-- in how many turns it holds -/
def tuF (H : Nat → Bool) : Nat → Nat
  | 0 => 0
  | t + 1 => if H t = true then tuF H t + 1 else tuF H t
theorem E_turns (x : Int32) {σ μ : Mm} (h : Rel σ μ) : f_X6_turns x σ (fun r σ' => f_X7_turns x μ (fun r' μ' => r' = r ∧ Rel σ' μ')) := by
  obtain ⟨nb, h5, hx, hy, hr⟩ := h.nbx
  unfold f_X6_turns
  rw [isBench_X hx h5]
  cases e2 : benchB x nb with
  | false =>
    rw [if_neg (by decide)]
    refine E_find0' h (fun r σ' hh => ?_)
    show f_X7_turns x μ _
    unfold f_X7_turns
    rw [isBench_Y hy h5, e2, if_neg (by decide)]
    exact hh
  | true =>
    rw [if_pos rfl]
    obtain ⟨b, hb, rfl⟩ := benchB_ex e2 (by omega)
    obtain ⟨k, n, hk, n1, n8, ek, en, fk, fn, z, zz⟩ := hr.ks hb
    rw [nI_clamp (by omega)]
    refine ⟨vp_in_nI (by omega) (by omega), by omega, ?_⟩
    have hv : pvs (σ 1 (5 * 0 + b)) n := hr.pvs hb n8
    let H : Nat → Bool := fun t => hoB (σ 3 0) (σ 2 0 2) (σ 4 0) (σ 2 0 3) (mvF (σ 1 (5 * 0 + b)) t n) k n
    have X : ∀ (K : Int32 → Mm → Prop), (∀ σ', (∀ t x, ¬ ((t = 0 ∨ t = 1) ∧ x = 15) → σ' t x = σ t x) → K (nI (tuF H n)) σ') → ∃ m, f_X6_turns_29 (5 * 0 + b) K m (0 : Int32) (0 : Int32) σ := by
      intro K hK
      have main : ∀ (d t : Nat) (σ' : Mm), t + d = n → (∀ t x, ¬ ((t = 0 ∨ t = 1) ∧ x = 15) → σ' t x = σ t x) → f_X6_turns_29 (5 * 0 + b) K (d + 1) (nI (tuF H t)) (nI t) σ' := by
        intro d
        induction d with
        | zero =>
          intro t σ' ht g
          have : t = n := by omega
          subst this
          rw [f_X6_turns_29, g 0 _ (by omega), fn, if_pos (nI_le (by omega) (by omega))]
          exact hK σ' g
        | succ d ih =>
          intro t σ' ht g
          rw [f_X6_turns_29, g 0 _ (by omega), fn, if_neg (nI_ge (by omega) (by omega))]
          refine moved_X (k := k) (n := n) (by omega) (by omega) (by omega) (by rw [g 0 _ (by omega)]; exact fk) (by rw [g 0 _ (by omega)]; exact fn) n1 n8 (by omega) (fun σ2 g1 g2 g3 g4 g5 => ?_)
          rw [g 1 _ (by omega)] at g4
          have g6 : ∀ t x, ¬ ((t = 0 ∨ t = 1) ∧ x = 15) → σ2 t x = σ t x := fun t x c => (g1 t x c).trans (g t x c)
          have ev := g4.ev n8 (by omega)
          have hv2 : pvs (σ2 1 15) n := fun j hj => by rw [ev j hj]; exact mvF_pv hv n8 (by omega) j hj
          refine holds_X (k := k) (n := n) (by omega) (by omega) hk g2 g3 n1 n8 hv2 ?_ ?_
          · rw [g6 3 0 (by omega), g6 2 0 (by omega), g6 4 0 (by omega)]; exact hr.pp
          · rw [g6 3 0 (by omega), g6 2 0 (by omega), g6 4 0 (by omega), hoB_congr n1 (fun _ _ => rfl) (fun _ _ => rfl) hv2 ev]
            have nx := ih (t + 1) σ2 (by omega) g6
            unfold tuF at nx
            show if H t = true then _ else _
            by_cases c : H t = true
            · rw [if_pos c] at nx ⊢
              rw [nI_1, nI_1]; exact nx
            · rw [if_neg c] at nx ⊢
              rw [nI_1]; exact nx
      exact ⟨n + 1, main n 0 σ (by omega) (fun _ _ _ => rfl)⟩
    refine X _ (fun σ' g => ?_)
    show f_X7_turns (nI b) μ _
    unfold f_X7_turns
    rw [isBench_Y hy h5, e2, if_pos rfl]
    have Y : ∀ (K : Int32 → Mm → Prop), (∀ μ', SY μ μ' → K (nI (tuF H n)) μ') → ∃ m, f_X7_turns_19 (nI b) K m (0 : Int32) (0 : Int32) μ := by
      intro K hK
      have main : ∀ (d t : Nat) (μ' : Mm), t + d = n → SY μ μ' → f_X7_turns_19 (nI b) K (d + 1) (nI (tuF H t)) (nI t) μ' := by
        intro d
        induction d with
        | zero =>
          intro t μ' ht g
          have : t = n := by omega
          subst this
          rw [f_X7_turns_19]
          refine seatsOf_Y (by omega) ?_
          rw [g.m, en, if_pos (nI_le (by omega) (by omega))]
          exact hK μ' g
        | succ d ih =>
          intro t μ' ht g
          rw [f_X7_turns_19]
          refine seatsOf_Y (by omega) ?_
          rw [g.m, en, if_neg (nI_ge (by omega) (by omega))]
          refine goesOn_Y (k := k) (n := n) (by omega) (by rw [g.m]; exact ek) (by rw [g.m]; exact en) n1 n8 (by omega) (fun μ2 g1 g2 g3 g4 => ?_)
          have ev := g4.ev n8 (by omega)
          have ev2 : ∀ j, j < n → mvF (σ 1 (5 * 0 + b)) t n j = μ2 5 0 j := by
            intro j hj
            rw [ev j hj]
            unfold mvF
            have q := (mod_sur n (by omega) t (by omega) j hj).1
            show _ = μ' 1 0 (78 + 10 * b + (j + 8 * n - t) % n)
            rw [g.m, (z _ (by omega)).1]
          have g6 : SY μ μ2 := g.tr g1
          have hv2 : pvs (μ2 5 0) n := fun j hj => by rw [← ev2 j hj]; exact mvF_pv hv n8 (by omega) j hj
          refine holdsNow_Y (k := k) (n := n) hk g2 g3 n1 n8 hv2 (by rw [g6.m]; exact hr.2.pp) ?_
          rw [g6.m, ← ho_eq hr n1 (mvF_pv hv n8 (by omega)) ev2]
          have nx := ih (t + 1) μ2 (by omega) g6
          unfold tuF at nx
          show if H t = true then _ else _
          by_cases c : H t = true
          · rw [if_pos c] at nx ⊢
            rw [nI_1, nI_1]; exact nx
          · rw [if_neg c] at nx ⊢
            rw [nI_1, i32_add0]; exact nx
      exact ⟨n + 1, main n 0 μ (by omega) SY.rf⟩
    exact Y _ (fun μ' hy' => ⟨rfl, h.scr (scr15 g) hy'.scr⟩)
theorem E_course (x c : Int32) {σ μ : Mm} (h : Rel σ μ) : f_X6_course x c σ (fun r σ' => f_X7_course x c μ (fun r' μ' => r' = r ∧ Rel σ' μ')) := by
  obtain ⟨nb, h5, hx, hy, hr⟩ := h.nbx
  unfold f_X6_course
  rw [isBench_X hx h5]
  cases e2 : benchB x nb with
  | false =>
    rw [if_neg (by decide)]
    refine E_find0' h (fun r σ' hh => ?_)
    show f_X7_course x c μ _
    unfold f_X7_course
    rw [isBench_Y hy h5, e2, if_neg (by decide)]
    exact hh
  | true =>
    rw [if_pos rfl, ite_inZ]
    obtain ⟨b, hb, rfl⟩ := benchB_ex e2 (by omega)
    cases e : inZ c (1 : Int32).toInt (7 : Int32).toInt with
    | false =>
      rw [if_neg (by decide)]
      refine E_find0' h (fun r σ' hh => ?_)
      show f_X7_course (nI b) c μ _
      unfold f_X7_course
      rw [isBench_Y hy h5, e2, if_pos rfl, in_inZ, show inZ c (1 : Int64).toInt (7 : Int64).toInt = false from e, if_neg (by decide)]
      exact hh
    | true =>
      rw [if_pos rfl]
      obtain ⟨t, ht1, ht, rfl⟩ := inZ_ex (lo := 1) (hi := 7) e (by omega)
      obtain ⟨k, n, hk, n1, n8, ek, en, fk, fn, z, zz⟩ := hr.ks hb
      rw [nI_clamp (by omega)]
      have hv : pvs (σ 1 (5 * 0 + b)) n := hr.pvs hb n8
      have tb : vp_in (nI b) 5 := vp_in_nI (by omega) (by omega)
      refine ⟨tb, by omega, moved_X (k := k) (n := n) (by omega) (by omega) (by omega) fk fn n1 n8 (by omega) (fun σ2 g1 g2 g3 g4 g5 => ⟨tb, become_X (by omega) (by omega) (by omega) ?_⟩)⟩
      have ev := g4.ev n8 (by omega)
      have hv2 : pvs (σ2 1 15) n := fun j hj => by rw [ev j hj]; exact mvF_pv hv n8 (by omega) j hj
      have b15 : ∀ t', bcp σ2 (5 * 0 + b) 15 t' 15 = σ2 t' 15 := fun t' => bcp_ne (by omega)
      have bo : ∀ t' i, ¬ ((t' = 0 ∨ t' = 1) ∧ i = 5 * 0 + b) → ¬ ((t' = 0 ∨ t' = 1) ∧ i = 15) → bcp σ2 (5 * 0 + b) 15 t' i = σ t' i := fun t' i c1 c2 => by rw [bcp_ne c1, g1 t' i c2]
      refine holds_X (k := k) (n := n) (by omega) (by omega) hk (by rw [b15]; exact g2) (by rw [b15]; exact g3) n1 n8 (by rw [b15]; exact hv2) ?_ ?_
      · rw [bo 3 0 (by omega) (by omega), bo 2 0 (by omega) (by omega), bo 4 0 (by omega) (by omega)]; exact hr.pp
      · rw [bo 3 0 (by omega) (by omega), bo 2 0 (by omega) (by omega), bo 4 0 (by omega) (by omega), b15, hoB_congr n1 (fun _ _ => rfl) (fun _ _ => rfl) hv2 ev]
        refine K_b2 (K := fun r σ' => f_X7_course (nI b) (nI t) μ (fun r' μ' => r' = r ∧ Rel σ' μ')) ?_
        show f_X7_course (nI b) (nI t) μ _
        unfold f_X7_course
        rw [isBench_Y hy h5, e2, if_pos rfl, in_inZ, show inZ (nI t) (1 : Int64).toInt (7 : Int64).toInt = true from e, if_pos rfl]
        refine goesOn_Y (k := k) (n := n) (by omega) ek en n1 n8 (by omega) (fun μ2 k1 k2 k3 k4 => lays_Y (n := n) (by omega) k3 n8 (fun μ3 l1 l2 l3 => ?_))
        have ev' := k4.ev n8 (by omega)
        have ev2 : ∀ j, j < n → mvF (σ 1 (5 * 0 + b)) t n j = μ2 5 0 j := by
          intro j hj
          rw [ev' j hj]
          unfold mvF
          have q := (mod_sur n (by omega) t (by omega) j hj).1
          show _ = μ 1 0 (78 + 10 * b + (j + 8 * n - t) % n)
          rw [(z _ (by omega)).1]
        have hvm := mvF_pv hv n8 (show t ≤ 8 by omega)
        have src : ∀ j, j < n → ∃ i, i < n ∧ mvF (σ 1 (5 * 0 + b)) t n j = μ 1 0 (78 + 10 * b + i) := by
          intro j hj
          have q := (mod_sur n (by omega) t (by omega) j hj).1
          exact ⟨_, q, ((z _ (by omega)).1).symm⟩
        have hI : RI (bcp σ2 (5 * 0 + b) 15) 0 (μ3 1 0) nb := by
          refine hr.row (b := b) (n := n) (w := mvF (σ 1 (5 * 0 + b)) t n) hb en n8 hvm ?_ ?_ ?_ ?_ ?_ ?_ ?_ ?_ ?_
          · intro j j' hj hj' hne e1
            have q := mod_sur n (by omega) t (by omega) j hj
            have q' := mod_sur n (by omega) t (by omega) j' hj'
            unfold mvF at hne e1
            rw [← (z _ (by omega)).1] at hne
            rw [← (z _ (show (j + 8 * n - t) % n < 8 by omega)).1, ← (z _ (show (j' + 8 * n - t) % n < 8 by omega)).1] at e1
            have := (hr.2.2.2.2.2.1 b _ b _ hb (by omega) hb (by omega) hne e1).2
            rw [← q.2, ← q'.2, this]
          · intro j b' s' hj hne hb' hs' hnb e1
            obtain ⟨i, hi, e3⟩ := src j hj
            rw [e3] at hne e1
            have := (hr.2.2.2.2.2.1 b i b' s' hb (by omega) hb' hs' hne e1.symm).1
            exact hnb this.symm
          · intro j hj
            rw [l2 j hj, k1.m]
          · intro j hj
            rw [l1 j hj, ev2 j hj]
          · intro t' i c1 c2
            exact bo t' i c1 (by unfold inR at c2; omega)
          · rw [(bcp_0 (σ := σ2) (i := 5 * 0 + b) (j := 15)).1, g2, fk]
          · rw [(bcp_0 (σ := σ2) (i := 5 * 0 + b) (j := 15)).2, g3, fn]
          · intro j hj
            rw [bcp_1 (by omega), ev j hj]
          · intro j hj hj8
            rw [bcp_1 hj8, g5 j hj hj8]
        have hv3 : pvs (μ3 5 0) n := fun j hj => by rw [l3 5 0 (by omega), ← ev2 j hj]; exact hvm j hj
        refine holdsNow_Y (k := k) (n := n) hk (by rw [l3 0 0 (by omega)]; exact k2) (by rw [l3 0 0 (by omega)]; exact k3) n1 n8 hv3 hI.2.pp ?_
        rw [← ho_eq hI n1 hvm (fun j hj => by rw [l3 5 0 (by omega)]; exact ev2 j hj), bo 3 0 (by omega) (by omega), bo 2 0 (by omega) (by omega), bo 4 0 (by omega) (by omega)]
        refine K_b2 (K := fun r' μ' => r' = _ ∧ Rel _ μ') ⟨rfl, h.out (nb := nb) ⟨fun t' i c1 c2 c3 => bo t' i (by omega) (by omega), fun t' c1 => bo t' 1 (by omega) (by omega), fun t' i c1 => bo t' i (by omega) (by omega), by rw [bo 8 0 (by omega) (by omega)], by rw [bo 9 0 (by omega) (by omega)]⟩ ⟨fun t' c1 => by rw [l3 t' 0 (by omega), k1.1 t' 0 (by omega)], by rw [l3 0 0 (by omega), k1.2 3 (by omega) (by omega)], by rw [l3 0 0 (by omega), k1.2 12 (by omega) (by omega)]⟩ hI⟩
