/-! PURE: shows -/
def exR (P : Nat → Bool) : Nat → Nat → Bool
  | 0, _ => false
  | d + 1, s => P s || exR P d (s + 1)
theorem exR_iff {P : Nat → Bool} : ∀ d s, exR P d s = true ↔ ∃ j, s ≤ j ∧ j < s + d ∧ P j = true := by
  intro d
  induction d with
  | zero => intro s; exact ⟨fun h => by simp [exR] at h, fun ⟨j, a, b, _⟩ => by omega⟩
  | succ d ih =>
    intro s
    unfold exR
    rw [Bool.or_eq_true, ih (s + 1)]
    constructor
    · rintro (h | ⟨j, a, b, c⟩)
      · exact ⟨s, by omega, by omega, h⟩
      · exact ⟨j, by omega, by omega, c⟩
    · rintro ⟨j, a, b, c⟩
      by_cases e : j = s
      · subst e; exact Or.inl c
      · exact Or.inr ⟨j, by omega, by omega, c⟩
/-- at this seat sits one between these two -/
def btw (v : Nat → Int32) (k n p q s : Nat) : Bool := !decide (v s = -1) && ((decide (nbK v k n s true = nI p) && decide (nbK v k n s false = nI q)) || (decide (nbK v k n s true = nI q) && decide (nbK v k n s false = nI p)))
theorem between_X {i k n p q : Nat} {σ : Mm} {K : Bool → Mm → Prop} (hi : i < 17) (hk : k < 7) (ek : σ 0 i 0 = nI k) (en : σ 0 i 1 = nI n) (h1 : 1 ≤ n) (h8 : n ≤ 8) (h : K (exR (btw (σ 1 i) k n p q) n 0) σ) : f_X0_hasBetween i (nI p) (nI q) σ K := by
  have main : ∀ (d s : Nat), s + d = n → K (exR (btw (σ 1 i) k n p q) d s) σ → f_X0_hasBetween_2 i (nI p) (nI q) K (d + 1) (nI s) σ := by
    intro d
    induction d with
    | zero =>
      intro s hs hK
      rw [f_X0_hasBetween_2, en, if_pos (nI_le (by omega) (by omega))]
      exact hK
    | succ d ih =>
      intro s hs hK
      rw [f_X0_hasBetween_2, en, if_neg (nI_ge (by omega) (by omega)), nI_clamp (by omega), nI_1]
      refine ⟨vp_in_nI (by omega) (by omega), ?_⟩
      unfold exR btw at hK
      by_cases c : σ 1 i s = -1
      · rw [if_pos c]
        rw [decide_eq_true c, Bool.not_true, Bool.false_and, Bool.false_or] at hK
        exact ih (s + 1) (by omega) hK
      · rw [if_neg c]
        rw [decide_eq_false c, Bool.not_false, Bool.true_and] at hK
        refine nb_X (left := true) hi hk ek en h1 h8 (by omega) (nb_X (left := false) hi hk ek en h1 h8 (by omega) ?_)
        generalize nbK (σ 1 i) k n s true = l at hK ⊢
        generalize nbK (σ 1 i) k n s false = r at hK ⊢
        have e48 : (if l = nI q ∧ r = nI p then K true σ else f_X0_hasBetween_2 i (nI p) (nI q) K (d + 1) (nI (s + 1)) σ) → f_X0_hasBetween_48 i (nI p) (nI q) (nI s) l r K (f_X0_hasBetween_2 i (nI p) (nI q) K (d + 1)) σ := by
          intro g
          unfold f_X0_hasBetween_48
          rw [nI_1]
          by_cases a1 : l = nI q
          · rw [if_pos a1]
            by_cases a2 : r = nI p
            · rw [if_pos ⟨a1, a2⟩] at g; rw [if_pos a2]; exact g
            · rw [if_neg (fun x => a2 x.2)] at g; rw [if_neg a2]; exact g
          · rw [if_neg (fun x => a1 x.1)] at g; rw [if_neg a1]; exact g
        by_cases b1 : l = nI p ∧ r = nI q
        · rw [if_pos b1.1, if_pos b1.2]
          rw [decide_eq_true b1.1, decide_eq_true b1.2, Bool.and_self, Bool.true_or, Bool.true_or] at hK
          exact hK
        · have f1 : (decide (l = nI p) && decide (r = nI q)) = false := by
            cases g : (decide (l = nI p) && decide (r = nI q)) with
            | false => rfl
            | true =>
              have := (Bool.and_eq_true _ _).mp g
              exact absurd ⟨of_decide_eq_true this.1, of_decide_eq_true this.2⟩ b1
          rw [f1, Bool.false_or] at hK
          have fin : f_X0_hasBetween_48 i (nI p) (nI q) (nI s) l r K (f_X0_hasBetween_2 i (nI p) (nI q) K (d + 1)) σ := by
            refine e48 ?_
            by_cases b2 : l = nI q ∧ r = nI p
            · rw [if_pos b2]
              rw [decide_eq_true b2.1, decide_eq_true b2.2, Bool.and_self, Bool.true_or] at hK
              exact hK
            · rw [if_neg b2]
              have f2 : (decide (l = nI q) && decide (r = nI p)) = false := by
                cases g : (decide (l = nI q) && decide (r = nI p)) with
                | false => rfl
                | true =>
                  have := (Bool.and_eq_true _ _).mp g
                  exact absurd ⟨of_decide_eq_true this.1, of_decide_eq_true this.2⟩ b2
              rw [f2, Bool.false_or] at hK
              exact ih (s + 1) (by omega) hK
          by_cases a1 : l = nI p
          · rw [if_pos a1, if_neg (fun x => b1 ⟨a1, x⟩)]; exact fin
          · rw [if_neg a1]; exact fin
  exact ⟨hi, n + 1, main n 0 (by omega) h⟩
theorem shows_X {i k n : Nat} {σ : Mm} {K : Int32 → Mm → Prop} (hi : i < 17) (hk : k < 7) (ek : σ 0 i 0 = nI k) (en : σ 0 i 1 = nI n) (h1 : 1 ≤ n) (h8 : n ≤ 8) {P : Nat → Nat → Bool} (hP : ∀ p q, P p q = (decide (p < q) && exR (btw (σ 1 i) k n p q) n 0)) (h : K (nI (suN (fun p => coF (P p) 8) 8)) σ) : ∃ m, f_X6_shows_49 i K m (0 : Int32) (0 : Int32) σ := by
  have zero : ∀ p j, j ≤ p + 1 → coF (P p) j = 0 := by
    intro p j
    induction j with
    | zero => intro _; rfl
    | succ j ih =>
      intro hj
      rw [coF, if_neg (by rw [hP, decide_eq_false (by omega), Bool.false_and]; decide)]
      exact ih (by omega)
  have inner : ∀ (p A : Nat) (k89 : Int32 → Mm → Prop), p < 8 → k89 (nI (A + coF (P p) 8)) σ → ∀ (d q : Nat), q + d = 8 → p < q → f_X6_shows_62 i (nI p) K k89 (d + 1) (nI (A + coF (P p) q)) (nI q) σ := by
    intro p A k89 hp hK d
    induction d with
    | zero =>
      intro q hq hpq
      have : q = 8 := by omega
      subst this
      rw [f_X6_shows_62, if_pos (by decide)]
      exact hK
    | succ d ih =>
      intro q hq hpq
      have nx := ih (q + 1) (by omega) (by omega)
      rw [f_X6_shows_62, if_neg (show ¬ (8 : Int32) ≤ nI q from nI_ge (a := q) (b := 8) (by omega) (by omega)), nI_1, nI_1]
      refine between_X hi hk ek en h1 h8 ?_
      rw [coF, hP p q, decide_eq_true hpq, Bool.true_and] at nx
      cases e : exR (btw (σ 1 i) k n p q) n 0 with
      | true => rw [e, if_pos rfl] at nx; exact itt nx
      | false => rw [e, if_neg (by decide)] at nx; exact itf nx
  have main : ∀ (d p : Nat), p + d = 8 → f_X6_shows_49 i K (d + 1) (nI (suN (fun p => coF (P p) 8) p)) (nI p) σ := by
    intro d
    induction d with
    | zero =>
      intro p hp
      have : p = 8 := by omega
      subst this
      rw [f_X6_shows_49, if_pos (by decide)]
      exact h
    | succ d ih =>
      intro p hp
      have nx := ih (p + 1) (by omega)
      rw [f_X6_shows_49, if_neg (show ¬ (8 : Int32) ≤ nI p from nI_ge (a := p) (b := 8) (by omega) (by omega)), nI_1]
      have := inner p (suN (fun p => coF (P p) 8) p) (fun a3x9 σ9 => (f_X6_shows_49 i K (d + 1) a3x9 (nI (p + 1)) σ9)) (by omega) nx d (p + 1) (by omega) (by omega)
      rw [zero p (p + 1) (by omega), Nat.add_zero] at this
      exact ⟨d + 1, this⟩
  exact ⟨9, main 8 0 (by omega)⟩
/-- the bits of the reference's set of pairs -/
theorem bits_Y {N : Nat} (hN : N < 2 ^ 64) {μ : Mm} {K : Int32 → Mm → Prop} (h : K (nI (coF (fun j => N.testBit j) 64)) μ) : ∃ m, f_X7_shows_135 (lN N) K m (0 : Int32) (0 : Int32) μ := by
  have main : ∀ (d j : Nat), j + d = 64 → f_X7_shows_135 (lN N) K (d + 1) (nI (coF (fun j => N.testBit j) j)) (nI j) μ := by
    intro d
    induction d with
    | zero =>
      intro j hj
      have : j = 64 := by omega
      subst this
      rw [f_X7_shows_135, if_pos (by decide)]
      exact h
    | succ d ih =>
      intro j hj
      have nx := ih (j + 1) (by omega)
      rw [f_X7_shows_135, if_neg (show ¬ (64 : Int32) ≤ nI j from nI_ge (a := j) (b := 64) (by omega) (by omega)), nI_1, wb_bit hN (by omega)]
      rw [coF] at nx
      have et : N.testBit j = decide (N / 2 ^ j % 2 = 1) := Nat.testBit_eq_decide_div_mod_eq
      have l2 : N / 2 ^ j % 2 < 2 := Nat.mod_lt _ (by omega)
      by_cases c : N / 2 ^ j % 2 = 1
      · rw [et, decide_eq_true c, if_pos rfl] at nx
        rw [c, show (lN 1).toInt32 = 1 by decide, nI_1]
        exact nx
      · rw [et, decide_eq_false c, if_neg (by decide)] at nx
        rw [show N / 2 ^ j % 2 = 0 by omega, show (lN 0).toInt32 = 0 by decide, i32_add0]
        exact nx
  exact ⟨65, main 64 0 (by omega)⟩
theorem bit_or {N x : Nat} (hN : N < 2 ^ 64) (hx : x < 64) : lN N ||| ((1 : Int64) <<< ((nI x).toInt64 &&& 63)) = lN (N ||| 2 ^ x) := by
  have e : (1 : Int64) <<< ((nI x).toInt64 &&& 63) = lN (1 * 2 ^ x) := wb_shl 1 hx
  rw [e, Nat.one_mul, wb_or hN (wb_lt2 hx)]
theorem set_Y {k n : Nat} {v : Nat → Int32} {μ : Mm} {K : Int32 → Mm → Prop} {k129 : Int64 → Mm → Prop} (hk : k < 7) (ek : μ 0 0 6 = nI k) (en : μ 0 0 7 = nI n) (h1 : 1 ≤ n) (h8 : n ≤ 8) (hv : pvs (μ 5 0) n) (e5 : ∀ j, j < n → μ 5 0 j = v j) (hvv : pvs v n) (h : ∀ N, N < 2 ^ 64 → (∀ p q, p < 8 → q < 8 → N.testBit (8 * p + q) = (decide (p < q) && exR (btw v k n p q) n 0)) → k129 (lN N) μ) : ∃ m, f_X7_shows_35 K k129 m (0 : Int64) (0 : Int32) μ := by
  have nbv : ∀ s left, s < n → nbK (μ 5 0) k n s left = nbK v k n s left := fun s left hs => nbK_congr h1 hs e5
  have main : ∀ (d s N : Nat), s + d = n → N < 2 ^ 64 → (∀ p q, p < 8 → q < 8 → N.testBit (8 * p + q) = (decide (p < q) && exR (btw v k n p q) s 0)) → f_X7_shows_35 K k129 (d + 1) (lN N) (nI s) μ := by
    intro d
    induction d with
    | zero =>
      intro s N hs hN hb
      have : s = n := by omega
      subst this
      rw [f_X7_shows_35, en, if_pos (nI_le (by omega) (by omega))]
      exact h N hN hb
    | succ d ih =>
      intro s N hs hN hb
      rw [f_X7_shows_35, en, if_neg (nI_ge (by omega) (by omega)), nI_clamp (by omega), nI_1]
      refine ⟨vp_in_nI (by omega) (by omega), ?_⟩
      have exS : ∀ p q, exR (btw v k n p q) (s + 1) 0 = (exR (btw v k n p q) s 0 || btw v k n p q s) := by
        intro p q
        apply Bool.eq_iff_iff.mpr
        rw [Bool.or_eq_true, exR_iff, exR_iff]
        constructor
        · rintro ⟨j, a, b, c⟩
          by_cases g : j = s
          · subst g; exact Or.inr c
          · exact Or.inl ⟨j, a, by omega, c⟩
        · rintro (⟨j, a, b, c⟩ | c)
          · exact ⟨j, a, by omega, c⟩
          · exact ⟨s, by omega, by omega, c⟩
      have skip : (∀ p q, p < 8 → q < 8 → p < q → btw v k n p q s = false) → f_X7_shows_35 K k129 (d + 1) (lN N) (nI (s + 1)) μ := by
        intro g
        refine ih (s + 1) N (by omega) hN (fun p q hp hq => ?_)
        rw [hb p q hp hq, exS]
        by_cases c : p < q
        · rw [g p q hp hq c, Bool.or_false]
        · rw [decide_eq_false c, Bool.false_and, Bool.false_and]
      have add : ∀ x y, x < 8 → y < 8 → x < y → (∀ p q, p < 8 → q < 8 → p < q → btw v k n p q s = decide (p = x ∧ q = y)) → f_X7_shows_35 K k129 (d + 1) (lN (N ||| 2 ^ (8 * x + y))) (nI (s + 1)) μ := by
        intro x y hx hy hxy g
        refine ih (s + 1) _ (by omega) (Nat.or_lt_two_pow hN (wb_lt2 (by omega))) (fun p q hp hq => ?_)
        rw [Nat.testBit_or, hb p q hp hq, exS, Nat.testBit_two_pow]
        by_cases c : p < q
        · rw [g p q hp hq c, decide_eq_true c, Bool.true_and, Bool.true_and]
          congr 1
          exact decide_eq_decide.mpr (by omega)
        · rw [decide_eq_false c, Bool.false_and, Bool.false_and, Bool.false_or]
          exact decide_eq_false (by omega)
      by_cases c : μ 5 0 s = -1
      · rw [if_neg (fun g => (pv_neg (hv s (by omega))).2.mp g c)]
        refine skip (fun p q _ _ _ => ?_)
        unfold btw
        rw [← e5 s (by omega), decide_eq_true c]; rfl
      · rw [if_pos ((pv_neg (hv s (by omega))).2.mpr c)]
        refine besideOf_Y (left := true) hk ek en h1 h8 (by omega) hv (besideOf_Y (left := false) hk ek en h1 h8 (by omega) hv ?_)
        rw [nbv s true (by omega), nbv s false (by omega)]
        have pl : pv (nbK v k n s true) := nbK_pv h1 (by omega) hvv
        have pr : pv (nbK v k n s false) := nbK_pv h1 (by omega) hvv
        have bw : ∀ p q, btw v k n p q s = ((decide (nbK v k n s true = nI p) && decide (nbK v k n s false = nI q)) || (decide (nbK v k n s true = nI q) && decide (nbK v k n s false = nI p))) := by
          intro p q
          unfold btw
          rw [← e5 s (by omega), decide_eq_false c]; rfl
        generalize nbK v k n s true = l at pl bw ⊢
        generalize nbK v k n s false = r at pr bw ⊢
        rcases pl with rfl | ⟨x, hx, rfl⟩
        · rw [if_pos (by decide)]
          refine skip (fun p q hp hq _ => ?_)
          rw [bw, decide_eq_false (p := (-1 : Int32) = nI p) (fun g => nI_ne_m1 (n := p) (by omega) g.symm), decide_eq_false (p := (-1 : Int32) = nI q) (fun g => nI_ne_m1 (n := q) (by omega) g.symm), Bool.false_and, Bool.false_and]; rfl
        · rw [if_neg (nI_pos (by omega))]
          rcases pr with rfl | ⟨y, hy, rfl⟩
          · rw [if_pos (by decide)]
            refine skip (fun p q hp hq _ => ?_)
            rw [bw, decide_eq_false (p := (-1 : Int32) = nI q) (fun g => nI_ne_m1 (n := q) (by omega) g.symm), decide_eq_false (p := (-1 : Int32) = nI p) (fun g => nI_ne_m1 (n := p) (by omega) g.symm), Bool.and_false, Bool.and_false]; rfl
          · rw [if_neg (nI_pos (by omega))]
            have ev : ∀ a b, a < 8 → b < 8 → decide (nI a = nI b) = decide (a = b) := fun a b ha hb' => decide_eq_decide.mpr (nI_eq (by omega) (by omega))
            by_cases cxy : x = y
            · subst cxy
              rw [if_pos rfl]
              refine skip (fun p q hp hq hpq => ?_)
              rw [bw, ev x p hx hp, ev x q hx hq]
              by_cases g : x = p
              · rw [decide_eq_false (p := x = q) (by omega), Bool.and_false, Bool.false_and]; rfl
              · rw [decide_eq_false g, Bool.false_and, Bool.and_false]; rfl
            · rw [if_neg (fun g => cxy ((nI_eq (by omega) (by omega)).mp g))]
              by_cases cle : y ≤ x
              · rw [if_pos (nI_le cle (by omega)), show ((8 : Int32) * nI y) + nI x = nI (8 * y + x) by simp only [i32_lit, pk_mul, nI_add], bit_or hN (by omega)]
                refine add y x hy hx (by omega) (fun p q hp hq hpq => ?_)
                rw [bw, ev x p hx hp, ev y q hy hq, ev x q hx hq, ev y p hy hp]
                apply Bool.eq_iff_iff.mpr
                simp only [Bool.or_eq_true, Bool.and_eq_true, decide_eq_true_eq]
                omega
              · rw [if_neg (nI_ge (by omega) (by omega)), show ((8 : Int32) * nI x) + nI y = nI (8 * x + y) by simp only [i32_lit, pk_mul, nI_add], bit_or hN (by omega)]
                refine add x y hx hy (by omega) (fun p q hp hq hpq => ?_)
                rw [bw, ev x p hx hp, ev y q hy hq, ev x q hx hq, ev y p hy hp]
                apply Bool.eq_iff_iff.mpr
                simp only [Bool.or_eq_true, Bool.and_eq_true, decide_eq_true_eq]
                omega
  exact ⟨n + 1, main n 0 0 (by omega) (by omega) (fun p q _ _ => by rw [Nat.zero_testBit]; simp [exR])⟩
theorem E_shows (x : Int32) {σ μ : Mm} (h : Rel σ μ) : f_X6_shows x σ (fun r σ' => f_X7_shows x μ (fun r' μ' => r' = r ∧ Rel σ' μ')) := by
  obtain ⟨nb, h5, hx, hy, hr⟩ := h.nbx
  unfold f_X6_shows
  rw [isBench_X hx h5]
  cases e2 : benchB x nb with
  | false =>
    rw [if_neg (by decide)]
    refine E_find0' h (fun r σ' hh => ?_)
    show f_X7_shows x μ _
    unfold f_X7_shows
    rw [isBench_Y hy h5, e2, if_neg (by decide)]
    exact hh
  | true =>
    rw [if_pos rfl]
    obtain ⟨b, hb, rfl⟩ := benchB_ex e2 (by omega)
    obtain ⟨k, n, hk, n1, n8, ek, en, fk, fn, z, zz⟩ := hr.ks hb
    have hv : pvs (σ 1 (5 * 0 + b)) n := hr.pvs hb n8
    rw [nI_clamp (by omega)]
    refine ⟨vp_in_nI (by omega) (by omega), by omega, holds_X (by omega) (by omega) hk fk fn n1 n8 hv hr.pp ?_⟩
    have Y : ∀ {G : Int32 → Mm → Prop}, (∀ μ', Look μ b k n μ' → if hoB (σ 3 0) (σ 2 0 2) (σ 4 0) (σ 2 0 3) (σ 1 (5 * 0 + b)) k n = true then (∃ m, f_X7_shows_35 G (fun a2x10 σ10 => (∃ m, f_X7_shows_135 a2x10 G m (0 : Int32) (0 : Int32) σ10)) m (0 : Int64) (0 : Int32) μ') else (f_X7_finds (-1000005 : Int32) μ' (fun r12 σ11 => (G r12 σ11)))) → f_X7_shows (nI b) μ G := by
      intro G hG
      unfold f_X7_shows
      rw [isBench_Y hy h5, e2, if_pos rfl]
      exact holds_Y hr hb hk ek en n1 n8 (fun μ' hl => hG μ' hl)
    cases eH : hoB (σ 3 0) (σ 2 0 2) (σ 4 0) (σ 2 0 3) (σ 1 (5 * 0 + b)) k n with
    | false =>
      refine itf (find_X (w := 4) (by decide) rfl (Y (fun μ' hl => ?_)))
      rw [eH]
      exact itf (find_Y (w := 4) (by decide) (by decide) ⟨rfl, (h.scr Scr.rf hl.scr).find (by decide)⟩)
    | true =>
      refine itt (shows_X (by omega) hk fk fn n1 n8 (fun _ _ => rfl) (Y (fun μ' hl => ?_)))
      rw [eH]
      refine itt (set_Y (k := k) (n := n) (v := σ 1 (5 * 0 + b)) hk hl.1 hl.2.1 n1 n8 (hl.pvs hr hb n8) (fun j hj => by rw [hl.2.2.1 j hj]; exact (z j (by omega)).1) hv (fun N hN hb' => bits_Y hN ⟨?_, h.scr Scr.rf hl.scr⟩))
      congr 1
      rw [show (64 : Nat) = 8 * 8 from rfl, coF_64]
      exact suN_congr 8 (fun p hp => coF_congr 8 (fun q hq => hb' p q hp hq))
