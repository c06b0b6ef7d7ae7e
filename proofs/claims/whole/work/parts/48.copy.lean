/-! PURE: copy -/
theorem sub_toInt {a b : Nat} (ha : a < 2 ^ 31) (hb : b < 2 ^ 31) : (nI a - nI b).toInt = (a : Int) - b := by
  rw [Int32.toInt_sub, nI_toInt ha, nI_toInt hb]
  unfold Int.bmod
  dsimp only
  split <;> omega
theorem part_X {s n f z : Nat} (hs : s < 4) {σ : Mm} {K : Bool → Mm → Prop} (hn : n ≤ 40) (e : σ 13 s 1 = nI n) (hf : f < 2 ^ 31) (hz : z < 2 ^ 31) : f_X4_hasPart s (nI f) (nI z) σ K = K (decide (f + z ≤ n)) σ := by
  unfold f_X4_hasPart
  rw [if_neg (nI_pos hf), if_neg (nI_pos hz), e]
  have c : (nI n - nI z < nI f) ↔ ¬ (f + z ≤ n) := by
    rw [Int32.lt_iff_toInt_lt, sub_toInt (by omega) hz, nI_toInt hf]
    omega
  simp only [hs, true_and, c]
  by_cases d : f + z ≤ n <;> simp [d]
/-- the reference's numbers behind a copy -/
def cpN (f : Nat → Int32) (s t p q z : Nat) : Nat → Int32 := fun k => if 40 * t + q ≤ k ∧ k < 40 * t + q + z then f (40 * s + p + (k - (40 * t + q))) else f k
theorem copy_up {s t p q z : Nat} (hs : s < 4) (ht : t < 4) (hp : p + z ≤ 40) (hq : q + z ≤ 40) (hne : s ≠ t ∨ q ≤ p) {μ : Mm} {K : Int32 → Mm → Prop} (h : ∀ μ', (∀ k, μ' 12 0 k = cpN (μ 12 0) s t p q z k) → (∀ x i, ¬ (x = 12 ∧ i = 0) → μ' x i = μ x i) → K (nI z) μ') : f_X7_copy_134 (nI s) (nI p) (nI t) (nI q) (nI z) (0 : Int32) K μ := by
  have main : ∀ (d j : Nat) (ν : Mm), j + d = z → (∀ k, ν 12 0 k = cpN (μ 12 0) s t p q j k) → (∀ x i, ¬ (x = 12 ∧ i = 0) → ν x i = μ x i) → f_X7_copy_139 (nI s) (nI p) (nI t) (nI q) (nI z) (0 : Int32) K (d + 1) (nI j) ν := by
    intro d
    induction d with
    | zero =>
      intro j ν hj h1 h2
      have : j = z := by omega
      subst this
      rw [f_X7_copy_139, if_pos (nI_le (by omega) (by omega))]; exact h ν h1 h2
    | succ d ih =>
      intro j ν hj h1 h2
      rw [f_X7_copy_139, if_neg (nI_ge (by omega) (by omega)), if_pos rfl]
      unfold f_X7_copy_163
      have e1 : (((40 : Int32) * nI s) + nI p) + nI j = nI (40 * s + p + j) := by simp only [i32_lit, pk_mul, nI_add]
      have e2 : (((40 : Int32) * nI t) + nI q) + nI j = nI (40 * t + q + j) := by simp only [i32_lit, pk_mul, nI_add]
      rw [e1, e2, nI_clamp (by omega), nI_clamp (by omega), nI_1]
      refine ⟨vp_in_nI (by omega) (by omega), vp_in_nI (by omega) (by omega), _, rfl, ih (j + 1) _ (by omega) (fun k => ?_) (fun x i hx => by rw [mset_ne hx]; exact h2 x i hx)⟩
      rw [mset_ap]
      unfold cpN
      by_cases c : k = 40 * t + q + j
      · rw [if_pos ⟨rfl, rfl, c⟩, if_pos (by omega), h1]
        unfold cpN
        rw [if_neg (by omega)]
        congr 1
        omega
      · rw [if_neg (by omega), h1]
        unfold cpN
        by_cases c2 : 40 * t + q ≤ k ∧ k < 40 * t + q + j
        · rw [if_pos c2, if_pos (by omega)]
        · rw [if_neg c2, if_neg (by omega)]
  refine ⟨z + 1, main z 0 μ (by omega) (fun k => ?_) (fun _ _ _ => rfl)⟩
  unfold cpN
  rw [if_neg (by omega)]
theorem copy_down {s p q z : Nat} (hs : s < 4) (hp : p + z ≤ 40) (hq : q + z ≤ 40) (hlt : p < q) {μ : Mm} {K : Int32 → Mm → Prop} (h : ∀ μ', (∀ k, μ' 12 0 k = cpN (μ 12 0) s s p q z k) → (∀ x i, ¬ (x = 12 ∧ i = 0) → μ' x i = μ x i) → K (nI z) μ') : f_X7_copy_134 (nI s) (nI p) (nI s) (nI q) (nI z) (1 : Int32) K μ := by
  have main : ∀ (d j : Nat) (ν : Mm), j + d = z → (∀ k, ν 12 0 k = if 40 * s + q + (z - j) ≤ k ∧ k < 40 * s + q + z then μ 12 0 (40 * s + p + (k - (40 * s + q))) else μ 12 0 k) → (∀ x i, ¬ (x = 12 ∧ i = 0) → ν x i = μ x i) → f_X7_copy_139 (nI s) (nI p) (nI s) (nI q) (nI z) (1 : Int32) K (d + 1) (nI j) ν := by
    intro d
    induction d with
    | zero =>
      intro j ν hj h1 h2
      have : j = z := by omega
      subst this
      rw [f_X7_copy_139, if_pos (nI_le (by omega) (by omega))]
      refine h ν (fun k => ?_) h2
      rw [h1]
      unfold cpN
      rw [Nat.sub_self, Nat.add_zero]
    | succ d ih =>
      intro j ν hj h1 h2
      rw [f_X7_copy_139, if_neg (nI_ge (by omega) (by omega)), if_neg (by decide)]
      unfold f_X7_copy_163
      have e0 : (nI z - 1) - nI j = nI (z - 1 - j) := by
        rw [show (1 : Int32) = nI 1 from rfl, pk_sub (by omega), pk_sub (by omega)]
      have e1 : (((40 : Int32) * nI s) + nI p) + nI (z - 1 - j) = nI (40 * s + p + (z - 1 - j)) := by simp only [i32_lit, pk_mul, nI_add]
      have e2 : (((40 : Int32) * nI s) + nI q) + nI (z - 1 - j) = nI (40 * s + q + (z - 1 - j)) := by simp only [i32_lit, pk_mul, nI_add]
      rw [e0, e1, e2, nI_clamp (by omega), nI_clamp (by omega), nI_1]
      refine ⟨vp_in_nI (by omega) (by omega), vp_in_nI (by omega) (by omega), _, rfl, ih (j + 1) _ (by omega) (fun k => ?_) (fun x i hx => by rw [mset_ne hx]; exact h2 x i hx)⟩
      rw [mset_ap]
      by_cases c : k = 40 * s + q + (z - 1 - j)
      · rw [if_pos ⟨rfl, rfl, c⟩, if_pos (by omega), h1, if_neg (by omega)]
        congr 1
        omega
      · rw [if_neg (by omega), h1]
        by_cases c2 : 40 * s + q + (z - j) ≤ k ∧ k < 40 * s + q + z
        · rw [if_pos c2, if_pos (by omega)]
        · rw [if_neg c2, if_neg (by omega)]
  refine ⟨z + 1, main z 0 μ (by omega) (fun k => ?_) (fun _ _ _ => rfl)⟩
  rw [if_neg (by omega)]
theorem RH.copy {σ μ μ' : Mm} (h : RH σ μ) {s t p q z : Nat} (hs : s < 4) (ht : t < 4) (hp : p + z ≤ 40) (hq : q + z ≤ 40) (h1 : ∀ k, μ' 12 0 k = cpN (μ 12 0) s t p q z k) (h2 : ∀ x i, ¬ (x = 12 ∧ i = 0) → μ' x i = μ x i) : RH (mrow σ 14 t (va_cpy (σ 14 s) (σ 14 t) p q z)) μ' := by
  intro r hr
  obtain ⟨⟨x1, x2⟩, ⟨n, z1, z2, z3⟩, x3⟩ := h r hr
  obtain ⟨-, -, y3⟩ := h s hs
  refine ⟨⟨by rw [mrow_ne _ _ (by omega), h2 _ _ (by omega)]; exact x1, by rw [mrow_ne _ _ (by omega)]; exact x2⟩, ⟨n, z1, by rw [mrow_ne _ _ (by omega)]; exact z2, by rw [h2 _ _ (by omega)]; exact z3⟩, fun k hk => ?_⟩
  rw [h1]
  unfold cpN
  by_cases e : r = t
  · subst e
    rw [mrow_same]
    by_cases c : q ≤ k ∧ k < q + z
    · rw [if_pos (by omega), pk_cpy_in (by omega) (by omega), ← y3 _ (by omega)]
      congr 1
      omega
    · rw [if_neg (by omega), pk_cpy_out (by omega)]; exact x3 k hk
  · rw [if_neg (by omega), mrow_ne _ _ (by omega)]; exact x3 k hk
theorem E_copy (a p b q z : Int32) {σ μ : Mm} (h : Rel σ μ) : f_X6_copy a p b q z σ (fun r σ' => f_X7_copy a p b q z μ (fun r' μ' => r' = r ∧ Rel σ' μ')) := by
  unfold f_X6_copy f_X7_copy
  simp only [isSheet_X, isSheet_Y]
  cases e : inZ a 0 3 with
  | false => simp only [Bool.false_eq_true, if_false]; exact E_find0 h
  | true =>
    simp only [if_true]
    cases e' : inZ b 0 3 with
    | false => simp only [Bool.false_eq_true, if_false]; exact E_find0 h
    | true =>
      simp only [if_true]
      obtain ⟨s, -, hs, rfl⟩ := inZ_ex (lo := 0) (hi := 3) e (by omega)
      obtain ⟨t, -, ht, rfl⟩ := inZ_ex (lo := 0) (hi := 3) e' (by omega)
      obtain ⟨⟨x1, x2⟩, ⟨n, n1, n2, n3⟩, x3⟩ := h.2.2.2.2.1 s (by omega)
      obtain ⟨⟨y1, y2⟩, ⟨m, m1, m2, m3⟩, y3⟩ := h.2.2.2.2.1 t (by omega)
      have hs4 : s < 4 := by omega
      have ht4 : t < 4 := by omega
      have ts : vp_in (nI s) 4 := vp_in_nI hs4 (by omega)
      have tt : vp_in (nI t) 4 := vp_in_nI ht4 (by omega)
      simp only [nI_clamp (show s < 2 ^ 31 by omega), nI_clamp (show t < 2 ^ 31 by omega), missing_X hs4, missing_X ht4, x1, y1, n2, n3, m2, m3]
      refine ⟨ts, hs4, tt, ht4, ?_⟩
      by_cases c : σ 13 s 0 = 0
      · simp only [c, decide_true, if_true]
        exact E_find' 5 (by decide) _ rfl (by decide) h (fun r σ' hh => ⟨ts, hh⟩)
      · simp only [c, decide_false, Bool.false_eq_true, if_false]
        by_cases c' : σ 13 t 0 = 0
        · simp only [c', decide_true, if_true]
          exact E_find' 5 (by decide) _ rfl (by decide) h (fun r σ' hh => ⟨ts, tt, hh⟩)
        · simp only [c', decide_false, Bool.false_eq_true, if_false]
          by_cases ck : σ 13 s 0 = σ 13 t 0
          · simp only [if_pos ck]
            have bad : ∀ {K : Int32 → Mm → Prop}, (∀ r σ', f_X7_finds (-1000001 : Int32) μ (fun r' μ' => r' = r ∧ Rel σ' μ') → K r σ') → f_X6_finding (0 : Int32) σ K := fun hk => E_find0' h hk
            by_cases cz : z < 0
            · simp only [if_pos cz]
              unfold f_X4_hasPart
              refine ⟨hs4, ?_⟩
              by_cases cp : p < 0
              · simp only [if_pos cp, Bool.false_eq_true, if_false]
                exact bad (fun r σ' hh => ⟨ts, tt, ts, tt, hh⟩)
              · simp only [if_neg cp, if_pos cz, Bool.false_eq_true, if_false]
                exact bad (fun r σ' hh => ⟨ts, tt, ts, tt, hh⟩)
            · simp only [if_neg cz]
              by_cases cp : p < 0
              · simp only [if_pos cp]
                unfold f_X4_hasPart
                refine ⟨hs4, ?_⟩
                simp only [if_pos cp, Bool.false_eq_true, if_false]
                exact bad (fun r σ' hh => ⟨ts, tt, ts, tt, hh⟩)
              · simp only [if_neg cp]
                obtain ⟨z, hz, rfl⟩ := nI_of cz
                obtain ⟨p, hp, rfl⟩ := nI_of cp
                simp only [part_X hs4 n1 n2 hp hz]
                have e1 : (nI n - nI p < nI z) ↔ ¬ (p + z ≤ n) := by
                  rw [Int32.lt_iff_toInt_lt, sub_toInt (by omega) hp, nI_toInt hz]
                  omega
                simp only [e1]
                by_cases cq : q < 0
                · simp only [if_pos cq]
                  by_cases cn : p + z ≤ n
                  · simp only [cn, decide_true, if_true]
                    unfold f_X4_hasPart
                    refine ⟨ht4, ?_⟩
                    simp only [if_pos cq, Bool.false_eq_true, if_false]
                    exact bad (fun r σ' hh => ⟨ts, tt, ts, tt, hh⟩)
                  · simp only [cn, decide_false, Bool.false_eq_true, if_false]
                    exact bad (fun r σ' hh => ⟨ts, tt, ts, tt, hh⟩)
                · simp only [if_neg cq]
                  obtain ⟨q, hq, rfl⟩ := nI_of cq
                  by_cases cn : p + z ≤ n
                  · simp only [cn, decide_true, if_true, not_true_eq_false, if_false, part_X ht4 m1 m2 hq hz]
                    have e2 : (nI z ≤ nI m - nI q) ↔ q + z ≤ m := by
                      rw [Int32.le_iff_toInt_le, sub_toInt (by omega) hq, nI_toInt hz]
                      omega
                    simp only [e2]
                    by_cases cm : q + z ≤ m
                    · simp only [cm, decide_true, if_true, nI_clamp hp, nI_clamp hq, nI_clamp hz]
                      refine ⟨by first | exact cp | trivial, by first | exact cq | trivial, by first | exact cz | trivial, by omega, by omega, _, rfl, ts, tt, ts, tt, ts, tt, ?_⟩
                      have fin : ∀ μ', (∀ k, μ' 12 0 k = cpN (μ 12 0) s t p q z k) → (∀ x i, ¬ (x = 12 ∧ i = 0) → μ' x i = μ x i) → Rel (mrow σ 14 t (va_cpy (σ 14 s) (σ 14 t) p q z)) μ' := fun μ' g1 g2 => h.shts (fun x i _ _ => mrow_ne _ _ (by omega)) (fun x i _ _ _ => g2 _ _ (by omega)) (h.2.2.2.2.1.copy hs4 ht4 (by omega) (by omega) g1 g2)
                      by_cases cs : s = t
                      · subst cs
                        simp only [if_true]
                        by_cases cd : q ≤ p
                        · rw [if_pos (nI_le cd hp)]
                          exact copy_up hs4 ht4 (by omega) (by omega) (Or.inr cd) (fun μ' g1 g2 => ⟨rfl, fin μ' g1 g2⟩)
                        · rw [if_neg (nI_ge (by omega) hq)]
                          exact copy_down hs4 (by omega) (by omega) (by omega) (fun μ' g1 g2 => ⟨rfl, fin μ' g1 g2⟩)
                      · rw [if_neg (fun z => cs ((nI_eq (by omega) (by omega)).mp z))]
                        exact copy_up hs4 ht4 (by omega) (by omega) (Or.inl cs) (fun μ' g1 g2 => ⟨rfl, fin μ' g1 g2⟩)
                    · simp only [cm, decide_false, Bool.false_eq_true, if_false]
                      exact bad (fun r σ' hh => ⟨ts, tt, ts, tt, ts, tt, hh⟩)
                  · simp only [cn, decide_false, Bool.false_eq_true, if_false, not_false_eq_true, if_true]
                    exact bad (fun r σ' hh => ⟨ts, tt, ts, tt, ts, hh⟩)
          · simp only [if_neg ck]
            exact E_find' 2 (by decide) _ rfl (by decide) h (fun r σ' hh => ⟨ts, tt, ts, tt, hh⟩)
