/-! PURE: who sits beside whom -/
def pvs (v : Nat → Int32) (n : Nat) : Prop := ∀ s, s < n → pv (v s)
def reaK (k : Nat) : Nat := [1, 2, 1, 1, 8, 2, 1].getD k 0
def rndK (k : Nat) : Bool := [false, false, true, false, false, true, false].getD k false
theorem stF_0 : ∀ k, k < 7 → stF 0 k = nI (reaK k) := by decide
theorem stF_1 : ∀ k, k < 7 → stF 1 k = b2i (rndK k) := by decide
theorem reaK_le : ∀ k, k < 7 → reaK k ≤ 8 := by decide
/-- the next place on a side -/
def stp (rnd : Bool) (n a : Nat) (left : Bool) : Option Nat := match left with
  | true => if a = 0 then (match rnd with | true => some (n - 1) | false => none) else some (a - 1)
  | false => if a + 1 = n then (match rnd with | true => some 0 | false => none) else some (a + 1)
/-- who is the first on a side, within a reach -/
def nbI (v : Nat → Int32) (n s : Nat) (rnd left : Bool) : Nat → Nat → Int32
  | 0, _ => -1
  | r + 1, a => match stp rnd n a left with
    | none => -1
    | some q => if q = s then -1 else if v q = -1 then nbI v n s rnd left r q else v q
def nbK (v : Nat → Int32) (k n s : Nat) (left : Bool) : Int32 := nbI v n s (rndK k) left (reaK k) s
def sideV (left : Bool) : Int32 := match left with
  | true => -1
  | false => 1
theorem stp_lt {rnd left : Bool} {n a q : Nat} (h1 : 1 ≤ n) (ha : a < n) (h : stp rnd n a left = some q) : q < n := by
  unfold stp at h
  cases left <;> cases rnd <;> simp only at h <;> split at h <;> simp at h <;> omega
theorem nbI_pv {v : Nat → Int32} {n s : Nat} {rnd left : Bool} (h1 : 1 ≤ n) (hv : pvs v n) : ∀ r a, a < n → pv (nbI v n s rnd left r a) := by
  intro r
  induction r with
  | zero => intro a _; exact Or.inl rfl
  | succ r ih =>
    intro a ha
    unfold nbI
    cases e : stp rnd n a left with
    | none => exact Or.inl rfl
    | some q =>
      have hq := stp_lt h1 ha e
      simp only
      by_cases c1 : q = s
      · rw [if_pos c1]; exact Or.inl rfl
      · rw [if_neg c1]
        by_cases c2 : v q = -1
        · rw [if_pos c2]; exact ih q hq
        · rw [if_neg c2]; exact hv q hq
theorem nbI_congr {v w : Nat → Int32} {n s : Nat} {rnd left : Bool} (h1 : 1 ≤ n) (e : ∀ j, j < n → v j = w j) : ∀ r a, a < n → nbI v n s rnd left r a = nbI w n s rnd left r a := by
  intro r
  induction r with
  | zero => intro a _; rfl
  | succ r ih =>
    intro a ha
    unfold nbI
    cases e1 : stp rnd n a left with
    | none => rfl
    | some q =>
      have hq := stp_lt h1 ha e1
      simp only
      rw [e q hq, ih q hq]
theorem nbK_pv {v : Nat → Int32} {k n s : Nat} {left : Bool} (h1 : 1 ≤ n) (hs : s < n) (hv : pvs v n) : pv (nbK v k n s left) := nbI_pv h1 hv _ _ hs
theorem nbK_congr {v w : Nat → Int32} {k n s : Nat} {left : Bool} (h1 : 1 ≤ n) (hs : s < n) (e : ∀ j, j < n → v j = w j) : nbK v k n s left = nbK w k n s left := nbI_congr h1 e _ _ hs
theorem m1_not_le {n : Nat} (h : n < 2 ^ 31) : ¬ nI n ≤ (-1 : Int32) := by
  rw [Int32.le_iff_toInt_le, nI_toInt h, show (-1 : Int32).toInt = -1 by decide]
  omega
/-- the class's place on a side, off the end or round it -/
theorem nb84 {σ : Mm} {i n s q R j : Nat} {a2 a4 : Int32} {K : Int32 → Mm → Prop} {k34 : Int32 → Int32 → Mm → Prop} (en : σ 0 i 1 = nI n) (h8 : n ≤ 8) (hq : q < n) (hs : s < n) (hk : if q = s then K (-1) σ else if σ 1 i q = -1 then k34 (nI q) (nI (j + 1)) σ else K (σ 1 i q) σ) : f_X0_neighbour_84 i (nI s) a2 (nI R) a4 (nI q) (nI j) K k34 σ := by
  unfold f_X0_neighbour_84
  rw [if_neg (nI_pos (by omega)), en, if_neg (nI_ge hq (by omega)), nI_clamp (by omega), nI_1]
  have t : vp_in (nI q) 8 := vp_in_nI (by omega) (by omega)
  by_cases c : q = s
  · subst c
    rw [if_pos rfl] at hk ⊢; exact hk
  · rw [if_neg c] at hk
    rw [if_neg (fun e => c ((nI_eq (by omega) (by omega)).mp e))]
    refine ⟨t, ?_⟩
    by_cases c2 : σ 1 i q = -1
    · rw [if_pos c2] at hk ⊢; exact hk
    · rw [if_neg c2] at hk ⊢; exact ⟨t, hk⟩
theorem nb84_off {σ : Mm} {i n s R : Nat} {a2 a4 a5 a6 : Int32} {K : Int32 → Mm → Prop} {k34 : Int32 → Int32 → Mm → Prop} (en : σ 0 i 1 = nI n) (ho : a5 < 0 ∨ nI n ≤ a5) (hk : K (-1) σ) : f_X0_neighbour_84 i (nI s) a2 (nI R) a4 a5 a6 K k34 σ := by
  unfold f_X0_neighbour_84
  rw [en]
  by_cases c : a5 < 0
  · rw [if_pos c]; exact hk
  · rw [if_neg c, if_pos (ho.resolve_left c)]; exact hk
theorem nb_X {σ : Mm} {i k n s : Nat} {left : Bool} {K : Int32 → Mm → Prop} (hi : i < 17) (hk : k < 7) (ek : σ 0 i 0 = nI k) (en : σ 0 i 1 = nI n) (h1 : 1 ≤ n) (h8 : n ≤ 8) (hs : s < n) (h : K (nbK (σ 1 i) k n s left) σ) : f_X0_neighbour i (nI s) (sideV left) σ K := by
  have main : ∀ (r a j : Nat), a < n → j + r = reaK k → K (nbI (σ 1 i) n s (rndK k) left r a) σ → f_X0_neighbour_34 i (nI s) (sideV left) (nI (reaK k)) (b2i (rndK k)) K (r + 1) (nI a) (nI j) σ := by
    intro r
    have hR := reaK_le k hk
    induction r with
    | zero =>
      intro a j ha hj hK
      rw [f_X0_neighbour_34, if_pos (nI_le (by omega) (by omega))]
      exact hK
    | succ r ih =>
      intro a j ha hj hK
      rw [f_X0_neighbour_34, if_neg (nI_ge (by omega) (by omega))]
      have go : ∀ q, stp (rndK k) n a left = some q → f_X0_neighbour_84 i (nI s) (sideV left) (nI (reaK k)) (b2i (rndK k)) (nI q) (nI j) K (f_X0_neighbour_34 i (nI s) (sideV left) (nI (reaK k)) (b2i (rndK k)) K (r + 1)) σ := by
        intro q e
        have hq := stp_lt h1 ha e
        refine nb84 en h8 hq hs ?_
        unfold nbI at hK
        rw [e] at hK
        simp only at hK
        by_cases c : q = s
        · rw [if_pos c] at hK ⊢; exact hK
        · rw [if_neg c] at hK ⊢
          by_cases c2 : σ 1 i q = -1
          · rw [if_pos c2] at hK ⊢; exact ih q (j + 1) hq (by omega) hK
          · rw [if_neg c2] at hK ⊢; exact hK
      have off : stp (rndK k) n a left = none → K (-1) σ := by
        intro e
        unfold nbI at hK
        rw [e] at hK
        exact hK
      have z1 : ¬ (0 : Int32) ≤ -1 := by decide
      have z2 : ¬ b2i true = 0 := by decide
      cases left with
      | true =>
        show (if b2i (rndK k) = 0 then f_X0_neighbour_67 i (nI s) (-1) (nI (reaK k)) (b2i (rndK k)) (nI a + -1) (nI j) K (f_X0_neighbour_34 i (nI s) (-1) (nI (reaK k)) (b2i (rndK k)) K (r + 1)) σ else if 0 ≤ nI a + -1 then f_X0_neighbour_67 i (nI s) (-1) (nI (reaK k)) (b2i (rndK k)) (nI a + -1) (nI j) K (f_X0_neighbour_34 i (nI s) (-1) (nI (reaK k)) (b2i (rndK k)) K (r + 1)) σ else f_X0_neighbour_84 i (nI s) (-1) (nI (reaK k)) (b2i (rndK k)) (σ 0 i 1 - 1) (nI j) K (f_X0_neighbour_34 i (nI s) (-1) (nI (reaK k)) (b2i (rndK k)) K (r + 1)) σ)
        cases a with
        | zero =>
          rw [show nI 0 + (-1 : Int32) = -1 by decide, if_neg z1]
          unfold f_X0_neighbour_67
          cases er : rndK k with
          | false =>
            rw [if_pos (by decide), if_pos (by decide), ← er]
            exact nb84_off en (Or.inl (by decide)) (off (by unfold stp; rw [er]; rfl))
          | true =>
            rw [if_neg z2, en, show nI n - 1 = nI (n - 1) from pk_sub (a := n) (b := 1) h1, ← er]
            exact go (n - 1) (by unfold stp; rw [er]; rfl)
        | succ a =>
          rw [nI_m1]
          have g := go a (by unfold stp; simp)
          have p0 : (0 : Int32) ≤ nI a := nI_pos' (by omega)
          unfold f_X0_neighbour_67
          rw [if_pos p0, en]
          have lt : nI a < nI n := nI_lt (by omega) (by omega)
          simp only [if_pos lt, ite_self]
          exact g
      | false =>
        show (if b2i (rndK k) = 0 then f_X0_neighbour_67 i (nI s) 1 (nI (reaK k)) (b2i (rndK k)) (nI a + 1) (nI j) K (f_X0_neighbour_34 i (nI s) 1 (nI (reaK k)) (b2i (rndK k)) K (r + 1)) σ else if 0 ≤ nI a + 1 then f_X0_neighbour_67 i (nI s) 1 (nI (reaK k)) (b2i (rndK k)) (nI a + 1) (nI j) K (f_X0_neighbour_34 i (nI s) 1 (nI (reaK k)) (b2i (rndK k)) K (r + 1)) σ else f_X0_neighbour_84 i (nI s) 1 (nI (reaK k)) (b2i (rndK k)) (σ 0 i 1 - 1) (nI j) K (f_X0_neighbour_34 i (nI s) 1 (nI (reaK k)) (b2i (rndK k)) K (r + 1)) σ)
        rw [nI_1, if_pos (nI_pos' (by omega)), ite_self]
        unfold f_X0_neighbour_67
        rw [en]
        by_cases ce : a + 1 = n
        · rw [ce, if_neg (nI_nlt (Nat.le_refl n) (by omega))]
          cases er : rndK k with
          | false =>
            rw [if_pos (by decide), ← er]
            exact nb84_off en (Or.inr (nI_le (Nat.le_refl n) (by omega))) (off (by unfold stp; rw [er, if_pos ce]))
          | true =>
            rw [if_neg z2, ← er]
            exact go 0 (by unfold stp; rw [er, if_pos ce])
        · have g := go (a + 1) (by unfold stp; rw [if_neg ce])
          rw [if_pos (nI_lt (by omega) (by omega)), ite_self]
          exact g
  refine ⟨hi, ?_⟩
  rw [ek, nI_clamp (by omega), stF_0 k hk, stF_1 k hk]
  have t : vp_in (nI k) 7 := vp_in_nI hk (by omega)
  refine ⟨t, t, ?_⟩
  have fin : f_X0_neighbour_26 i (nI s) (sideV left) (nI (reaK k)) (b2i (rndK k)) K σ := ⟨reaK k + 1, main (reaK k) s 0 hs (by omega) h⟩
  cases er : rndK k with
  | true => rw [if_pos (by decide)]; rw [er] at fin; exact fin
  | false => rw [if_neg (by decide)]; rw [er] at fin; exact fin
