/-! PURE: as -/
def abK (k : Nat) : Nat := [0, 0, 0, 0, 1, 2, 3].getD k 0
def rkK (k : Nat) : Nat := [0, 1, 1, 1, 2, 2, 2].getD k 0
theorem stF_2 : ∀ k, k < 7 → k ≠ 0 → stF 2 k = nI (abK k) ∧ abK k < 7 ∧ rkK (abK k) + 1 = rkK k := by decide
theorem stF_20 : stF 2 0 = -1 := by decide
def unF (a : Nat) : Nat → Nat → Bool
  | 0, _ => false
  | d + 1, k => if k = a then true else if k = 0 then false else unF a d (abK k)
theorem under_X {a k : Nat} {σ : Mm} {K : Bool → Mm → Prop} (ha : a < 7) (hk : k < 7) (h : K (unF a 6 k) σ) : f_X6_isUnder (nI k) (nI a) σ K := by
  have main : ∀ (d i k : Nat), k < 7 → rkK k < d → i + d = 6 → K (unF a d k) σ → f_X6_isUnder_4 (nI a) K (d + 1) (nI k) (nI i) σ := by
    intro d
    induction d with
    | zero => intro i k _ h2; omega
    | succ d ih =>
      intro i k hk h2 h3 hK
      rw [f_X6_isUnder_4, if_neg (show ¬ (7 : Int32) ≤ nI i from nI_ge (a := i) (b := 7) (by omega) (by omega)), isKind_X, show inZ (nI k) 0 6 = true from inZ_nI (lo := 0) (hi := 6) (by omega) (by omega) (by omega), if_pos rfl]
      unfold unF at hK
      by_cases c : k = a
      · subst c
        rw [if_pos rfl] at hK ⊢
        exact hK
      · rw [if_neg c] at hK
        rw [if_neg (fun e => c ((nI_eq (by omega) (by omega)).mp e)), nI_clamp (by omega), nI_1]
        refine ⟨vp_in_nI (by omega) (by omega), ?_⟩
        by_cases c0 : k = 0
        · subst c0
          rw [if_pos rfl] at hK
          rw [stF_20, f_X6_isUnder_4]
          by_cases c7 : (7 : Int32) ≤ nI (i + 1)
          · rw [if_pos c7]; exact hK
          · rw [if_neg c7, isKind_X, show inZ (-1) 0 6 = false by decide, if_neg (by decide)]; exact hK
        · rw [if_neg c0] at hK
          obtain ⟨e1, e2, e3⟩ := stF_2 k hk c0
          rw [e1]
          exact ih (i + 1) (abK k) e2 (by omega) (by omega) hK
  exact ⟨7, main 6 0 k hk (by have : ∀ k, k < 7 → rkK k < 6 := by decide
                              exact this k hk) (by omega) h⟩
theorem above_Y {k : Nat} {μ : Mm} {K : Int32 → Mm → Prop} (hk : k < 7) (h : K (if k = 0 then (-1 : Int32) else nI (abK k)) μ) : f_X7_above (nI k) μ K := by
  unfold f_X7_above
  match k, hk with
  | 0, _ => exact h
  | 1, _ => exact h
  | 2, _ => exact h
  | 3, _ => exact h
  | 4, _ => exact h
  | 5, _ => exact h
  | 6, _ => exact h
theorem as_Y {a k : Nat} {a3 : Int32} {μ : Mm} {K : Int32 → Mm → Prop} (ha : a < 7) (hk : k < 7) (h : if unF a 6 k = true then K a3 μ else f_X7_finds (-1000003 : Int32) μ (fun r11 σ10 => K r11 σ10)) : ∃ m, f_X7_as_55 (nI a) a3 K m (nI k) μ := by
  have main : ∀ (d k : Nat), k < 7 → rkK k < d → (if unF a d k = true then K a3 μ else f_X7_finds (-1000003 : Int32) μ (fun r11 σ10 => K r11 σ10)) → f_X7_as_55 (nI a) a3 K (d + 1) (nI k) μ := by
    intro d
    induction d with
    | zero => intro k _ h2; omega
    | succ d ih =>
      intro k hk h2 hK
      rw [f_X7_as_55, if_neg (nI_pos (by omega))]
      unfold unF at hK
      by_cases c : k = a
      · subst c
        rw [if_pos rfl, if_pos rfl] at hK
        rw [if_pos rfl]
        exact hK
      · rw [if_neg c] at hK
        rw [if_neg (fun e => c ((nI_eq (by omega) (by omega)).mp e))]
        refine above_Y hk ?_
        by_cases c0 : k = 0
        · subst c0
          rw [if_pos rfl, if_neg (by decide)] at hK
          rw [if_pos rfl, f_X7_as_55, if_pos (by decide)]
          exact hK
        · rw [if_neg c0] at hK
          obtain ⟨e1, e2, e3⟩ := stF_2 k hk c0
          rw [if_neg c0]
          exact ih (abK k) e2 (by omega) hK
  exact ⟨7, main 6 k hk (by have : ∀ k, k < 7 → rkK k < 6 := by decide
                            exact this k hk) h⟩
theorem E_as (x c : Int32) {σ μ : Mm} (h : Rel σ μ) : f_X6_as x c σ (fun r σ' => f_X7_as x c μ (fun r' μ' => r' = r ∧ Rel σ' μ')) := by
  obtain ⟨nb, h5, hx, hy, hr⟩ := h.nbx
  unfold f_X6_as
  rw [isSpot_X]
  cases e1 : inZ x 0 9 with
  | false =>
    rw [if_neg (by decide)]
    refine E_find0' h (fun r σ' hh => ?_)
    show f_X7_as x c μ _
    unfold f_X7_as
    rw [in_inZ, show inZ x (0 : Int64).toInt (9 : Int64).toInt = false from e1, if_neg (by decide)]
    exact hh
  | true =>
    rw [if_pos rfl, isKind_X]
    obtain ⟨s, -, hs, rfl⟩ := inZ_ex (lo := 0) (hi := 9) e1 (by omega)
    cases e2 : inZ c 0 6 with
    | false =>
      rw [if_neg (by decide)]
      refine E_find0' h (fun r σ' hh => ?_)
      show f_X7_as (nI s) c μ _
      unfold f_X7_as
      rw [in_inZ, show inZ (nI s) (0 : Int64).toInt (9 : Int64).toInt = true from e1, if_pos rfl, isKind_Y, e2, if_neg (by decide)]
      exact hh
    | true =>
      rw [if_pos rfl]
      obtain ⟨a, -, ha, rfl⟩ := inZ_ex (lo := 0) (hi := 6) e2 (by omega)
      have es : μ 1 0 (126 + s) = σ 7 0 s := hr.1.2.2.2.2 s (by omega)
      have Y : ∀ {G : Int32 → Mm → Prop}, (if 0 ≤ μ 1 0 (126 + s) then (f_X7_kindOf (μ 1 0 (126 + s)) μ (fun r9 σ8 => (∃ m, f_X7_as_55 (nI a) (μ 1 0 (126 + s)) G m r9 σ8))) else (f_X7_finds (-1000006 : Int32) μ (fun r15 σ14 => (G r15 σ14)))) → f_X7_as (nI s) (nI a) μ G := by
        intro G hG
        unfold f_X7_as
        rw [in_inZ, show inZ (nI s) (0 : Int64).toInt (9 : Int64).toInt = true from e1, if_pos rfl, isKind_Y, e2, if_pos rfl, spot_ix (by omega), nI_clamp (by omega)]
        exact ⟨vp_in_nI (by omega) (by omega), hG⟩
      rw [nI_clamp (by omega)]
      refine ⟨vp_in_nI (by omega) (by omega), ?_⟩
      rw [isBench_X hx h5]
      rcases hr.2.2.2.2.2.2 s (by omega) with g | ⟨b, hb, g⟩
      · rw [← es, g, show benchB (-1) nb = false from by unfold benchB inZ; apply decide_eq_false; rw [show (-1 : Int32).toInt = -1 by decide]; omega, if_neg (by decide)]
        refine E_find' 5 (by decide) (-1000006 : Int32) rfl (by decide) h (fun r σ' hh => Y ?_)
        rw [g, if_neg (by decide)]
        exact hh
      · obtain ⟨k, n, hk, n1, n8, ek, en, fk, fn, z, zz⟩ := hr.ks hb
        rw [← es, g, benchB_nI hb (by omega), if_pos rfl, nI_clamp (by omega)]
        refine ⟨vp_in_nI (by omega) (by omega), by omega, ?_⟩
        rw [fk]
        refine under_X (by omega) hk ?_
        cases eu : unF a 6 k with
        | true =>
          refine itt (Y ?_)
          rw [g, if_pos (nI_pos' (by omega))]
          refine kindOf_Y (by omega) ?_
          rw [ek]
          refine as_Y (by omega) hk ?_
          rw [eu, if_pos rfl]
          exact ⟨rfl, h⟩
        | false =>
          refine itf (E_find' 2 (by decide) (-1000003 : Int32) rfl (by decide) h (fun r σ' hh => Y ?_))
          rw [g, if_pos (nI_pos' (by omega))]
          refine kindOf_Y (by omega) ?_
          rw [ek]
          refine as_Y (by omega) hk ?_
          rw [eu, if_neg (by decide)]
          exact hh
