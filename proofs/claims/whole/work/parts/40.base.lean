/-! PURE: numbers and memories -/
theorem i32_lit (n : Nat) : (@OfNat.ofNat Int32 n Int32.instOfNat) = nI (OfNat.ofNat n) := rfl
theorem i32_m1 : (-1 : Int32) = Int32.ofInt (-1) := by decide
theorem nI_ne_m1 {n : Nat} (h : n < 2 ^ 31) : ¬ nI n = -1 := by
  intro e
  have h1 := congrArg Int32.toInt e
  rw [nI_toInt h] at h1
  have h2 : (-1 : Int32).toInt = -1 := by decide
  rw [h2] at h1
  omega
theorem m1_lt0 : (-1 : Int32) < 0 := by decide
theorem mset_ap (σ : Mm) (t i j : Nat) (v : Int32) (t' i' j' : Nat) : mset σ t i j v t' i' j' = if t' = t ∧ i' = i ∧ j' = j then v else σ t' i' j' := by
  unfold mset mrow upd
  by_cases h1 : t' = t ∧ i' = i
  · obtain ⟨rfl, rfl⟩ := h1
    simp
  · rw [if_neg h1, if_neg (fun h => h1 ⟨h.1, h.2.1⟩)]
theorem mrow_ap (σ : Mm) (t i : Nat) (f : Nat → Int32) (t' i' j' : Nat) : mrow σ t i f t' i' j' = if t' = t ∧ i' = i then f j' else σ t' i' j' := by
  unfold mrow
  by_cases h1 : t' = t ∧ i' = i
  · rw [if_pos h1, if_pos h1]
  · rw [if_neg h1, if_neg h1]
theorem clamp_lit (n : Nat) (h : n < 2 ^ 31) : (nI n).toNatClampNeg = n := nI_clamp h
theorem nI_inj' {a b : Nat} (ha : a < 2 ^ 31) (hb : b < 2 ^ 31) (h : nI a = nI b) : a = b := (nI_eq ha hb).mp h
/-- a small int that is not negative is a number -/
theorem nI_ex {x : Int32} {N : Nat} (hN : N < 2 ^ 31) (h0 : ¬ x < 0) (h1 : x < nI N) : ∃ j, j < N ∧ x = nI j := by
  obtain ⟨j, hj, rfl⟩ := nI_of h0
  exact ⟨j, (nI_ltI hj hN).mp h1, rfl⟩
theorem i32_cases (x : Int32) {N : Nat} (hN : N < 2 ^ 31) : (∃ j, j < N ∧ x = nI j) ∨ (x < 0 ∨ nI N ≤ x) := by
  rcases pk_ix x hN with h | h | h
  · exact Or.inr (Or.inl h)
  · exact Or.inr (Or.inr h)
  · exact Or.inl h
/-- 'in' of the reference, on an int -/
theorem in_spec (x : Int32) (lo hi : Int64) (μ : Mm) (K : Bool → Mm → Prop) : f_X7_in x.toInt64 lo hi μ K = K (decide (lo.toInt ≤ x.toInt ∧ x.toInt ≤ hi.toInt)) μ := by
  unfold f_X7_in lg_cmp
  have hx : x.toInt64.toInt = x.toInt := Int32.toInt_toInt64 x
  simp only [gt_iff_lt, Int64.lt_iff_toInt_lt, ← Int64.toInt_inj, hx]
  by_cases h1 : lo.toInt ≤ x.toInt
  · by_cases h2 : x.toInt ≤ hi.toInt
    · have e1 : ¬ (if lo.toInt < x.toInt then (1 : Int32) else if x.toInt = lo.toInt then 0 else -1) < 0 := by
        by_cases a : lo.toInt < x.toInt
        · rw [if_pos a]; decide
        · rw [if_neg a, if_pos (by omega)]; decide
      have e2 : ¬ (0 < (if hi.toInt < x.toInt then (1 : Int32) else if x.toInt = hi.toInt then 0 else -1)) := by
        rw [if_neg (by omega)]
        by_cases a : x.toInt = hi.toInt
        · rw [if_pos a]; decide
        · rw [if_neg a]; decide
      rw [if_neg e1, if_neg e2]
      simp [h1, h2]
    · have e1 : ¬ (if lo.toInt < x.toInt then (1 : Int32) else if x.toInt = lo.toInt then 0 else -1) < 0 := by
        by_cases a : lo.toInt < x.toInt
        · rw [if_pos a]; decide
        · rw [if_neg a, if_pos (by omega)]; decide
      have e2 : (0 < (if hi.toInt < x.toInt then (1 : Int32) else if x.toInt = hi.toInt then 0 else -1)) := by
        rw [if_pos (by omega)]; decide
      rw [if_neg e1, if_pos e2]
      simp [h2]
  · have e1 : (if lo.toInt < x.toInt then (1 : Int32) else if x.toInt = lo.toInt then 0 else -1) < 0 := by
      rw [if_neg (by omega), if_neg (by omega)]; decide
    rw [if_pos e1]
    simp [h1]
/-- x is one of the numbers below n -/
def isN (x : Int32) (n : Nat) : Bool := decide (0 ≤ x.toInt ∧ x.toInt < n)
theorem isN_nI {j n : Nat} (h : j < n) (hn : n < 2 ^ 31) : isN (nI j) n = true := by
  unfold isN
  rw [nI_toInt (by omega)]
  simp
  omega
theorem isN_ex {x : Int32} {n : Nat} (hn : n < 2 ^ 31) (h : isN x n = true) : ∃ j, j < n ∧ x = nI j := by
  unfold isN at h
  have h := of_decide_eq_true h
  have h0 : ¬ x < 0 := by
    rw [Int32.lt_iff_toInt_lt]
    have : (0 : Int32).toInt = 0 := by decide
    omega
  obtain ⟨j, hj, rfl⟩ := nI_of h0
  rw [nI_toInt hj] at h
  exact ⟨j, by omega, rfl⟩
theorem isN_lt {x : Int32} {n : Nat} (hn : n < 2 ^ 31) : (if x < 0 then false else if nI n ≤ x then false else true) = isN x n := by
  have z : (0 : Int32).toInt = 0 := by decide
  unfold isN
  simp only [Int32.lt_iff_toInt_lt, Int32.le_iff_toInt_le, nI_toInt hn, z]
  by_cases h : x.toInt < 0
  · rw [if_pos h]; symm; simp; omega
  · rw [if_neg h]
    by_cases h2 : (n : Int) ≤ x.toInt
    · rw [if_pos h2]; symm; simp; omega
    · rw [if_neg h2]; symm; simp; omega
theorem K3 {K : Bool → Mm → Prop} {σ : Mm} {c d : Prop} [Decidable c] [Decidable d] : (if c then K false σ else if d then K false σ else K true σ) = K (if c then false else if d then false else true) σ := by
  by_cases h : c <;> by_cases h2 : d <;> simp [h, h2]
