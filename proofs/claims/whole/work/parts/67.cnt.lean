/-! PURE: counting; count -/
def bcV (a0 : Int32) : Int32 := ((((((((a0 - ((((a0).toUInt32 >>> (((1 : Int32)).toUInt32 &&& Int32.toUInt32 31)).toInt32) &&& (1431655765 : Int32))) &&& (858993459 : Int32)) + (((((a0 - ((((a0).toUInt32 >>> (((1 : Int32)).toUInt32 &&& Int32.toUInt32 31)).toInt32) &&& (1431655765 : Int32)))).toUInt32 >>> (((2 : Int32)).toUInt32 &&& Int32.toUInt32 31)).toInt32) &&& (858993459 : Int32))) + ((((((a0 - ((((a0).toUInt32 >>> (((1 : Int32)).toUInt32 &&& Int32.toUInt32 31)).toInt32) &&& (1431655765 : Int32))) &&& (858993459 : Int32)) + (((((a0 - ((((a0).toUInt32 >>> (((1 : Int32)).toUInt32 &&& Int32.toUInt32 31)).toInt32) &&& (1431655765 : Int32)))).toUInt32 >>> (((2 : Int32)).toUInt32 &&& Int32.toUInt32 31)).toInt32) &&& (858993459 : Int32)))).toUInt32 >>> (((4 : Int32)).toUInt32 &&& Int32.toUInt32 31)).toInt32)) &&& (252645135 : Int32)) + ((((((((a0 - ((((a0).toUInt32 >>> (((1 : Int32)).toUInt32 &&& Int32.toUInt32 31)).toInt32) &&& (1431655765 : Int32))) &&& (858993459 : Int32)) + (((((a0 - ((((a0).toUInt32 >>> (((1 : Int32)).toUInt32 &&& Int32.toUInt32 31)).toInt32) &&& (1431655765 : Int32)))).toUInt32 >>> (((2 : Int32)).toUInt32 &&& Int32.toUInt32 31)).toInt32) &&& (858993459 : Int32))) + ((((((a0 - ((((a0).toUInt32 >>> (((1 : Int32)).toUInt32 &&& Int32.toUInt32 31)).toInt32) &&& (1431655765 : Int32))) &&& (858993459 : Int32)) + (((((a0 - ((((a0).toUInt32 >>> (((1 : Int32)).toUInt32 &&& Int32.toUInt32 31)).toInt32) &&& (1431655765 : Int32)))).toUInt32 >>> (((2 : Int32)).toUInt32 &&& Int32.toUInt32 31)).toInt32) &&& (858993459 : Int32)))).toUInt32 >>> (((4 : Int32)).toUInt32 &&& Int32.toUInt32 31)).toInt32)) &&& (252645135 : Int32))).toUInt32 >>> (((8 : Int32)).toUInt32 &&& Int32.toUInt32 31)).toInt32)) + (((((((((a0 - ((((a0).toUInt32 >>> (((1 : Int32)).toUInt32 &&& Int32.toUInt32 31)).toInt32) &&& (1431655765 : Int32))) &&& (858993459 : Int32)) + (((((a0 - ((((a0).toUInt32 >>> (((1 : Int32)).toUInt32 &&& Int32.toUInt32 31)).toInt32) &&& (1431655765 : Int32)))).toUInt32 >>> (((2 : Int32)).toUInt32 &&& Int32.toUInt32 31)).toInt32) &&& (858993459 : Int32))) + ((((((a0 - ((((a0).toUInt32 >>> (((1 : Int32)).toUInt32 &&& Int32.toUInt32 31)).toInt32) &&& (1431655765 : Int32))) &&& (858993459 : Int32)) + (((((a0 - ((((a0).toUInt32 >>> (((1 : Int32)).toUInt32 &&& Int32.toUInt32 31)).toInt32) &&& (1431655765 : Int32)))).toUInt32 >>> (((2 : Int32)).toUInt32 &&& Int32.toUInt32 31)).toInt32) &&& (858993459 : Int32)))).toUInt32 >>> (((4 : Int32)).toUInt32 &&& Int32.toUInt32 31)).toInt32)) &&& (252645135 : Int32)) + ((((((((a0 - ((((a0).toUInt32 >>> (((1 : Int32)).toUInt32 &&& Int32.toUInt32 31)).toInt32) &&& (1431655765 : Int32))) &&& (858993459 : Int32)) + (((((a0 - ((((a0).toUInt32 >>> (((1 : Int32)).toUInt32 &&& Int32.toUInt32 31)).toInt32) &&& (1431655765 : Int32)))).toUInt32 >>> (((2 : Int32)).toUInt32 &&& Int32.toUInt32 31)).toInt32) &&& (858993459 : Int32))) + ((((((a0 - ((((a0).toUInt32 >>> (((1 : Int32)).toUInt32 &&& Int32.toUInt32 31)).toInt32) &&& (1431655765 : Int32))) &&& (858993459 : Int32)) + (((((a0 - ((((a0).toUInt32 >>> (((1 : Int32)).toUInt32 &&& Int32.toUInt32 31)).toInt32) &&& (1431655765 : Int32)))).toUInt32 >>> (((2 : Int32)).toUInt32 &&& Int32.toUInt32 31)).toInt32) &&& (858993459 : Int32)))).toUInt32 >>> (((4 : Int32)).toUInt32 &&& Int32.toUInt32 31)).toInt32)) &&& (252645135 : Int32))).toUInt32 >>> (((8 : Int32)).toUInt32 &&& Int32.toUInt32 31)).toInt32))).toUInt32 >>> (((16 : Int32)).toUInt32 &&& Int32.toUInt32 31)).toInt32)) &&& (63 : Int32))
theorem bc_X {a : Int32} {σ : Mm} {K : Int32 → Mm → Prop} (h : K (bcV a) σ) : f_J6_bitCount_0f7a4 a σ K := h
/-- how many below a number -/
def coF (P : Nat → Bool) : Nat → Nat
  | 0 => 0
  | k + 1 => if P k = true then coF P k + 1 else coF P k
theorem coF_le (P : Nat → Bool) : ∀ k, coF P k ≤ k := by
  intro k
  induction k with
  | zero => exact Nat.le_refl 0
  | succ k ih => unfold coF; split <;> omega
theorem coF_congr {P Q : Nat → Bool} : ∀ k, (∀ j, j < k → P j = Q j) → coF P k = coF Q k := by
  intro k
  induction k with
  | zero => intro _; rfl
  | succ k ih => intro e; unfold coF; rw [ih (fun j hj => e j (by omega)), e k (by omega)]
theorem bcV_8 : ∀ x, x < 256 → bcV (nI x) = nI (coF (fun k => bt (nI x) k) 8) := by decide +kernel
theorem bcV_ev {M : Int32} (h : ∀ j, 8 ≤ j → j < 32 → bt M j = false) : bcV M = nI (coF (fun k => bt M k) 8) := by
  have hlt : M.toBitVec.toNat < 2 ^ 8 := by
    refine Nat.lt_pow_two_of_testBit _ (fun i hi => ?_)
    show bt M i = false
    by_cases c : i < 32
    · exact h i (by omega) c
    · exact b_big (by omega)
  have e : M = nI M.toBitVec.toNat := Int32.toBitVec_inj.mp (by show _ = BitVec.ofNat 32 _; simp)
  generalize M.toBitVec.toNat = N at e hlt
  rw [e]
  exact bcV_8 N (by omega)
/-- a set by what is in it -/
def seF (P : Nat → Bool) : Nat → Int32
  | 0 => 0
  | s + 1 => if P s = true then seF P s ||| ((1 : Int32) <<< (nI s &&& 31)) else seF P s
theorem seF_bt {P : Nat → Bool} (j : Nat) (hj : j < 32) : ∀ s, s ≤ 31 → bt (seF P s) j = (decide (j < s) && P j) := by
  intro s
  induction s with
  | zero => intro _; show bt 0 j = _; rw [b_0]; simp
  | succ s ih =>
    intro hs
    have ih := ih (by omega)
    unfold seF
    by_cases c : P s = true
    · rw [if_pos c, b_or, bt_1 s (by omega) j hj, ih]
      by_cases d : j = s
      · subst d
        rw [decide_eq_true (p := j = j) rfl, Bool.or_true, decide_eq_true (p := j < j + 1) (by omega), c]
        rfl
      · rw [decide_eq_false d, Bool.or_false]
        congr 1
        exact decide_eq_decide.mpr (by omega)
    · rw [if_neg c, ih]
      by_cases d : j = s
      · subst d
        rw [ts_nt c, Bool.and_false, Bool.and_false]
      · congr 1
        exact decide_eq_decide.mpr (by omega)
theorem bcV_se {P : Nat → Bool} : bcV (seF P 8) = nI (coF P 8) := by
  rw [bcV_ev (fun j h1 h2 => by rw [seF_bt j h2 8 (by omega), decide_eq_false (by omega), Bool.false_and])]
  congr 1
  refine coF_congr 8 (fun j hj => ?_)
  rw [seF_bt j (by omega) 8 (by omega), decide_eq_true hj, Bool.true_and]
def suN (f : Nat → Nat) : Nat → Nat
  | 0 => 0
  | k + 1 => suN f k + f k
theorem suN_congr {f g : Nat → Nat} : ∀ k, (∀ j, j < k → f j = g j) → suN f k = suN g k := by
  intro k
  induction k with
  | zero => intro _; rfl
  | succ k ih => intro e; unfold suN; rw [ih (fun j hj => e j (by omega)), e k (by omega)]
theorem suN_le {f : Nat → Nat} {b : Nat} : ∀ k, (∀ j, j < k → f j ≤ b) → suN f k ≤ k * b := by
  intro k
  induction k with
  | zero => intro _; show 0 ≤ _; omega
  | succ k ih =>
    intro e
    unfold suN
    have h1 := ih (fun j hj => e j (by omega))
    have h2 := e k (by omega)
    have h3 : (k + 1) * b = k * b + b := Nat.succ_mul k b
    omega
theorem suN_add (f g : Nat → Nat) : ∀ k, suN (fun j => f j + g j) k = suN f k + suN g k := by
  intro k
  induction k with
  | zero => rfl
  | succ k ih => unfold suN; rw [ih]; omega
theorem suN_co (P : Nat → Bool) : ∀ k, suN (fun j => if P j = true then 1 else 0) k = coF P k := by
  intro k
  induction k with
  | zero => rfl
  | succ k ih =>
    unfold suN coF
    rw [ih]
    by_cases c : P k = true
    · simp [c]
    · simp [c]
theorem pair_sum {P : Nat → Nat → Bool} {M : Nat} (hs : ∀ p q, p < M → q < M → P p q = P q p) (hd : ∀ p, p < M → P p p = false) : ∀ N, N ≤ M → suN (fun p => coF (P p) N) N = 2 * suN (fun p => coF (P p) p) N := by
  intro N
  induction N with
  | zero => intro _; rfl
  | succ N ih =>
    intro hN
    have ih := ih (by omega)
    show suN (fun p => coF (P p) (N + 1)) N + coF (P N) (N + 1) = 2 * (suN (fun p => coF (P p) p) N + coF (P N) N)
    have e1 : suN (fun p => coF (P p) (N + 1)) N = suN (fun p => coF (P p) N + (if P p N = true then 1 else 0)) N := by
      refine suN_congr N (fun p hp => ?_)
      show coF (P p) (N + 1) = _
      rw [coF]
      by_cases c : P p N = true
      · rw [if_pos c, if_pos c]
      · rw [if_neg c, if_neg c]; rfl
    have e2 : coF (P N) (N + 1) = coF (P N) N := by
      rw [coF, if_neg (by rw [hd N (by omega)]; decide)]
    rw [e1, e2, suN_add, ih, suN_co (fun p => P p N), coF_congr (Q := P N) N (fun j hj => hs j N (by omega) (by omega))]
    omega
theorem coF_add (P : Nat → Bool) (a : Nat) : ∀ b, coF P (a + b) = coF P a + coF (fun q => P (a + q)) b := by
  intro b
  induction b with
  | zero => rfl
  | succ b ih =>
    show (if P (a + b) = true then coF P (a + b) + 1 else coF P (a + b)) = coF P a + (if P (a + b) = true then coF (fun q => P (a + q)) b + 1 else coF (fun q => P (a + q)) b)
    rw [ih]
    by_cases c : P (a + b) = true
    · rw [if_pos c, if_pos c]; omega
    · rw [if_neg c, if_neg c]
theorem coF_64 (P : Nat → Bool) : ∀ N, coF P (8 * N) = suN (fun p => coF (fun q => P (8 * p + q)) 8) N := by
  intro N
  induction N with
  | zero => rfl
  | succ N ih =>
    show coF P (8 * N + 8) = _
    rw [coF_add, ih]
    rfl
