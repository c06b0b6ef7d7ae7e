/-! PURE: the class's look at the balance -/
def cbB (k n s : Nat) (h : Int32) (T W : Int) : Bool := decide (mostK k h = 1000000) || (decide (T + W * armZ n s ≤ mostK k h) && decide (-(mostK k h) ≤ T + W * armZ n (n - 1)))
theorem armX {i n s : Nat} {σ : Mm} {K : Int32 → Mm → Prop} (hi : i < 17) (en : σ 0 i 1 = nI n) (h1 : 1 ≤ n) (h8 : n ≤ 8) (hs : s ≤ 8) (h : ∀ r : Int32, r.toInt = armZ n s → K r σ) : f_X0_armOf i (nI s) σ K := by
  refine ⟨hi, ?_⟩
  rw [en]
  exact h _ (arm_toInt hs h1 h8)
theorem canB_X {k n s : Nat} {hd T W : Int32} {tz wz : Int} {σ : Mm} {K : Bool → Mm → Prop} (en : σ 0 16 1 = nI n) (h1 : 1 ≤ n) (h8 : n ≤ 8) (hs : s ≤ n) (e4 : (σ 8 0 4).toInt = mostK k hd) (hm : mostK k hd = 1000000 ∨ (0 ≤ mostK k hd ∧ mostK k hd ≤ 2000)) (eT : T.toInt = tz) (eW : W.toInt = wz) (bT : -100000 ≤ tz ∧ tz ≤ 100000) (bW : 0 ≤ wz ∧ wz ≤ 1000) (h : K (cbB k n s hd tz wz) σ) : f_X3_canBalance (nI s) T W σ K := by
  have e6 : (1000000 : Int32).toInt = 1000000 := by decide
  unfold f_X3_canBalance
  unfold cbB at h
  have ma : -9 ≤ armZ n s ∧ armZ n s ≤ 9 := by unfold armZ; omega
  have mb : -9 ≤ armZ n (n - 1) ∧ armZ n (n - 1) ≤ 9 := by unfold armZ; omega
  have pb : ∀ a : Int, -9 ≤ a → a ≤ 9 → -9000 ≤ wz * a ∧ wz * a ≤ 9000 := by
    intro a a1 a2
    have x1 : wz * a ≤ wz * 9 := Int.mul_le_mul_of_nonneg_left a2 bW.1
    have x2 : wz * (-9) ≤ wz * a := Int.mul_le_mul_of_nonneg_left a1 bW.1
    omega
  by_cases c : σ 8 0 4 = 1000000
  · rw [if_pos c]
    rw [c, e6] at e4
    rw [← e4, decide_eq_true (p := (1000000 : Int) = 1000000) rfl, Bool.true_or] at h
    exact h
  · rw [if_neg c]
    have cm : ¬ mostK k hd = 1000000 := fun g => c (Int32.toInt_inj.mp (by rw [e4, e6]; exact g))
    rw [decide_eq_false cm, Bool.false_or] at h
    refine armX (by omega) en h1 h8 (by omega) (fun r er => ?_)
    have p1 := pb _ ma.1 ma.2
    have v1 : (T + W * r).toInt = tz + wz * armZ n s := add_toInt eT (mul_toInt eW er (by omega) (by omega)) (by omega) (by omega)
    by_cases c1 : tz + wz * armZ n s ≤ mostK k hd
    · rw [if_neg (by rw [Int32.lt_iff_toInt_lt, e4, v1]; omega), en, show nI n - (1 : Int32) = nI (n - 1) from pk_sub (a := n) (b := 1) h1]
      rw [decide_eq_true c1, Bool.true_and] at h
      refine armX (by omega) en h1 h8 (by omega) (fun r' er' => ?_)
      have p2 := pb _ mb.1 mb.2
      have v2 : (T + W * r').toInt = tz + wz * armZ n (n - 1) := add_toInt eT (mul_toInt eW er' (by omega) (by omega)) (by omega) (by omega)
      have nm : (-(σ 8 0 4)).toInt = -(mostK k hd) := by
        have hm' := hm.resolve_left cm
        obtain ⟨x, hx⟩ : ∃ x : Nat, mostK k hd = (x : Int) := ⟨(mostK k hd).toNat, by omega⟩
        have ex : σ 8 0 4 = nI x := Int32.toInt_inj.mp (by rw [e4, nI_toInt (by omega)]; exact hx)
        rw [ex, neg_toInt (by omega), hx]
      by_cases c2 : -(mostK k hd) ≤ tz + wz * armZ n (n - 1)
      · rw [if_neg (by rw [Int32.lt_iff_toInt_lt, nm, v2]; omega)]
        rw [decide_eq_true c2] at h
        exact h
      · rw [if_pos (by rw [Int32.lt_iff_toInt_lt, nm, v2]; omega)]
        rw [decide_eq_false c2] at h
        exact h
    · rw [if_pos (by rw [Int32.lt_iff_toInt_lt, e4, v1]; omega)]
      rw [decide_eq_false c1, Bool.false_and] at h
      exact h
