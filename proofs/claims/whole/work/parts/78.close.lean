/-! PURE: the class closes a round -/
def clB (B : Nat → Int32) (ov : Int32) (u : Nat → Int32) (k n : Nat) : Bool := !(rndK k) || (decide (fwF B ov u k n (if n < reaK k then n else reaK k) 0 = -1) && decide (fwF B ov u k n (n - (n - reaK k)) (n - reaK k) = -1))
theorem close_X {k n : Nat} {σ : Mm} {K : Bool → Mm → Prop} (hk : k < 7) (ek : σ 0 16 0 = nI k) (en : σ 0 16 1 = nI n) (h1 : 1 ≤ n) (h8 : n ≤ 8) (e3 : σ 8 0 3 = nI (reaK k)) (hv : pvs (σ 1 16) n) (ho : bz (σ 2 0 2)) (h : K (clB (σ 3 0) (σ 2 0 2) (σ 1 16) k n) σ) : f_X3_closesRound σ K := by
  have rk := reaK_le k hk
  unfold f_X3_closesRound
  rw [ek, nI_clamp (by omega), stF_1 k hk]
  refine ⟨vp_in_nI hk (by omega), ?_⟩
  unfold clB at h
  cases er : rndK k with
  | false =>
    rw [er] at h
    rw [if_pos (by decide)]; exact h
  | true =>
    rw [er, Bool.not_true, Bool.false_or] at h
    rw [if_neg (by decide), en, e3]
    have em : (if nI n < nI (reaK k) then nI n else nI (reaK k)) = nI (if n < reaK k then n else reaK k) := by
      by_cases c : n < reaK k
      · rw [if_pos (nI_lt c (by omega)), if_pos c]
      · rw [if_neg (nI_nlt (by omega) (by omega)), if_neg c]
    have es : (if nI n - nI (reaK k) < (0 : Int32) then (0 : Int32) else nI n - nI (reaK k)) = nI (n - reaK k) := by
      by_cases c : reaK k ≤ n
      · rw [show nI n - nI (reaK k) = nI (n - reaK k) from pk_sub c, if_neg (nI_pos (by omega))]
      · have st : (nI n - nI (reaK k)).toInt = (n : Int) - (reaK k : Int) := sub_toInt (by omega) (by omega)
        rw [if_pos (by rw [Int32.lt_iff_toInt_lt, st, z0]; omega), show n - reaK k = 0 by omega]
        rfl
    rw [em]
    refine fw_X (a := 0) (b := if n < reaK k then n else reaK k) (k := k) (n := n) (by omega) (by omega) hk ek en h1 h8 hv ho (by omega) (by split <;> omega) ?_
    rw [Nat.sub_zero]
    by_cases c1 : fwF (σ 3 0) (σ 2 0 2) (σ 1 16) k n (if n < reaK k then n else reaK k) 0 = -1
    · rw [if_pos c1, en, e3, es]
      rw [decide_eq_true c1, Bool.true_and] at h
      refine fw_X (a := n - reaK k) (b := n) (k := k) (n := n) (by omega) (by omega) hk ek en h1 h8 hv ho (by omega) (Nat.le_refl n) ?_
      by_cases c2 : fwF (σ 3 0) (σ 2 0 2) (σ 1 16) k n (n - (n - reaK k)) (n - reaK k) = -1
      · rw [if_pos c2]; rw [decide_eq_true c2] at h; exact h
      · rw [if_neg c2]; rw [decide_eq_false c2] at h; exact h
    · rw [if_neg c1]
      rw [decide_eq_false c1, Bool.false_and] at h
      exact h
theorem cl_good {B : Nat → Int32} {ov : Int32} {u : Nat → Int32} {k n : Nat} (h8 : n ≤ 8) (h : clB B ov u k n = true) : rndK k = true → ∀ t, t < n → (t < reaK k ∨ n ≤ t + reaK k) → wrS B ov u k n t = false := by
  intro er t ht hc
  unfold clB at h
  rw [er, Bool.not_true, Bool.false_or] at h
  have h := (Bool.and_eq_true _ _).mp h
  rcases hc with hc | hc
  · refine (fw_all h8 _ 0 (by split <;> omega)).mp (of_decide_eq_true h.1) t (by omega) ?_
    split <;> omega
  · exact (fw_all h8 _ _ (by omega)).mp (of_decide_eq_true h.2) t (by omega) (by omega)
theorem cl_bad {B : Nat → Int32} {ov : Int32} {u : Nat → Int32} {k n : Nat} (h8 : n ≤ 8) (h : clB B ov u k n = false) : ¬ fwF B ov u k n n 0 = -1 := by
  intro hf
  have all := (fw_all h8 n 0 (by omega)).mp hf
  have a1 : fwF B ov u k n (if n < reaK k then n else reaK k) 0 = -1 := (fw_all h8 _ 0 (by split <;> omega)).mpr (fun t _ g => all t (by omega) (by split at g <;> omega))
  have a2 : fwF B ov u k n (n - (n - reaK k)) (n - reaK k) = -1 := (fw_all h8 _ _ (by omega)).mpr (fun t _ g => all t (by omega) (by omega))
  unfold clB at h
  rw [decide_eq_true a1, decide_eq_true a2, Bool.and_self, Bool.or_true] at h
  exact Bool.noConfusion h
