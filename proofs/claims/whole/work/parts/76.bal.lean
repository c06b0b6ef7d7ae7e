/-! PURE: the class's balance while it fills -/
def armZ (n s : Nat) : Int := 2 * (s : Int) - ((n : Int) - 1)
def wsF (w : Nat → Int32) (U : Int32) : Nat → Int
  | 0 => 0
  | p + 1 => wsF w U p + (if bt U p = true then (w p).toInt else 0)
theorem wsF_0 {w : Nat → Int32} {U : Int32} : ∀ N, coF (fun j => bt U j) N = 0 → wsF w U N = 0 := by
  intro N
  induction N with
  | zero => intro _; rfl
  | succ N ih =>
    intro h
    unfold coF at h
    by_cases c : bt U N = true
    · rw [if_pos c] at h; omega
    · rw [if_neg c] at h
      unfold wsF
      rw [if_neg c, ih h]; rfl
theorem wsF_nn {w : Nat → Int32} {U : Int32} (hw : wok w) : ∀ N, N ≤ 8 → 0 ≤ wsF w U N := by
  intro N
  induction N with
  | zero => intro _; exact Int.le_refl 0
  | succ N ih =>
    intro h
    unfold wsF
    have := ih (by omega)
    obtain ⟨x, x1, x2, ex⟩ := hw N (by omega)
    by_cases c : bt U N = true
    · rw [if_pos c, ex, nI_toInt (by omega)]; omega
    · rw [if_neg c]; omega
theorem wsF_clr {w : Nat → Int32} {U : Int32} {p : Nat} (hp : p < 8) (h : bt U p = true) : wsF w (clr U p) 8 + (w p).toInt = wsF w U 8 := by
  have key : ∀ k, k ≤ 8 → wsF w (clr U p) k + (if p < k then (w p).toInt else 0) = wsF w U k := by
    intro k
    induction k with
    | zero => intro _; rw [if_neg (by omega)]; rfl
    | succ k ih =>
      intro hk
      have ih := ih (by omega)
      unfold wsF
      rw [clr_bt U p k (by omega) (by omega)]
      by_cases c : k = p
      · subst c
        rw [decide_eq_true (p := k = k) rfl, Bool.not_true, Bool.and_false, if_neg (by decide), if_pos (by omega), if_pos h]
        rw [if_neg (by omega)] at ih
        omega
      · rw [decide_eq_false c, Bool.not_false, Bool.and_true]
        by_cases b : bt U k = true
        · rw [if_pos b]
          by_cases d : p < k
          · rw [if_pos d] at ih; rw [if_pos (by omega)]; omega
          · rw [if_neg d] at ih; rw [if_neg (by omega)]; omega
        · rw [if_neg b]
          by_cases d : p < k
          · rw [if_pos d] at ih; rw [if_pos (by omega)]; omega
          · rw [if_neg d] at ih; rw [if_neg (by omega)]; omega
  have := key 8 (Nat.le_refl 8)
  rw [if_pos hp] at this
  exact this
theorem liZ_pre {w v v' : Nat → Int32} {n : Nat} : ∀ s, (∀ j, j < s → v j = v' j) → liZ w v n s = liZ w v' n s := by
  intro s
  induction s with
  | zero => intro _; rfl
  | succ s ih => intro e; unfold liZ; rw [ih (fun j hj => e j (by omega)), e s (by omega)]
theorem bal_bd {w : Nat → Int32} {n : Nat} (hw : wok w) {d s : Nat} {U : Int32} {e : Nat} {v u : Nat → Int32} (hu : u ∈ lv d s U e v) : coF (fun j => bt U j) 8 + e = d → s + d = n → liZ w v n s + wsF w U 8 * armZ n s ≤ liZ w u n n ∧ liZ w u n n ≤ liZ w v n s + wsF w U 8 * armZ n (n - 1) := by
  refine lv_ind (T := fun d s U e v u => coF (fun j => bt U j) 8 + e = d → s + d = n → liZ w v n s + wsF w U 8 * armZ n s ≤ liZ w u n n ∧ liZ w u n n ≤ liZ w v n s + wsF w U 8 * armZ n (n - 1)) ?_ ?_ ?_ d s U e v u hu
  · intro s U e v hc hs
    have : s = n := by omega
    subst this
    rw [wsF_0 8 (by omega), Int.zero_mul, Int.zero_mul]
    omega
  · intro d s U e v u he ih hc hs
    obtain ⟨l, r⟩ := ih (by omega) (by omega)
    have e1 : liZ w (upd v s (-1)) n (s + 1) = liZ w v n s := by
      rw [liZ, upd_eq, if_pos rfl, Int.add_zero]
      exact liZ_pre s (fun j hj => upd_ne (by omega))
    rw [e1] at l r
    have m1 : wsF w U 8 * armZ n s ≤ wsF w U 8 * armZ n (s + 1) := Int.mul_le_mul_of_nonneg_left (by unfold armZ; omega) (wsF_nn hw 8 (Nat.le_refl 8))
    exact ⟨by omega, r⟩
  · intro d s U e v u p hp hb ih hc hs
    obtain ⟨l, r⟩ := ih (by have := coF_clr hp hb; omega) (by omega)
    have e1 : liZ w (upd v s (nI p)) n (s + 1) = liZ w v n s + (w p).toInt * armZ n s := by
      rw [liZ, upd_eq, if_neg (nI_ne_m1 (by omega)), nI_clamp (by omega)]
      rw [liZ_pre (v' := v) s (fun j hj => upd_ne (by omega))]
      rfl
    rw [e1] at l r
    have ec := wsF_clr (w := w) hp hb
    obtain ⟨x, x1, x2, ex⟩ := hw p hp
    have wp : 0 ≤ (w p).toInt := by rw [ex, nI_toInt (by omega)]; omega
    have m1 : wsF w (clr U p) 8 * armZ n s ≤ wsF w (clr U p) 8 * armZ n (s + 1) := Int.mul_le_mul_of_nonneg_left (by unfold armZ; omega) (wsF_nn hw 8 (Nat.le_refl 8))
    have m2 : (w p).toInt * armZ n s ≤ (w p).toInt * armZ n (n - 1) := Int.mul_le_mul_of_nonneg_left (by unfold armZ; omega) wp
    have d1 : wsF w U 8 * armZ n s = wsF w (clr U p) 8 * armZ n s + (w p).toInt * armZ n s := by rw [← ec, Int.add_mul]
    have d2 : wsF w U 8 * armZ n (n - 1) = wsF w (clr U p) 8 * armZ n (n - 1) + (w p).toInt * armZ n (n - 1) := by rw [← ec, Int.add_mul]
    rw [d1, d2]
    exact ⟨by omega, by omega⟩
