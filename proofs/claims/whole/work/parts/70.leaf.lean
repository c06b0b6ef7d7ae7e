/-! PURE: the complete rows in their order -/
def clr (U : Int32) (p : Nat) : Int32 := U &&& (((1 : Int32) <<< (nI p &&& 31)) ^^^ (-1 : Int32))
theorem clr_bt (U : Int32) (p j : Nat) (hp : p < 32) (hj : j < 32) : bt (clr U p) j = (bt U j && !decide (j = p)) := by
  unfold clr
  rw [b_and, b_xor, bt_1 p hp j hj, b_m1 j hj, Bool.xor_true]
/-- rows: at a seat first nobody, then the persons of the set in order -/
def lvP (R : Nat → List (Nat → Int32)) (U : Int32) : Nat → Nat → List (Nat → Int32)
  | 0, _ => []
  | c + 1, p => (if bt U p = true then R p else []) ++ lvP R U c (p + 1)
def lv : Nat → Nat → Int32 → Nat → (Nat → Int32) → List (Nat → Int32)
  | 0, _, _, _, v => [v]
  | d + 1, s, U, e, v => (if e = 0 then [] else lv d (s + 1) U (e - 1) (upd v s (-1))) ++ lvP (fun p => lv d (s + 1) (clr U p) e (upd v s (nI p))) U 8 0
def fac : Nat → Nat
  | 0 => 1
  | d + 1 => (d + 1) * fac d
theorem coF_clr {U : Int32} {p : Nat} (hp : p < 8) (h : bt U p = true) : coF (fun k => bt (clr U p) k) 8 + 1 = coF (fun k => bt U k) 8 := by
  have key : ∀ k, k ≤ 8 → coF (fun j => bt (clr U p) j) k + (if p < k then 1 else 0) = coF (fun j => bt U j) k := by
    intro k
    induction k with
    | zero => intro _; rw [if_neg (by omega)]; rfl
    | succ k ih =>
      intro hk
      have ih := ih (by omega)
      unfold coF
      rw [clr_bt U p k (by omega) (by omega)]
      by_cases c : k = p
      · subst c
        rw [decide_eq_true (p := k = k) rfl, Bool.not_true, Bool.and_false, if_neg (by decide), if_pos (by omega), if_pos h]
        rw [if_neg (by omega)] at ih
        omega
      · rw [decide_eq_false c, Bool.not_false, Bool.and_true]
        by_cases b : bt U k = true
        · rw [if_pos b, if_pos b]
          by_cases d : p < k
          · rw [if_pos d] at ih; rw [if_pos (by omega)]; omega
          · rw [if_neg d] at ih; rw [if_neg (by omega)]; omega
        · rw [if_neg b, if_neg b]
          by_cases d : p < k
          · rw [if_pos d] at ih; rw [if_pos (by omega)]; omega
          · rw [if_neg d] at ih; rw [if_neg (by omega)]; omega
  have := key 8 (Nat.le_refl 8)
  rw [if_pos hp] at this
  exact this
theorem lvP_len {R : Nat → List (Nat → Int32)} {U : Int32} {b : Nat} (hR : ∀ p, p < 8 → bt U p = true → (R p).length ≤ b) : ∀ c p, p + c = 8 → (lvP R U c p).length + coF (fun k => bt U k) p * b ≤ coF (fun k => bt U k) 8 * b := by
  intro c
  induction c with
  | zero =>
    intro p hp
    have : p = 8 := by omega
    subst this
    show 0 + _ ≤ _
    omega
  | succ c ih =>
    intro p hp
    have nx := ih (p + 1) (by omega)
    rw [coF] at nx
    unfold lvP
    rw [List.length_append]
    by_cases g : bt U p = true
    · rw [if_pos g] at nx ⊢
      have := hR p (by omega) g
      rw [Nat.succ_mul] at nx
      omega
    · rw [if_neg g] at nx ⊢
      show 0 + _ + _ ≤ _
      omega
theorem lv_len : ∀ d s U e v, coF (fun k => bt U k) 8 + e = d → (lv d s U e v).length ≤ fac d := by
  intro d
  induction d with
  | zero => intro s U e v _; exact Nat.le_refl 1
  | succ d ih =>
    intro s U e v he
    unfold lv
    rw [List.length_append]
    have h1 := lvP_len (R := fun p => lv d (s + 1) (clr U p) e (upd v s (nI p))) (U := U) (b := fac d) (fun p hp hb => ih (s + 1) (clr U p) e _ (by have := coF_clr hp hb; omega)) 8 0 rfl
    have h0 : coF (fun k => bt U k) 0 * fac d = 0 := Nat.zero_mul _
    have h2 : (if e = 0 then ([] : List (Nat → Int32)) else lv d (s + 1) U (e - 1) (upd v s (-1))).length ≤ e * fac d := by
      by_cases c : e = 0
      · rw [if_pos c]; exact Nat.zero_le _
      · rw [if_neg c]
        have := ih (s + 1) U (e - 1) (upd v s (-1)) (by omega)
        have l1 : 1 * fac d ≤ e * fac d := Nat.mul_le_mul_right _ (by omega)
        omega
    have h3 : (coF (fun k => bt U k) 8 + e) * fac d = coF (fun k => bt U k) 8 * fac d + e * fac d := Nat.add_mul _ _ _
    show _ ≤ (d + 1) * fac d
    rw [← he, h3]
    omega
theorem fac_8 : ∀ d, d ≤ 8 → fac d ≤ 40320 := by decide
/-- what lies in the rows: the seats before are kept, the seats from here are taken from the set or empty -/
theorem lvP_mem {R : Nat → List (Nat → Int32)} {U : Int32} {u : Nat → Int32} : ∀ c p, p + c = 8 → u ∈ lvP R U c p → ∃ q, q < 8 ∧ bt U q = true ∧ u ∈ R q := by
  intro c
  induction c with
  | zero => intro p _ h; exact absurd h (by unfold lvP; simp)
  | succ c ih =>
    intro p hp h
    unfold lvP at h
    rcases List.mem_append.mp h with h | h
    · by_cases g : bt U p = true
      · rw [if_pos g] at h; exact ⟨p, by omega, g, h⟩
      · rw [if_neg g] at h; exact absurd h (by simp)
    · exact ih (p + 1) (by omega) h
theorem lv_ind {T : Nat → Nat → Int32 → Nat → (Nat → Int32) → (Nat → Int32) → Prop} (h0 : ∀ s U e v, T 0 s U e v v) (hE : ∀ d s U e v u, e ≠ 0 → T d (s + 1) U (e - 1) (upd v s (-1)) u → T (d + 1) s U e v u) (hP : ∀ d s U e v u p, p < 8 → bt U p = true → T d (s + 1) (clr U p) e (upd v s (nI p)) u → T (d + 1) s U e v u) : ∀ d s U e v u, u ∈ lv d s U e v → T d s U e v u := by
  intro d
  induction d with
  | zero =>
    intro s U e v u h
    have : u = v := List.mem_singleton.mp h
    subst this
    exact h0 s U e u
  | succ d ih =>
    intro s U e v u h
    unfold lv at h
    rcases List.mem_append.mp h with h | h
    · by_cases c : e = 0
      · rw [if_pos c] at h; exact absurd h (by simp)
      · rw [if_neg c] at h
        exact hE d s U e v u c (ih _ _ _ _ _ h)
    · obtain ⟨p, hp, hb, hu⟩ := lvP_mem 8 0 rfl h
      exact hP d s U e v u p hp hb (ih _ _ _ _ _ hu)
theorem lv_pre {d s : Nat} {U : Int32} {e : Nat} {v u : Nat → Int32} (h : u ∈ lv d s U e v) : ∀ j, (j < s ∨ s + d ≤ j) → u j = v j := by
  refine lv_ind (T := fun d s _ _ v u => ∀ j, (j < s ∨ s + d ≤ j) → u j = v j) (fun _ _ _ _ _ _ => rfl) (fun d s U e v u _ g j hj => ?_) (fun d s U e v u p _ _ g j hj => ?_) d s U e v u h
  · rw [g j (by omega), upd_ne (by omega)]
  · rw [g j (by omega), upd_ne (by omega)]
theorem lv_pv {d s : Nat} {U : Int32} {e : Nat} {v u : Nat → Int32} (h : u ∈ lv d s U e v) : (∀ j, j < s → pv (v j)) → ∀ j, j < s + d → pv (u j) := by
  refine lv_ind (T := fun d s _ _ v u => (∀ j, j < s → pv (v j)) → ∀ j, j < s + d → pv (u j)) (fun s _ _ v g j hj => g j (by omega)) (fun d s U e v u _ g hv j hj => ?_) (fun d s U e v u p hp _ g hv j hj => ?_) d s U e v u h
  · refine g (fun i hi => ?_) j (by omega)
    by_cases c : i = s
    · subst c; rw [upd_eq]; exact Or.inl rfl
    · rw [upd_ne c]; exact hv i (by omega)
  · refine g (fun i hi => ?_) j (by omega)
    by_cases c : i = s
    · subst c; rw [upd_eq]; exact pv_nI hp
    · rw [upd_ne c]; exact hv i (by omega)
