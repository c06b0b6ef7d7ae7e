/-! PURE: the nearest taken seats -/
/-- the last taken seat before one -/
def lastT (v : Nat → Int32) : Nat → Option Nat
  | 0 => none
  | j + 1 => if v j = -1 then lastT v j else some j
def ltV : Option Nat → Int32
  | none => -1
  | some l => nI l
theorem lastT_some {v : Nat → Int32} : ∀ a l, lastT v a = some l → l < a ∧ ¬ v l = -1 ∧ ∀ j, l < j → j < a → v j = -1 := by
  intro a
  induction a with
  | zero => intro l h; simp [lastT] at h
  | succ a ih =>
    intro l h
    unfold lastT at h
    by_cases c : v a = -1
    · rw [if_pos c] at h
      obtain ⟨x, y, z⟩ := ih l h
      refine ⟨by omega, y, fun j h1 h2 => ?_⟩
      by_cases e : j = a
      · subst e; exact c
      · exact z j h1 (by omega)
    · rw [if_neg c] at h
      have := Option.some.inj h
      subst this
      exact ⟨by omega, c, fun j h1 h2 => by omega⟩
theorem lastT_none {v : Nat → Int32} : ∀ a, lastT v a = none → ∀ j, j < a → v j = -1 := by
  intro a
  induction a with
  | zero => intro _ j h; omega
  | succ a ih =>
    intro h j hj
    unfold lastT at h
    by_cases c : v a = -1
    · rw [if_pos c] at h
      by_cases e : j = a
      · subst e; exact c
      · exact ih h j (by omega)
    · rw [if_neg c] at h; exact absurd h (by simp)
theorem lastT_is {v : Nat → Int32} {l : Nat} (hl : ¬ v l = -1) : ∀ a, l < a → (∀ j, l < j → j < a → v j = -1) → lastT v a = some l := by
  intro a
  induction a with
  | zero => intro h; omega
  | succ a ih =>
    intro h1 h2
    unfold lastT
    by_cases e : l = a
    · subst e; rw [if_neg hl]
    · rw [if_pos (h2 a (by omega) (by omega))]
      exact ih (by omega) (fun j x y => h2 j x (by omega))
theorem lastT_congr {v v' : Nat → Int32} : ∀ a, (∀ j, j < a → v j = v' j) → lastT v a = lastT v' a := by
  intro a
  induction a with
  | zero => intro _; rfl
  | succ a ih => intro e; unfold lastT; rw [e a (by omega), ih (fun j hj => e j (by omega))]
/-- the neighbour on the left, where the look doesn't go round -/
theorem nb_left {v : Nat → Int32} {n t : Nat} {rnd : Bool} : ∀ r a, a ≤ t → (rnd = false ∨ r ≤ a) → nbI v n t rnd true r a = match lastT v a with
    | none => -1
    | some l => if a - l ≤ r then v l else -1 := by
  intro r
  induction r with
  | zero =>
    intro a ha hr
    cases e : lastT v a with
    | none => rfl
    | some l =>
      have := (lastT_some a l e).1
      show (-1 : Int32) = if a - l ≤ 0 then v l else -1
      rw [if_neg (by omega)]
  | succ r ih =>
    intro a ha hr
    cases a with
    | zero =>
      have : rnd = false := hr.resolve_right (by omega)
      subst this
      rfl
    | succ a =>
      unfold nbI
      have es : stp rnd n (a + 1) true = some a := by unfold stp; simp
      rw [es]
      dsimp only
      rw [if_neg (by omega)]
      by_cases c : v a = -1
      · rw [if_pos c, ih a (by omega) (hr.imp id (fun g => by omega))]
        have el : lastT v (a + 1) = lastT v a := by rw [lastT, if_pos c]
        rw [el]
        cases e : lastT v a with
        | none => rfl
        | some l =>
          have := (lastT_some a l e).1
          dsimp only
          by_cases g : a - l ≤ r
          · rw [if_pos g, if_pos (by omega)]
          · rw [if_neg g, if_neg (by omega)]
      · rw [if_neg c]
        have el : lastT v (a + 1) = some a := by rw [lastT, if_neg c]
        rw [el]
        dsimp only
        rw [if_pos (by omega)]
/-- the neighbour on the right, where one sits there -/
theorem nb_right {v : Nat → Int32} {n t s : Nat} {rnd : Bool} (hs : s < n) (ht : t < s) (hv : ¬ v s = -1) (he : ∀ j, t < j → j < s → v j = -1) : ∀ r a, t ≤ a → a < s → nbI v n t rnd false r a = if s - a ≤ r then v s else -1 := by
  intro r
  induction r with
  | zero => intro a h1 h2; rw [if_neg (by omega)]; rfl
  | succ r ih =>
    intro a h1 h2
    unfold nbI
    have es : stp rnd n a false = some (a + 1) := by unfold stp; simp only; rw [if_neg (by omega)]
    rw [es]
    dsimp only
    rw [if_neg (by omega)]
    by_cases c : a + 1 = s
    · rw [c, if_neg hv, if_pos (by omega)]
    · rw [if_pos (he (a + 1) (by omega) (by omega)), ih (a + 1) (by omega) (by omega)]
      by_cases g : s - (a + 1) ≤ r
      · rw [if_pos g, if_pos (by omega)]
      · rw [if_neg g, if_neg (by omega)]
/-- ... and where nobody sits after one, and the look doesn't go round -/
theorem nb_right0 {v : Nat → Int32} {n t : Nat} {rnd : Bool} (he : ∀ j, t < j → j < n → v j = -1) : ∀ r a, t ≤ a → a < n → (rnd = false ∨ a + r < n) → nbI v n t rnd false r a = -1 := by
  intro r
  induction r with
  | zero => intro a _ _ _; rfl
  | succ r ih =>
    intro a h1 h2 hr
    unfold nbI
    by_cases c : a + 1 = n
    · have : rnd = false := hr.resolve_right (by omega)
      subst this
      have es : stp false n a false = none := by unfold stp; simp only; rw [if_pos c]
      rw [es]
    · have es : stp rnd n a false = some (a + 1) := by unfold stp; simp only; rw [if_neg c]
      rw [es]
      dsimp only
      rw [if_neg (by omega), if_pos (he (a + 1) (by omega) (by omega))]
      exact ih (a + 1) (by omega) (by omega) (hr.imp id (fun g => by omega))
