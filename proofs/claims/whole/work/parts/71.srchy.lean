/-! PURE: the reference's search -/
def cnF (p j : Nat) : List (Nat → Int32) → Nat
  | [] => 0
  | g :: G => (if g j = nI p then 1 else 0) + cnF p j G
def askF (a2 : Int32) (j : Nat) : List (Nat → Int32) → Nat → Int32 → Int32
  | [], _, old => old
  | g :: G, A, old => askF a2 j G (A + 1) (if nI A = a2 then g j else old)
theorem cnF_app (p j : Nat) : ∀ G G' : List (Nat → Int32), cnF p j (G ++ G') = cnF p j G + cnF p j G' := by
  intro G
  induction G with
  | nil => intro G'; show _ = 0 + _; rw [Nat.zero_add]; rfl
  | cons g G ih => intro G'; show _ + cnF p j (G ++ G') = _ + cnF p j G + _; rw [ih]; omega
theorem askF_app (a2 : Int32) (j : Nat) : ∀ (G G' : List (Nat → Int32)) A old, askF a2 j (G ++ G') A old = askF a2 j G' (A + G.length) (askF a2 j G A old) := by
  intro G
  induction G with
  | nil => intro G' A old; rfl
  | cons g G ih =>
    intro G' A old
    show askF a2 j (G ++ G') (A + 1) _ = askF a2 j G' (A + (G.length + 1)) (askF a2 j G (A + 1) _)
    rw [ih, show A + 1 + G.length = A + (G.length + 1) by omega]
/-- what a stretch of the search has left behind -/
def Eff (n s : Nat) (a2 : Int32) (G : List (Nat → Int32)) (A : Nat) (μ μ' : Mm) : Prop := (∀ t i, ¬ ((t = 5 ∨ t = 6 ∨ t = 7 ∨ t = 8) ∧ i = 0) → μ' t i = μ t i) ∧ (∀ j, j < s → μ' 5 0 j = μ 5 0 j ∧ μ' 8 0 j = μ 8 0 j) ∧ (∀ p j, p < 8 → j < n → μ' 6 0 (8 * p + j) = μ 6 0 (8 * p + j) + nI (cnF p j G)) ∧ ∀ j, j < n → μ' 7 0 j = askF a2 j G A (μ 7 0 j)
theorem Eff.nil {n s : Nat} {a2 : Int32} {A : Nat} {μ : Mm} : Eff n s a2 [] A μ μ := ⟨fun _ _ _ => rfl, fun _ _ => ⟨rfl, rfl⟩, fun p j _ _ => by show _ = _ + nI 0; rw [show nI 0 = (0 : Int32) from rfl, i32_add0], fun _ _ => rfl⟩
theorem Eff.tr {n s s' : Nat} {a2 : Int32} {G G' : List (Nat → Int32)} {A : Nat} {a b c : Mm} (h : Eff n s a2 G A a b) (k : Eff n s' a2 G' (A + G.length) b c) (hs : s ≤ s') : Eff n s a2 (G ++ G') A a c := by
  obtain ⟨h1, h2, h3, h4⟩ := h
  obtain ⟨k1, k2, k3, k4⟩ := k
  refine ⟨fun t i x => (k1 t i x).trans (h1 t i x), fun j hj => ⟨(k2 j (by omega)).1.trans (h2 j hj).1, (k2 j (by omega)).2.trans (h2 j hj).2⟩, fun p j hp hj => ?_, fun j hj => ?_⟩
  · rw [k3 p j hp hj, h3 p j hp hj, cnF_app, Int32.add_assoc, nI_add]
  · rw [k4 j hj, h4 j hj, askF_app]
theorem Eff.weak {n s s' : Nat} {a2 : Int32} {G : List (Nat → Int32)} {A : Nat} {a b : Mm} (h : Eff n s a2 G A a b) (hs : s' ≤ s) : Eff n s' a2 G A a b := ⟨h.1, fun j hj => h.2.1 j (by omega), h.2.2⟩
/-- writing in the row and in the places from a seat on -/
theorem Eff.set {n s q : Nat} {a2 : Int32} {A : Nat} {μ : Mm} {t : Nat} {x : Int32} (ht : t = 5 ∨ t = 8) (hq : s ≤ q) : Eff n s a2 [] A μ (mset μ t 0 q x) := by
  refine ⟨fun t' i c => mset_ne (by omega), fun j hj => ⟨?_, ?_⟩, fun p j _ _ => ?_, fun j _ => ?_⟩
  · rw [mset_ap, if_neg (by omega)]
  · rw [mset_ap, if_neg (by omega)]
  · rw [mset_ne (by omega)]; show _ = _ + nI 0; rw [show nI 0 = (0 : Int32) from rfl, i32_add0]
  · rw [mset_ne (by omega)]; rfl
/-- a row that holds is taken down -/
theorem leaf_Y {n A : Nat} {u : Nat → Int32} {a2 a6 a7 a8 : Int32} {μ : Mm} {K : Int32 → Mm → Prop} (h8 : n ≤ 8) (en : μ 0 0 7 = nI n) (hu : ∀ j, j < n → μ 5 0 j = u j) (hv : pvs u n) : ∃ μ2, Eff n 8 a2 [u] A μ μ2 ∧ ∀ k295 : Mm → Prop, k295 μ2 → ∃ m, f_X7_seatingsOf_228 a2 (nI A) a6 a7 a8 K k295 m (0 : Int32) μ := by
  have main : ∀ (d s : Nat) (μ' : Mm), s + d = n → (∀ t i, ¬ ((t = 6 ∨ t = 7) ∧ i = 0) → μ' t i = μ t i) → (∀ p j, p < 8 → j < 8 → μ' 6 0 (8 * p + j) = if j < s then μ 6 0 (8 * p + j) + nI (cnF p j [u]) else μ 6 0 (8 * p + j)) → (∀ j, μ' 7 0 j = if j < s then askF a2 j [u] A (μ 7 0 j) else μ 7 0 j) → ∃ μ2, Eff n 8 a2 [u] A μ μ2 ∧ ∀ k295 : Mm → Prop, k295 μ2 → f_X7_seatingsOf_228 a2 (nI A) a6 a7 a8 K k295 (d + 1) (nI s) μ' := by
    intro d
    induction d with
    | zero =>
      intro s μ' hs g1 g2 g3
      have : s = n := by omega
      subst this
      refine ⟨μ', ⟨fun t i c => g1 t i (by omega), fun j hj => ⟨by rw [g1 5 0 (by omega)], by rw [g1 8 0 (by omega)]⟩, fun p j hp hj => ?_, fun j hj => ?_⟩, fun k295 h => ?_⟩
      · rw [g2 p j hp (by omega), if_pos hj]
      · rw [g3 j, if_pos hj]
      · rw [f_X7_seatingsOf_228, g1 0 0 (by omega), en, if_pos (nI_le (by omega) (by omega))]
        exact h
    | succ d ih =>
      intro s μ' hs g1 g2 g3
      have t8 : vp_in (nI s) 8 := vp_in_nI (by omega) (by omega)
      have u5 : μ' 5 0 s = u s := by rw [g1 5 0 (by omega)]; exact hu s (by omega)
      -- the last step of a seat: what was asked for
      have e269 : ∀ ν : Mm, (∀ t i, ¬ ((t = 6 ∨ t = 7) ∧ i = 0) → ν t i = μ t i) → (∀ p j, p < 8 → j < 8 → ν 6 0 (8 * p + j) = if j < s + 1 then μ 6 0 (8 * p + j) + nI (cnF p j [u]) else μ 6 0 (8 * p + j)) → (∀ j, ν 7 0 j = if j < s then askF a2 j [u] A (μ 7 0 j) else μ 7 0 j) → ∃ μ2, Eff n 8 a2 [u] A μ μ2 ∧ ∀ k295 : Mm → Prop, k295 μ2 → f_X7_seatingsOf_269 a2 (nI A) a6 a7 a8 (nI s) K (f_X7_seatingsOf_228 a2 (nI A) a6 a7 a8 K k295 (d + 1)) ν := by
        intro ν q1 q2 q3
        by_cases c : nI A = a2
        · obtain ⟨μ2, E2, R2⟩ := ih (s + 1) (mset ν 7 0 s (ν 5 0 s)) (by omega) (fun t i x => by rw [mset_ne (by omega)]; exact q1 t i x) (fun p j hp hj => by rw [mset_ne (by omega)]; exact q2 p j hp hj) (fun j => by
            rw [mset_ap]
            by_cases g : j = s
            · subst g
              rw [if_pos ⟨rfl, rfl, rfl⟩, if_pos (by omega), q1 5 0 (by omega), hu j (by omega)]
              show _ = if nI A = a2 then u j else _
              rw [if_pos c]
            · rw [if_neg (by omega), q3 j]
              by_cases g2 : j < s
              · rw [if_pos g2, if_pos (by omega)]
              · rw [if_neg g2, if_neg (by omega)])
          refine ⟨μ2, E2, fun k295 h => ?_⟩
          unfold f_X7_seatingsOf_269
          rw [nI_clamp (by omega), nI_1, if_pos c]
          exact ⟨t8, t8, _, rfl, R2 k295 h⟩
        · obtain ⟨μ2, E2, R2⟩ := ih (s + 1) ν (by omega) q1 q2 (fun j => by
            rw [q3 j]
            by_cases g2 : j < s
            · rw [if_pos g2, if_pos (by omega)]
            · rw [if_neg g2]
              by_cases g3 : j < s + 1
              · rw [if_pos g3]
                show _ = if nI A = a2 then u j else _
                rw [if_neg c]
              · rw [if_neg g3])
          refine ⟨μ2, E2, fun k295 h => ?_⟩
          unfold f_X7_seatingsOf_269
          rw [nI_1, if_neg c]
          exact R2 k295 h
      have cn1 : ∀ p j, cnF p j [u] = if u j = nI p then 1 else 0 := fun p j => by show _ + 0 = _; rw [Nat.add_zero]
      rcases hv s (by omega) with c | ⟨x, hx, c⟩
      · obtain ⟨μ2, E2, R2⟩ := e269 μ' g1 (fun p j hp hj => by
          rw [g2 p j hp hj]
          by_cases g : j < s
          · rw [if_pos g, if_pos (by omega)]
          · rw [if_neg g]
            by_cases g' : j < s + 1
            · have : j = s := by omega
              subst this
              rw [if_pos g', cn1, if_neg (fun e => nI_ne_m1 (n := p) (by omega) (e.symm.trans c)), show nI 0 = (0 : Int32) from rfl, i32_add0]
            · rw [if_neg g']) g3
        refine ⟨μ2, E2, fun k295 h => ?_⟩
        rw [f_X7_seatingsOf_228, g1 0 0 (by omega), en, if_neg (nI_ge (by omega) (by omega)), nI_clamp (by omega), u5, c, if_pos (by decide)]
        exact ⟨t8, R2 k295 h⟩
      · have t64 : vp_in (nI (8 * x + s)) 64 := vp_in_nI (by omega) (by omega)
        obtain ⟨μ2, E2, R2⟩ := e269 (mset μ' 6 0 (8 * x + s) (μ' 6 0 (8 * x + s) + 1)) (fun t i z => by rw [mset_ne (by omega)]; exact g1 t i z) (fun p j hp hj => by
          rw [mset_ap]
          by_cases g : p = x ∧ j = s
          · obtain ⟨rfl, rfl⟩ := g
            rw [if_pos ⟨rfl, rfl, rfl⟩, if_pos (by omega), g2 p j hp hj, if_neg (by omega), cn1, if_pos c]; rfl
          · rw [if_neg (by omega), g2 p j hp hj]
            by_cases g' : j < s
            · rw [if_pos g', if_pos (by omega)]
            · rw [if_neg g']
              by_cases g'' : j < s + 1
              · have : j = s := by omega
                subst this
                have : ¬ p = x := fun e => g ⟨e, rfl⟩
                rw [if_pos g'', cn1, if_neg (fun e => this ((nI_eq (by omega) (by omega)).mp (e.symm.trans c))), show nI 0 = (0 : Int32) from rfl, i32_add0]
              · rw [if_neg g'']) (fun j => by rw [mset_ne (by omega)]; exact g3 j)
        refine ⟨μ2, E2, fun k295 h => ?_⟩
        rw [f_X7_seatingsOf_228, g1 0 0 (by omega), en, if_neg (nI_ge (by omega) (by omega)), nI_clamp (by omega), u5, c, if_neg (nI_pos (by omega)), show ((8 : Int32) * nI x) + nI s = nI (8 * x + s) by simp only [i32_lit, pk_mul, nI_add], nI_clamp (by omega)]
        exact ⟨t8, t8, t64, t64, _, rfl, R2 k295 h⟩
  obtain ⟨μ2, E2, R2⟩ := main n 0 μ (by omega) (fun _ _ _ => rfl) (fun p j _ _ => by rw [if_neg (by omega)]) (fun j => by rw [if_neg (by omega)])
  exact ⟨μ2, E2, fun k295 h => ⟨n + 1, R2 k295 h⟩⟩
