/-! PURE: the reference's search as a whole -/
theorem many_Y {U : Int32} {μ : Mm} {K : Int32 → Mm → Prop} (h : K (nI (coF (fun k => bt U k) 8)) μ) : f_X7_many U μ K := by
  have main : ∀ (d j : Nat), j + d = 8 → f_X7_many_4 U K (d + 1) (nI (coF (fun k => bt U k) j)) (nI j) μ := by
    intro d
    induction d with
    | zero =>
      intro j hj
      have : j = 8 := by omega
      subst this
      rw [f_X7_many_4, if_pos (by decide)]
      exact h
    | succ d ih =>
      intro j hj
      have nx := ih (j + 1) (by omega)
      rw [f_X7_many_4, if_neg (show ¬ (8 : Int32) ≤ nI j from nI_ge (a := j) (b := 8) (by omega) (by omega)), has_ev U j (by omega), nI_1]
      unfold coF at nx
      by_cases c : bt U j = true
      · rw [if_pos c] at nx ⊢
        rw [nI_1]; exact nx
      · rw [if_neg c] at nx ⊢
        rw [i32_add0]; exact nx
  exact ⟨9, main 8 0 (by omega)⟩
theorem zero_Y {a1 a2 : Int32} {μ : Mm} {K : Int32 → Mm → Prop} {k21 : Mm → Prop} (h : ∀ μ', (∀ j, j < 64 → μ' 6 0 j = 0) → (∀ t i, ¬ (t = 6 ∧ i = 0) → μ' t i = μ t i) → k21 μ') : ∃ m, f_X7_seatingsOf_2 a1 a2 K k21 m (0 : Int32) μ := by
  have main : ∀ (d j : Nat) (ν : Mm), j + d = 64 → (∀ i, i < j → ν 6 0 i = 0) → (∀ t i, ¬ (t = 6 ∧ i = 0) → ν t i = μ t i) → f_X7_seatingsOf_2 a1 a2 K k21 (d + 1) (nI j) ν := by
    intro d
    induction d with
    | zero =>
      intro j ν hj g1 g2
      have : j = 64 := by omega
      subst this
      rw [f_X7_seatingsOf_2, if_pos (by decide)]
      exact h ν g1 g2
    | succ d ih =>
      intro j ν hj g1 g2
      rw [f_X7_seatingsOf_2, if_neg (show ¬ (64 : Int32) ≤ nI j from nI_ge (a := j) (b := 64) (by omega) (by omega)), nI_clamp (by omega), nI_1]
      refine ⟨vp_in_nI (by omega) (by omega), _, rfl, ih (j + 1) _ (by omega) (fun i hi => ?_) (fun t i c => by rw [mset_ne c]; exact g2 t i c)⟩
      rw [mset_ap]
      by_cases c : i = j
      · rw [if_pos ⟨rfl, rfl, c⟩]
      · rw [if_neg (by omega)]; exact g1 i (by omega)
  exact ⟨65, main 64 0 μ (by omega) (fun i hi => by omega) (fun _ _ _ => rfl)⟩
/-- all rows that hold, in their order -/
def GL (m : Nat → Int32) (k n : Nat) (U : Int32) : List (Nat → Int32) := (lv n 0 U (n - coF (fun j => bt U j) 8) (fun _ => -1)).filter (HH m k n)
theorem GL_len {m : Nat → Int32} {k n : Nat} {U : Int32} (h8 : n ≤ 8) (hc : coF (fun j => bt U j) 8 ≤ n) : (GL m k n U).length ≤ 40320 := by
  have h1 : (GL m k n U).length ≤ (lv n 0 U (n - coF (fun j => bt U j) 8) (fun _ => -1)).length := List.length_filter_le _ _
  have h2 := lv_len n 0 U (n - coF (fun j => bt U j) 8) (fun _ => -1) (by omega)
  have h3 := fac_8 n h8
  omega
theorem seatingsOf_Y {m : Nat → Int32} {k n : Nat} {U a2 : Int32} {μ : Mm} {K : Int32 → Mm → Prop} (hk : k < 7) (h1 : 1 ≤ n) (h8 : n ≤ 8) (hpp : PP (fun j => m (4 + j)) (m 0) (fun p => m (68 + p)) (m 1)) (hq : QQ m k n μ) (hc : coF (fun j => bt U j) 8 ≤ n) (h : ∀ μ', (∀ t i, ¬ ((t = 5 ∨ t = 6 ∨ t = 7 ∨ t = 8) ∧ i = 0) → μ' t i = μ t i) → (∀ p j, p < 8 → j < n → μ' 6 0 (8 * p + j) = nI (cnF p j (GL m k n U))) → (∀ j, j < n → μ' 7 0 j = askF a2 j (GL m k n U) 0 (μ 7 0 j)) → K (nI (GL m k n U).length) μ') : f_X7_seatingsOf U a2 μ K := by
  refine zero_Y (fun μ1 g1 g2 => many_Y ?_)
  have e7 : μ1 0 0 7 = nI n := by rw [g2 0 0 (by omega)]; exact hq.2.2
  rw [e7, show nI n - nI (coF (fun k => bt U k) 8) = nI (n - coF (fun k => bt U k) 8) from pk_sub hc, if_pos (nI_pos' (by omega))]
  refine ⟨_, rfl, ?_⟩
  have q2 : QQ m k n (mset μ1 8 0 0 (-2)) := ⟨by rw [mset_ne (by omega), g2 1 0 (by omega)]; exact hq.1, by rw [mset_ne (by omega), g2 0 0 (by omega)]; exact hq.2.1, by rw [mset_ne (by omega)]; exact e7⟩
  obtain ⟨d, rfl⟩ : ∃ d, n = d + 1 := ⟨n - 1, by omega⟩
  refine dfs_Y (m := m) (k := k) (n := d + 1) (a2 := a2) (K := K) hk h1 h8 hpp d 0 U (d + 1 - coF (fun k => bt U k) 8) 0 (fun _ => -1) (mset μ1 8 0 0 (-2)) (by omega) (by omega) q2 (fun j hj => by omega) (fun j hj => by omega) (by rw [mset_ap, if_pos ⟨rfl, rfl, rfl⟩]) (fun μ' hE => ⟨1, ?_⟩)
  rw [f_X7_seatingsOf_62, if_pos (by decide), Nat.zero_add]
  refine h μ' (fun t i c => ?_) (fun p j hp hj => ?_) (fun j hj => ?_)
  · rw [hE.1 t i c, mset_ne (by omega), g2 t i (by omega)]
  · rw [hE.2.2.1 p j hp hj, mset_ne (by omega), g1 _ (by omega), i32_add0']; rfl
  · rw [hE.2.2.2 j hj, mset_ne (by omega), g2 7 0 (by omega)]; rfl
