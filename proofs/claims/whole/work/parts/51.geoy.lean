/-! PURE: who sits beside whom, in the reference -/
theorem isThere_Y {a : Int32} {n : Nat} {μ : Mm} {K : Bool → Mm → Prop} (en : μ 0 0 7 = nI n) (h8 : n ≤ 8) : f_X7_isThere a μ K = K (benchB a n) μ := by
  unfold f_X7_isThere benchB
  rw [in_inZ, en, Int32.toInt_toInt64, pred_toInt (by omega)]
  rfl
theorem whoIsOn_Y {q n : Nat} {μ : Mm} {K : Int32 → Mm → Prop} (en : μ 0 0 7 = nI n) (h8 : n ≤ 8) (hq : q < n) (h : K (μ 5 0 q) μ) : f_X7_whoIsOn (nI q) μ K := by
  unfold f_X7_whoIsOn
  rw [isThere_Y en h8, benchB_nI hq h8, if_pos rfl, nI_clamp (by omega)]
  exact ⟨vp_in_nI (by omega) (by omega), h⟩
theorem whoIsOn_off {a : Int32} {n : Nat} {μ : Mm} {K : Int32 → Mm → Prop} (en : μ 0 0 7 = nI n) (h8 : n ≤ 8) (hq : benchB a n = false) (h : K (-1) μ) : f_X7_whoIsOn a μ K := by
  unfold f_X7_whoIsOn
  rw [isThere_Y en h8, hq, if_neg (by decide)]
  exact h
theorem benchB_m1 (n : Nat) : benchB (-1) n = false := by
  unfold benchB inZ
  apply decide_eq_false
  rw [show (-1 : Int32).toInt = -1 by decide]
  omega
theorem benchB_n {n : Nat} (h : n ≤ 8) : benchB (nI n) n = false := by
  unfold benchB inZ
  apply decide_eq_false
  rw [nI_toInt (by omega)]
  omega
theorem stp_next {n a : Nat} {left : Bool} (h8 : n ≤ 8) (ha : a < n) : (∃ q, stp false n a left = some q ∧ q < n ∧ nI a + sideV left = nI q ∧ ((left = true ∧ q + 1 = a) ∨ (left = false ∧ q = a + 1))) ∨ (stp false n a left = none ∧ benchB (nI a + sideV left) n = false ∧ ((left = true ∧ a = 0) ∨ (left = false ∧ a + 1 = n))) := by
  cases left with
  | true =>
    cases a with
    | zero => exact Or.inr ⟨rfl, by rw [show nI 0 + sideV true = -1 by decide]; exact benchB_m1 n, Or.inl ⟨rfl, rfl⟩⟩
    | succ a => exact Or.inl ⟨a, by unfold stp; simp, by omega, nI_m1 a, Or.inl ⟨rfl, rfl⟩⟩
  | false =>
    by_cases c : a + 1 = n
    · exact Or.inr ⟨by unfold stp; simp [c], by rw [show nI a + sideV false = nI (a + 1) from nI_1 a, c]; exact benchB_n h8, Or.inr ⟨rfl, c⟩⟩
    · exact Or.inl ⟨a + 1, by unfold stp; simp [c], by omega, nI_1 a, Or.inr ⟨rfl, rfl⟩⟩
theorem pv_neg {x : Int32} (h : pv x) : (x < 0 ↔ x = -1) ∧ (0 ≤ x ↔ ¬ x = -1) := by
  rcases h with rfl | ⟨p, hp, rfl⟩
  · decide
  · have a := nI_pos (n := p) (by omega)
    have b := nI_pos' (n := p) (by omega)
    have c := nI_ne_m1 (n := p) (by omega)
    exact ⟨⟨fun z => absurd z a, fun z => absurd z c⟩, ⟨fun _ => c, fun _ => b⟩⟩
theorem rem_next {n a q : Nat} {left : Bool} (h1 : 1 ≤ n) (h8 : n ≤ 8) (ha : a < n) (e : stp true n a left = some q) : ((nI a + sideV left) + nI n) - ((nI a + sideV left) + nI n) / nI n * nI n = nI q := by
  have key : ∃ x, x < 100 ∧ (nI a + sideV left) + nI n = nI x ∧ x % n = q := by
    cases left with
    | true =>
      refine ⟨a + n - 1, by omega, ?_, ?_⟩
      · show (nI a + (-1)) + nI n = _
        obtain ⟨m, rfl⟩ : ∃ m, n = m + 1 := ⟨n - 1, by omega⟩
        rw [show a + (m + 1) - 1 = a + m by omega, Int32.add_assoc, Int32.add_comm (-1), nI_m1, nI_add]
      · unfold stp at e
        by_cases c : a = 0
        · subst c; simp at e; rw [← e]; rw [show 0 + n - 1 = n - 1 by omega]; exact Nat.mod_eq_of_lt (by omega)
        · simp [c] at e; rw [← e, show a + n - 1 = (a - 1) + n by omega, Nat.add_mod_right]; exact Nat.mod_eq_of_lt (by omega)
    | false =>
      refine ⟨a + 1 + n, by omega, ?_, ?_⟩
      · show (nI a + 1) + nI n = _
        rw [nI_1, nI_add]
      · unfold stp at e
        rw [Nat.add_mod_right]
        by_cases c : a + 1 = n
        · simp [c] at e; rw [← e, c, Nat.mod_self]
        · simp [c] at e; rw [← e]; exact Nat.mod_eq_of_lt (by omega)
  obtain ⟨x, hx, e1, e2⟩ := key
  rw [e1, pk_rem (by omega) (by omega) (by omega), e2]
theorem stp_true {n a : Nat} {left : Bool} : ∃ q, stp true n a left = some q := by
  unfold stp
  cases left <;> simp only <;> split <;> exact ⟨_, rfl⟩
theorem besideOf_Y {μ : Mm} {k n s : Nat} {left : Bool} {K : Int32 → Mm → Prop} (hk : k < 7) (ek : μ 0 0 6 = nI k) (en : μ 0 0 7 = nI n) (h1 : 1 ≤ n) (h8 : n ≤ 8) (hs : s < n) (hv : pvs (μ 5 0) n) (h : K (nbK (μ 5 0) k n s left) μ) : f_X7_besideOf (nI s) (sideV left) μ K := by
  have ring : (k = 2 ∨ k = 5) → f_X7_besideOf_20 (nI s) (sideV left) (nI s + sideV left) K μ := by
    intro hk2
    obtain ⟨q, eq⟩ := stp_true (n := n) (a := s) (left := left)
    have hq := stp_lt h1 hs eq
    unfold f_X7_besideOf_20
    rw [en, ek]
    have n0 : ¬ nI n = 0 := nI_ne0 (by omega) (by omega)
    refine ⟨n0, n0, ?_⟩
    rw [rem_next h1 h8 hs eq, nI_clamp (by omega)]
    have t : vp_in (nI q) 8 := vp_in_nI (by omega) (by omega)
    have hr : rndK k = true := by rcases hk2 with rfl | rfl <;> rfl
    unfold nbK at h
    rw [hr] at h
    by_cases c : q = s
    · rw [if_pos (by rw [c])]
      have h' : K (nbI (μ 5 0) n s true left 1 s) μ ∨ K (nbI (μ 5 0) n s true left 2 s) μ := by
        rcases hk2 with rfl | rfl
        · exact Or.inl h
        · exact Or.inr h
      rcases h' with h | h <;> (unfold nbI at h; rw [eq] at h; simp only [if_pos c] at h; exact h)
    · rw [if_neg (fun z => c ((nI_eq (by omega) (by omega)).mp z))]
      rcases hk2 with rfl | rfl
      · rw [if_pos (by decide)]
        refine ⟨t, ?_⟩
        have h : K (nbI (μ 5 0) n s true left 1 s) μ := h
        unfold nbI at h
        rw [eq] at h
        simp only [if_neg c] at h
        by_cases c2 : μ 5 0 q = -1
        · rw [if_pos c2] at h; rw [c2]; exact h
        · rw [if_neg c2] at h; exact h
      · rw [if_neg (by decide)]
        refine ⟨t, ?_⟩
        have h : K (nbI (μ 5 0) n s true left 2 s) μ := h
        unfold nbI at h
        rw [eq] at h
        simp only [if_neg c] at h
        by_cases c2 : μ 5 0 q = -1
        · rw [if_pos c2] at h
          rw [if_pos (by rw [c2]; decide)]
          obtain ⟨q2, eq2⟩ := stp_true (n := n) (a := q) (left := left)
          have hq2 := stp_lt h1 hq eq2
          rw [rem_next h1 h8 hq eq2, nI_clamp (by omega)]
          unfold nbI at h
          rw [eq2] at h
          simp only at h
          by_cases c3 : q2 = s
          · rw [if_pos (by rw [c3])]; rw [if_pos c3] at h; exact h
          · rw [if_neg (fun z => c3 ((nI_eq (by omega) (by omega)).mp z))]
            rw [if_neg c3] at h
            refine ⟨vp_in_nI (by omega) (by omega), ?_⟩
            by_cases c4 : μ 5 0 q2 = -1
            · rw [if_pos c4] at h; rw [c4]; exact h
            · rw [if_neg c4] at h; exact h
        · rw [if_neg c2] at h
          rw [if_neg (fun z => c2 ((pv_neg (hv q hq)).1.mp z))]
          exact ⟨t, h⟩
  have bed : ∀ (r a : Nat), a < n → ((left = true ∧ a ≤ s ∧ a ≤ r) ∨ (left = false ∧ s ≤ a ∧ n ≤ a + 1 + r)) → K (nbI (μ 5 0) n s false left r a) μ → f_X7_besideOf_109 (sideV left) K (r + 1) (nI a + sideV left) μ := by
    intro r
    induction r with
    | zero =>
      intro a ha hc hK
      rw [f_X7_besideOf_109, isThere_Y en h8]
      rcases stp_next (left := left) h8 ha with ⟨q, e1, e2, e3, e4⟩ | ⟨e1, e2, e3⟩
      · exfalso; rcases hc with ⟨l, _, _⟩ | ⟨l, _, _⟩ <;> rcases e4 with ⟨l', _⟩ | ⟨l', _⟩ <;> first | (rw [l] at l'; exact absurd l' (by decide)) | omega
      · rw [e2, if_neg (by decide)]
        exact whoIsOn_off en h8 e2 hK
    | succ r ih =>
      intro a ha hc hK
      rw [f_X7_besideOf_109, isThere_Y en h8]
      unfold nbI at hK
      rcases stp_next (left := left) h8 ha with ⟨q, e1, e2, e3, e4⟩ | ⟨e1, e2, e3⟩
      · rw [e1] at hK
        simp only at hK
        rw [if_neg (by rcases hc with ⟨l, _, _⟩ | ⟨l, _, _⟩ <;> rcases e4 with ⟨l', _⟩ | ⟨l', _⟩ <;> first | (rw [l] at l'; exact absurd l' (by decide)) | omega)] at hK
        rw [e3, benchB_nI e2 h8, if_pos rfl, nI_clamp (by omega)]
        refine ⟨vp_in_nI (by omega) (by omega), ?_⟩
        by_cases c2 : μ 5 0 q = -1
        · rw [if_pos c2] at hK
          rw [if_neg (fun z => (pv_neg (hv q e2)).2.mp z c2)]
          exact ih q e2 (by rcases hc with ⟨l, _, _⟩ | ⟨l, _, _⟩ <;> rcases e4 with ⟨l', _⟩ | ⟨l', _⟩ <;> first | (rw [l] at l'; exact absurd l' (by decide)) | exact Or.inl ⟨l, by omega, by omega⟩ | exact Or.inr ⟨l, by omega, by omega⟩) hK
        · rw [if_neg c2] at hK
          rw [if_pos ((pv_neg (hv q e2)).2.mpr c2)]
          exact whoIsOn_Y en h8 e2 hK
      · rw [e1] at hK
        rw [e2, if_neg (by decide)]
        exact whoIsOn_off en h8 e2 hK
  unfold f_X7_besideOf
  rw [ek]
  by_cases k2 : k = 2
  · rw [if_pos (by rw [k2]; rfl)]; exact ring (Or.inl k2)
  · rw [if_neg (show ¬ nI k = (2 : Int32) from fun z => k2 ((nI_eq (a := k) (b := 2) (by omega) (by omega)).mp z))]
    by_cases k5 : k = 5
    · rw [if_pos (by rw [k5]; rfl)]; exact ring (Or.inr k5)
    · rw [if_neg (show ¬ nI k = (5 : Int32) from fun z => k5 ((nI_eq (a := k) (b := 5) (by omega) (by omega)).mp z))]
      by_cases k4 : k = 4
      · rw [if_pos (by rw [k4]; rfl)]
        subst k4
        refine ⟨9, bed 8 s hs ?_ h⟩
        cases left
        · exact Or.inr ⟨rfl, by omega, by omega⟩
        · exact Or.inl ⟨rfl, by omega, by omega⟩
      · rw [if_neg (show ¬ nI k = (4 : Int32) from fun z => k4 ((nI_eq (a := k) (b := 4) (by omega) (by omega)).mp z)), isThere_Y en h8]
        have hr : rndK k = false := by
          have : k = 0 ∨ k = 1 ∨ k = 3 ∨ k = 6 := by omega
          rcases this with rfl | rfl | rfl | rfl <;> rfl
        unfold nbK at h
        rw [hr] at h
        have k1 : (nI k = (1 : Int32)) ↔ k = 1 := ⟨fun z => (nI_eq (a := k) (b := 1) (by omega) (by omega)).mp z, fun z => by rw [z]; rfl⟩
        have hre : ¬ k = 1 → reaK k = 1 := by
          intro c
          have : k = 0 ∨ k = 3 ∨ k = 6 := by omega
          rcases this with rfl | rfl | rfl <;> rfl
        rcases stp_next (left := left) h8 hs with ⟨q, e1, e2, e3, e4⟩ | ⟨e1, e2, e3⟩
        · rw [e3, benchB_nI e2 h8, if_pos rfl, nI_clamp (by omega)]
          refine ⟨vp_in_nI (by omega) (by omega), ?_⟩
          have qs : ¬ q = s := by omega
          by_cases c2 : μ 5 0 q = -1
          · rw [if_neg (fun z => (pv_neg (hv q e2)).2.mp z c2)]
            unfold f_X7_besideOf_161
            rw [ek]
            by_cases c : k = 1
            · rw [if_pos (k1.mpr c), if_neg (by decide)]
              subst c
              have h : K (nbI (μ 5 0) n s false left 2 s) μ := h
              unfold nbI at h
              rw [e1] at h
              simp only [if_neg qs, if_pos c2] at h
              unfold nbI at h
              rcases stp_next (left := left) h8 e2 with ⟨q', f1, f2, f3, f4⟩ | ⟨f1, f2, f3⟩
              · rw [f1] at h
                simp only at h
                rw [if_neg (by rcases f4 with ⟨l, _⟩ | ⟨l, _⟩ <;> rcases e4 with ⟨l', _⟩ | ⟨l', _⟩ <;> first | (rw [l] at l'; exact absurd l' (by decide)) | omega)] at h
                rw [f3]
                refine whoIsOn_Y en h8 f2 ?_
                by_cases c4 : μ 5 0 q' = -1
                · rw [if_pos c4] at h; rw [c4]; exact h
                · rw [if_neg c4] at h; exact h
              · rw [f1] at h
                exact whoIsOn_off en h8 f2 h
            · rw [if_neg (fun z => c (k1.mp z))]
              rw [hre c] at h
              unfold nbI at h
              rw [e1] at h
              simp only [if_neg qs, if_pos c2] at h
              exact whoIsOn_Y en h8 e2 (by rw [c2]; exact h)
          · rw [if_pos ((pv_neg (hv q e2)).2.mpr c2)]
            unfold f_X7_besideOf_160 f_X7_besideOf_161
            rw [ek]
            have hh : K (μ 5 0 q) μ := by
              have : reaK k = 1 ∨ reaK k = 2 := by
                by_cases c : k = 1
                · right; rw [c]; rfl
                · left; exact hre c
              rcases this with z | z <;> (rw [z] at h; unfold nbI at h; rw [e1] at h; simpa only [if_neg qs, if_neg c2] using h)
            by_cases c : k = 1
            · rw [if_pos (k1.mpr c), if_pos rfl]; exact whoIsOn_Y en h8 e2 hh
            · rw [if_neg (fun z => c (k1.mp z))]; exact whoIsOn_Y en h8 e2 hh
        · rw [e2, if_neg (by decide)]
          unfold f_X7_besideOf_160 f_X7_besideOf_161
          rw [ek]
          have hh : K (-1) μ := by
            have : reaK k = 1 ∨ reaK k = 2 := by
              by_cases c : k = 1
              · right; rw [c]; rfl
              · left; exact hre c
            rcases this with z | z <;> (rw [z] at h; unfold nbI at h; rw [e1] at h; exact h)
          by_cases c : k = 1
          · rw [if_pos (k1.mpr c), if_pos rfl]; exact whoIsOn_off en h8 e2 hh
          · rw [if_neg (fun z => c (k1.mp z))]; exact whoIsOn_off en h8 e2 hh
