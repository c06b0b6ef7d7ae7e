/-! PURE: friends, wrong seats, lists, what holds -/
/-- bonds, over, weights, held: as they may be -/
def PP (B : Nat → Int32) (ov : Int32) (w : Nat → Int32) (h : Int32) : Prop := (∀ p, p < 8 → B (8 * p + p) = 0) ∧ bz ov ∧ (∀ p, p < 8 → ∃ x, 1 ≤ x ∧ x ≤ 99 ∧ w p = nI x) ∧ ∃ x, x ≤ 999 ∧ h = nI x
theorem RI.pp {σ : Mm} {r : Nat} {m : Nat → Int32} {nb : Nat} (h : RI σ r m nb) : PP (σ 3 r) (σ 2 r 2) (σ 4 r) (σ 2 r 3) := by
  obtain ⟨⟨⟨z1, z2, z3, z4⟩, aB, aW, -⟩, ⟨-, -, i3, i4⟩, iB, iW, -⟩ := h
  refine ⟨fun p hp => ?_, by rw [← z1]; exact i3, fun p hp => by rw [← aW p hp]; exact iW p hp, by rw [← z2]; exact i4⟩
  rw [← aB _ (by omega), show 4 + (8 * p + p) = 4 + 8 * p + p by omega]
  exact iB.2 p hp
theorem Inv.pp {m : Nat → Int32} {nb : Nat} (h : Inv m nb) : PP (fun j => m (4 + j)) (m 0) (fun p => m (68 + p)) (m 1) := by
  obtain ⟨⟨-, -, i3, i4⟩, iB, iW, -⟩ := h
  refine ⟨fun p hp => ?_, i3, fun p hp => iW p hp, i4⟩
  show m (4 + (8 * p + p)) = 0
  rw [show 4 + (8 * p + p) = 4 + 8 * p + p by omega]
  exact iB.2 p hp
def frN (B : Nat → Int32) (ov : Int32) (p q : Nat) : Bool := decide (B (8 * p + q) = 1) || (decide (B (8 * p + q) = 2) && decide (ov = 1))
def frV (B : Nat → Int32) (ov : Int32) (a b : Int32) : Bool := !decide (a = -1) && (!decide (b = -1) && frN B ov a.toNatClampNeg b.toNatClampNeg)
theorem frN_X {r p q : Nat} {σ : Mm} {K : Bool → Mm → Prop} (hr : r < 3) (hp : p < 8) (hq : q < 8) (hb : bz (σ 2 r 2)) (h : K (frN (σ 3 r) (σ 2 r 2) p q) σ) : f_X1_areFriends r (nI p) (nI q) σ K := by
  refine ⟨hr, ?_⟩
  rw [if_neg (nI_ne_m1 (by omega)), if_neg (nI_ne_m1 (by omega))]
  refine bondOf_X hr hp hq ?_
  unfold frN at h
  by_cases c1 : σ 3 r (8 * p + q) = 1
  · rw [if_pos c1]; simpa [c1] using h
  · rw [if_neg c1]
    by_cases c2 : σ 3 r (8 * p + q) = 2
    · rw [if_pos c2]
      obtain ⟨b, hb⟩ := hb
      rw [hb] at h ⊢
      cases b
      · rw [if_pos (by decide)]; simpa [c1, show ¬ b2i false = 1 by decide] using h
      · rw [if_neg (by decide)]; simpa [c1, c2, show b2i true = 1 by decide] using h
    · rw [if_neg c2]; simpa [c1, c2] using h
theorem fr_X {r : Nat} {a b : Int32} {σ : Mm} {K : Bool → Mm → Prop} (hr : r < 3) (ha : pv a) (hb : pv b) (ho : bz (σ 2 r 2)) (h : K (frV (σ 3 r) (σ 2 r 2) a b) σ) : f_X1_areFriends r a b σ K := by
  unfold frV at h
  rcases ha with rfl | ⟨p, hp, rfl⟩
  · refine ⟨hr, ?_⟩
    rw [if_pos rfl]; simpa using h
  · rcases hb with rfl | ⟨q, hq, rfl⟩
    · refine ⟨hr, ?_⟩
      rw [if_neg (nI_ne_m1 (by omega)), if_pos rfl]; simpa using h
    · refine frN_X hr hp hq ho ?_
      rw [nI_clamp (by omega), nI_clamp (by omega)] at h
      simpa [nI_ne_m1 (show p < 2 ^ 31 by omega), nI_ne_m1 (show q < 2 ^ 31 by omega)] using h
theorem frN_Y {p q : Nat} {μ : Mm} {K : Bool → Mm → Prop} (hp : p < 8) (hq : q < 8) (h : K (frN (fun j => μ 1 0 (4 + j)) (μ 1 0 0) p q) μ) : f_X7_areFriends (nI p) (nI q) μ K := by
  unfold frN at h
  have e : 4 + (8 * p + q) = 4 + 8 * p + q := by omega
  simp only [e] at h
  refine how_Y hp hq ?_
  by_cases c1 : μ 1 0 (4 + 8 * p + q) = 1
  · rw [if_pos c1]; simpa [c1] using h
  · rw [if_neg c1]
    refine how_Y hp hq ?_
    by_cases c2 : μ 1 0 (4 + 8 * p + q) = 2
    · rw [if_pos c2]
      by_cases c3 : μ 1 0 0 = 1
      · rw [if_pos c3]; simpa [c1, c2, c3] using h
      · rw [if_neg c3]; simpa [c1, c2, c3] using h
    · rw [if_neg c2]; simpa [c1, c2] using h
/-- a wrong seat -/
def wrS (B : Nat → Int32) (ov : Int32) (v : Nat → Int32) (k n s : Nat) : Bool := !decide (v s = -1) && frV B ov (nbK v k n s true) (nbK v k n s false)
/-- the first wrong one of d seats from s on -/
def fwF (B : Nat → Int32) (ov : Int32) (v : Nat → Int32) (k n : Nat) : Nat → Nat → Int32
  | 0, _ => -1
  | d + 1, s => if wrS B ov v k n s = true then nI s else fwF B ov v k n d (s + 1)
theorem fw_X {r i k n a b : Nat} {σ : Mm} {K : Int32 → Mm → Prop} (hr : r < 3) (hi : i < 17) (hk : k < 7) (ek : σ 0 i 0 = nI k) (en : σ 0 i 1 = nI n) (h1 : 1 ≤ n) (h8 : n ≤ 8) (hv : pvs (σ 1 i) n) (ho : bz (σ 2 r 2)) (hab : a ≤ b) (hbn : b ≤ n) (h : K (fwF (σ 3 r) (σ 2 r 2) (σ 1 i) k n (b - a) a) σ) : f_X1_firstWrong r i (nI a) (nI b) σ K := by
  have main : ∀ (d s : Nat), s + d = b → K (fwF (σ 3 r) (σ 2 r 2) (σ 1 i) k n d s) σ → f_X1_firstWrong_3 r i (nI b) K (d + 1) (nI s) σ := by
    intro d
    induction d with
    | zero =>
      intro s hs hK
      rw [f_X1_firstWrong_3, if_pos (nI_le (by omega) (by omega))]; exact hK
    | succ d ih =>
      intro s hs hK
      rw [f_X1_firstWrong_3, if_neg (nI_ge (by omega) (by omega)), nI_clamp (by omega), nI_1]
      refine ⟨vp_in_nI (by omega) (by omega), ?_⟩
      unfold fwF wrS at hK
      by_cases c : σ 1 i s = -1
      · rw [if_pos c]
        exact ih (s + 1) (by omega) (by simpa [c] using hK)
      · rw [if_neg c]
        have hsn : s < n := by omega
        refine nb_X (left := true) hi hk ek en h1 h8 hsn (nb_X (left := false) hi hk ek en h1 h8 hsn (fr_X hr (nbK_pv h1 hsn hv) (nbK_pv h1 hsn hv) ho ?_))
        cases e : frV (σ 3 r) (σ 2 r 2) (nbK (σ 1 i) k n s true) (nbK (σ 1 i) k n s false) with
        | true => rw [if_pos rfl]; simpa [c, e] using hK
        | false => rw [if_neg (by decide)]; exact ih (s + 1) (by omega) (by simpa [c, e] using hK)
  exact ⟨hr, hi, b - a + 1, main (b - a) a (by omega) h⟩
theorem fw_Y {k n : Nat} {μ : Mm} {K : Int32 → Mm → Prop} (hk : k < 7) (ek : μ 0 0 6 = nI k) (en : μ 0 0 7 = nI n) (h1 : 1 ≤ n) (h8 : n ≤ 8) (hv : pvs (μ 5 0) n) (hd : ∀ p, p < 8 → μ 1 0 (4 + (8 * p + p)) = 0) (h : K (fwF (fun j => μ 1 0 (4 + j)) (μ 1 0 0) (μ 5 0) k n n 0) μ) : f_X7_firstWrong μ K := by
  have main : ∀ (d s : Nat), s + d = n → K (fwF (fun j => μ 1 0 (4 + j)) (μ 1 0 0) (μ 5 0) k n d s) μ → f_X7_firstWrong_2 K (d + 1) (nI s) μ := by
    intro d
    induction d with
    | zero =>
      intro s hs hK
      rw [f_X7_firstWrong_2, en, if_pos (nI_le (by omega) (by omega))]; exact hK
    | succ d ih =>
      intro s hs hK
      rw [f_X7_firstWrong_2, en, if_neg (nI_ge (by omega) (by omega)), nI_clamp (by omega), nI_1]
      refine ⟨vp_in_nI (by omega) (by omega), ?_⟩
      have hsn : s < n := by omega
      unfold fwF wrS at hK
      by_cases c : μ 5 0 s = -1
      · rw [if_neg (fun z => (pv_neg (hv s hsn)).2.mp z c)]
        exact ih (s + 1) (by omega) (by simpa [c] using hK)
      · rw [if_pos ((pv_neg (hv s hsn)).2.mpr c)]
        have p1 := nbK_pv (k := k) (left := true) h1 hsn hv
        have p2 := nbK_pv (k := k) (left := false) h1 hsn hv
        refine besideOf_Y (left := true) hk ek en h1 h8 hsn hv (besideOf_Y (left := false) hk ek en h1 h8 hsn hv ?_)
        generalize nbK (μ 5 0) k n s true = x at hK p1 ⊢
        generalize nbK (μ 5 0) k n s false = y at hK p2 ⊢
        have no : frV (fun j => μ 1 0 (4 + j)) (μ 1 0 0) x y = false → f_X7_firstWrong_2 K (d + 1) (nI (s + 1)) μ := fun e => ih (s + 1) (by omega) (by simpa [c, e] using hK)
        rcases p1 with rfl | ⟨p, hp, rfl⟩
        · rw [if_pos (by decide)]; exact no (by simp [frV])
        · rw [if_neg (nI_pos (by omega))]
          rcases p2 with rfl | ⟨q, hq, rfl⟩
          · rw [if_pos (by decide)]; exact no (by simp [frV])
          · rw [if_neg (nI_pos (by omega))]
            by_cases cpq : p = q
            · subst cpq
              rw [if_pos rfl]
              refine no ?_
              unfold frV frN
              rw [nI_clamp (by omega)]
              simp [hd p hp]
            · rw [if_neg (fun z => cpq ((nI_eq (by omega) (by omega)).mp z))]
              refine frN_Y hp hq ?_
              cases e : frN (fun j => μ 1 0 (4 + j)) (μ 1 0 0) p q with
              | true =>
                rw [if_pos rfl]
                have : frV (fun j => μ 1 0 (4 + j)) (μ 1 0 0) (nI p) (nI q) = true := by
                  unfold frV
                  rw [nI_clamp (by omega), nI_clamp (by omega), e]
                  simp [nI_ne_m1 (show p < 2 ^ 31 by omega), nI_ne_m1 (show q < 2 ^ 31 by omega)]
                simpa [c, this] using hK
              | false =>
                rw [if_neg (by decide)]
                refine no ?_
                unfold frV
                rw [nI_clamp (by omega), nI_clamp (by omega), e]
                simp
  exact ⟨n + 1, main n 0 (by omega) h⟩
/-- how far a bench lists, seat by seat -/
def liF (w : Nat → Int32) (v : Nat → Int32) (n : Nat) : Nat → Int32
  | 0 => 0
  | s + 1 => liF w v n s + (if v s = -1 then 0 else w (v s).toNatClampNeg * (((2 : Int32) * nI s) - (nI n - (1 : Int32))))
theorem pv_in {x : Int32} (h : pv x) (hx : ¬ x = -1) : ∃ p, p < 8 ∧ x = nI p := h.resolve_left hx
theorem li_X {r i n : Nat} {σ : Mm} {K : Int32 → Mm → Prop} (hr : r < 3) (hi : i < 17) (en : σ 0 i 1 = nI n) (h8 : n ≤ 8) (hv : pvs (σ 1 i) n) (h : K (liF (σ 4 r) (σ 1 i) n n) σ) : f_X1_listsOf r i σ K := by
  have main : ∀ (d s : Nat), s + d = n → f_X1_listsOf_4 r i K (d + 1) (liF (σ 4 r) (σ 1 i) n s) (nI s) σ := by
    intro d
    induction d with
    | zero =>
      intro s hs
      have : s = n := by omega
      subst this
      rw [f_X1_listsOf_4, en, if_pos (nI_le (Nat.le_refl s) (by omega))]; exact h
    | succ d ih =>
      intro s hs
      have hsn : s < n := by omega
      have t : vp_in (nI s) 8 := vp_in_nI (by omega) (by omega)
      have step := ih (s + 1) (by omega)
      rw [f_X1_listsOf_4, en, if_neg (nI_ge hsn (by omega)), nI_clamp (by omega), nI_1]
      refine ⟨t, ?_⟩
      unfold liF at step
      by_cases c : σ 1 i s = -1
      · rw [if_pos c]
        rw [if_pos c, i32_add0] at step
        exact step
      · rw [if_neg c]
        rw [if_neg c] at step
        obtain ⟨p, hp, e⟩ := pv_in (hv s hsn) c
        refine ⟨t, by rw [e]; exact vp_in_nI hp (by omega), ?_⟩
        unfold f_X0_armOf
        rw [en]
        exact ⟨hi, step⟩
  exact ⟨hr, hi, n + 1, main n 0 (by omega)⟩
theorem li_Y {n : Nat} {μ : Mm} {K : Int32 → Mm → Prop} (en : μ 0 0 7 = nI n) (h8 : n ≤ 8) (hv : pvs (μ 5 0) n) (h : K (liF (fun p => μ 1 0 (68 + p)) (μ 5 0) n n) μ) : f_X7_listsNow μ K := by
  have main : ∀ (d s : Nat), s + d = n → f_X7_listsNow_4 K (d + 1) (liF (fun p => μ 1 0 (68 + p)) (μ 5 0) n s) (nI s) μ := by
    intro d
    induction d with
    | zero =>
      intro s hs
      have : s = n := by omega
      subst this
      rw [f_X7_listsNow_4, en, if_pos (nI_le (Nat.le_refl s) (by omega))]; exact h
    | succ d ih =>
      intro s hs
      have hsn : s < n := by omega
      have t : vp_in (nI s) 8 := vp_in_nI (by omega) (by omega)
      have step := ih (s + 1) (by omega)
      rw [f_X7_listsNow_4, en, if_neg (nI_ge hsn (by omega)), nI_clamp (by omega), nI_1]
      refine ⟨t, ?_⟩
      unfold liF at step
      by_cases c : μ 5 0 s = -1
      · rw [if_neg (fun z => (pv_neg (hv s hsn)).2.mp z c)]
        rw [if_pos c] at step
        exact step
      · rw [if_pos ((pv_neg (hv s hsn)).2.mpr c)]
        rw [if_neg c] at step
        obtain ⟨p, hp, e⟩ := pv_in (hv s hsn) c
        rw [e] at step ⊢
        have e2 : (68 : Int32) + nI p = nI (68 + p) := by rw [i32_lit, nI_add]
        rw [e2, nI_clamp (by omega)]
        rw [nI_clamp (by omega)] at step
        exact ⟨t, vp_in_nI (by omega) (by omega), step⟩
  exact ⟨n + 1, main n 0 (by omega)⟩
