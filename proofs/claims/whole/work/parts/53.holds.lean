/-! PURE: holds -/
theorem add_toInt {x y : Int32} {a b : Int} (hx : x.toInt = a) (hy : y.toInt = b) (h1 : -1000000000 ≤ a + b) (h2 : a + b ≤ 1000000000) : (x + y).toInt = a + b := by
  rw [Int32.toInt_add, hx, hy]
  exact Int.bmod_eq_of_le (by omega) (by omega)
theorem mul_toInt {x y : Int32} {a b : Int} (hx : x.toInt = a) (hy : y.toInt = b) (h1 : -1000000000 ≤ a * b) (h2 : a * b ≤ 1000000000) : (x * y).toInt = a * b := by
  rw [Int32.toInt_mul, hx, hy]
  exact Int.bmod_eq_of_le (by omega) (by omega)
theorem arm_toInt {s n : Nat} (hs : s ≤ 8) (h1 : 1 ≤ n) (h8 : n ≤ 8) : (((2 : Int32) * nI s) - (nI n - (1 : Int32))).toInt = 2 * (s : Int) - ((n : Int) - 1) := by
  have e1 : (2 : Int32) * nI s = nI (2 * s) := by rw [i32_lit, pk_mul]
  have e2 : nI n - (1 : Int32) = nI (n - 1) := pk_sub (a := n) (b := 1) h1
  rw [e1, e2, sub_toInt (by omega) (by omega)]
  omega
/-- the same as an integer -/
def liZ (w : Nat → Int32) (v : Nat → Int32) (n : Nat) : Nat → Int
  | 0 => 0
  | s + 1 => liZ w v n s + (if v s = -1 then 0 else (w (v s).toNatClampNeg).toInt * (2 * (s : Int) - ((n : Int) - 1)))
def wok (w : Nat → Int32) : Prop := ∀ p, p < 8 → ∃ x, 1 ≤ x ∧ x ≤ 99 ∧ w p = nI x
theorem mul_bd {x : Int} {a : Int} (h1 : 1 ≤ x) (h2 : x ≤ 99) (h3 : -7 ≤ a) (h4 : a ≤ 7) : -693 ≤ x * a ∧ x * a ≤ 693 := by
  have e1 : x * a ≤ 99 * 7 := by
    rcases Int.le_total 0 a with q | q
    · exact Int.mul_le_mul h2 h4 q (by omega)
    · have : x * a ≤ 0 := Int.mul_nonpos_of_nonneg_of_nonpos (by omega) q
      omega
  have e2 : x * (-a) ≤ 99 * 7 := by
    rcases Int.le_total 0 (-a) with q | q
    · exact Int.mul_le_mul h2 (by omega) q (by omega)
    · have : x * (-a) ≤ 0 := Int.mul_nonpos_of_nonneg_of_nonpos (by omega) q
      omega
  rw [Int.mul_neg] at e2
  omega
theorem li_toInt {w v : Nat → Int32} {n : Nat} (h1 : 1 ≤ n) (h8 : n ≤ 8) (hw : wok w) (hv : pvs v n) : ∀ s, s ≤ n → (liF w v n s).toInt = liZ w v n s ∧ -(693 * (s : Int)) ≤ liZ w v n s ∧ liZ w v n s ≤ 693 * (s : Int) := by
  intro s
  induction s with
  | zero => intro _; exact ⟨by rw [liF, liZ]; decide, by rw [liZ]; decide, by rw [liZ]; decide⟩
  | succ s ih =>
    intro hs
    obtain ⟨i1, i2, i3⟩ := ih (by omega)
    unfold liF liZ
    by_cases c : v s = -1
    · rw [if_pos c, if_pos c, i32_add0]
      exact ⟨by rw [i1]; omega, by omega, by omega⟩
    · rw [if_neg c, if_neg c]
      obtain ⟨p, hp, e⟩ := pv_in (hv s (by omega)) c
      rw [e, nI_clamp (by omega)]
      obtain ⟨x, x1, x2, ew⟩ := hw p hp
      have ew' : (w p).toInt = (x : Int) := by rw [ew, nI_toInt (by omega)]
      have ha := arm_toInt (s := s) (n := n) (by omega) h1 h8
      have hb := mul_bd (x := (x : Int)) (a := 2 * (s : Int) - ((n : Int) - 1)) (by omega) (by omega) (by omega) (by omega)
      rw [ew']
      have hm := mul_toInt (x := w p) (y := ((2 : Int32) * nI s) - (nI n - (1 : Int32))) ew' ha (by omega) (by omega)
      exact ⟨add_toInt i1 hm (by omega) (by omega), by omega, by omega⟩
/-- the most that a kind may list; big enough where it doesn't matter -/
def mostK (k : Nat) (h : Int32) : Int := if k = 3 then h.toInt else if k = 6 then 2 * h.toInt else 1000000
def hoB (B : Nat → Int32) (ov : Int32) (w : Nat → Int32) (h : Int32) (v : Nat → Int32) (k n : Nat) : Bool := decide (-(mostK k h) ≤ liZ w v n n ∧ liZ w v n n ≤ mostK k h) && decide (fwF B ov v k n n 0 = -1)
theorem liZ_congr {w w' v v' : Nat → Int32} {n : Nat} (hw : ∀ p, p < 8 → w p = w' p) (hv : pvs v n) (e : ∀ j, j < n → v j = v' j) : ∀ s, s ≤ n → liZ w v n s = liZ w' v' n s := by
  intro s
  induction s with
  | zero => intro _; rfl
  | succ s ih =>
    intro hs
    unfold liZ
    rw [ih (by omega), ← e s (by omega)]
    by_cases c : v s = -1
    · rw [if_pos c, if_pos c]
    · rw [if_neg c, if_neg c]
      obtain ⟨p, hp, ep⟩ := pv_in (hv s (by omega)) c
      rw [ep, nI_clamp (by omega), hw p hp]
theorem frV_congr {B B' : Nat → Int32} {ov : Int32} {a b : Int32} (hB : ∀ j, j < 64 → B j = B' j) (ha : pv a) (hb : pv b) : frV B ov a b = frV B' ov a b := by
  unfold frV
  rcases ha with rfl | ⟨p, hp, rfl⟩
  · simp
  · rcases hb with rfl | ⟨q, hq, rfl⟩
    · simp
    · unfold frN
      rw [nI_clamp (by omega), nI_clamp (by omega), hB _ (by omega)]
theorem wrS_congr {B B' : Nat → Int32} {ov : Int32} {v v' : Nat → Int32} {k n s : Nat} (h1 : 1 ≤ n) (hs : s < n) (hB : ∀ j, j < 64 → B j = B' j) (hv : pvs v n) (e : ∀ j, j < n → v j = v' j) : wrS B ov v k n s = wrS B' ov v' k n s := by
  unfold wrS
  rw [← e s hs, frV_congr hB (nbK_pv h1 hs hv) (nbK_pv h1 hs hv), nbK_congr h1 hs e, nbK_congr h1 hs e]
theorem fwF_congr {B B' : Nat → Int32} {ov : Int32} {v v' : Nat → Int32} {k n : Nat} (h1 : 1 ≤ n) (hB : ∀ j, j < 64 → B j = B' j) (hv : pvs v n) (e : ∀ j, j < n → v j = v' j) : ∀ d s, s + d ≤ n → fwF B ov v k n d s = fwF B' ov v' k n d s := by
  intro d
  induction d with
  | zero => intro s _; rfl
  | succ d ih =>
    intro s hs
    unfold fwF
    rw [wrS_congr h1 (by omega) hB hv e, ih (s + 1) (by omega)]
theorem hoB_congr {B B' : Nat → Int32} {ov : Int32} {w w' : Nat → Int32} {h : Int32} {v v' : Nat → Int32} {k n : Nat} (h1 : 1 ≤ n) (hB : ∀ j, j < 64 → B j = B' j) (hw : ∀ p, p < 8 → w p = w' p) (hv : pvs v n) (e : ∀ j, j < n → v j = v' j) : hoB B ov w h v k n = hoB B' ov w' h v' k n := by
  unfold hoB
  rw [liZ_congr hw hv e n (Nat.le_refl n), fwF_congr h1 hB hv e n 0 (by omega)]
theorem abs_lt {r : Int32} {z : Int} (e : r.toInt = z) (h : -100000 ≤ z) (h' : z ≤ 100000) : (if 0 ≤ r then r else 0 - r).toInt = if 0 ≤ z then z else -z := by
  have c : (0 ≤ r) ↔ 0 ≤ z := by rw [Int32.le_iff_toInt_le, e, z0]
  by_cases q : 0 ≤ z
  · rw [if_pos (c.mpr q), if_pos q, e]
  · rw [if_neg (fun x => q (c.mp x)), if_neg q, Int32.toInt_sub, e, z0]
    rw [Int.bmod_eq_of_le (by omega) (by omega)]
    omega
theorem holds_X {r i k n : Nat} {σ : Mm} {K : Bool → Mm → Prop} (hr : r < 3) (hi : i < 17) (hk : k < 7) (ek : σ 0 i 0 = nI k) (en : σ 0 i 1 = nI n) (h1 : 1 ≤ n) (h8 : n ≤ 8) (hv : pvs (σ 1 i) n) (hp : PP (σ 3 r) (σ 2 r 2) (σ 4 r) (σ 2 r 3)) (h : K (hoB (σ 3 r) (σ 2 r 2) (σ 4 r) (σ 2 r 3) (σ 1 i) k n) σ) : f_X1_holds r i σ K := by
  obtain ⟨p1, p2, p3, ⟨H, hH, eH⟩⟩ := hp
  obtain ⟨t1, t2, t3⟩ := li_toInt h1 h8 p3 hv n (Nat.le_refl n)
  refine ⟨hr, hi, li_X hr hi en h8 hv ?_⟩
  unfold f_X1_listsAtMost
  rw [ek]
  refine ⟨hr, ?_⟩
  have key : ∀ M : Int32, M.toInt = mostK k (σ 2 r 3) → (if M < (if 0 ≤ liF (σ 4 r) (σ 1 i) n n then liF (σ 4 r) (σ 1 i) n n else 0 - liF (σ 4 r) (σ 1 i) n n) then K false σ else f_X1_firstWrong r i (0 : Int32) (σ 0 i 1) σ (fun r6 σ5 => if r6 = (-1 : Int32) then K true σ5 else K false σ5)) := by
    intro M hM
    have e1 : (M < (if 0 ≤ liF (σ 4 r) (σ 1 i) n n then liF (σ 4 r) (σ 1 i) n n else 0 - liF (σ 4 r) (σ 1 i) n n)) ↔ ¬ (-(mostK k (σ 2 r 3)) ≤ liZ (σ 4 r) (σ 1 i) n n ∧ liZ (σ 4 r) (σ 1 i) n n ≤ mostK k (σ 2 r 3)) := by
      rw [Int32.lt_iff_toInt_lt, abs_lt t1 (by omega) (by omega), hM]
      split <;> omega
    unfold hoB at h
    by_cases c : -(mostK k (σ 2 r 3)) ≤ liZ (σ 4 r) (σ 1 i) n n ∧ liZ (σ 4 r) (σ 1 i) n n ≤ mostK k (σ 2 r 3)
    · rw [if_neg (fun z => (e1.mp z) c), en]
      refine fw_X (a := 0) (b := n) hr hi hk ek en h1 h8 hv p2 (by omega) (Nat.le_refl n) ?_
      rw [Nat.sub_zero]
      simp only [c, and_self, decide_true, Bool.true_and] at h
      by_cases c2 : fwF (σ 3 r) (σ 2 r 2) (σ 1 i) k n n 0 = -1
      · rw [if_pos c2]; simpa [c2] using h
      · rw [if_neg c2]; simpa [c2] using h
    · rw [if_pos (e1.mpr c)]
      rw [decide_eq_false c] at h
      simpa using h
  unfold mostK at key
  by_cases k3 : k = 3
  · rw [if_pos (show nI k = (3 : Int32) by rw [k3]; rfl)]
    exact key _ (by rw [if_pos k3])
  · rw [if_neg (show ¬ nI k = (3 : Int32) from fun z => k3 ((nI_eq (a := k) (b := 3) (by omega) (by omega)).mp z))]
    by_cases k6 : k = 6
    · rw [if_pos (show nI k = (6 : Int32) by rw [k6]; rfl)]
      refine key _ ?_
      rw [if_neg k3, if_pos k6, eH, i32_lit, pk_mul, nI_toInt (by omega), nI_toInt (by omega)]
      omega
    · rw [if_neg (show ¬ nI k = (6 : Int32) from fun z => k6 ((nI_eq (a := k) (b := 6) (by omega) (by omega)).mp z))]
      exact key _ (by rw [if_neg k3, if_neg k6]; decide)
theorem fw_neg {B : Nat → Int32} {ov : Int32} {v : Nat → Int32} {k n : Nat} (h8 : n ≤ 8) : ∀ d s, s + d ≤ n → (fwF B ov v k n d s = -1 ∨ ∃ q, s ≤ q ∧ q < s + d ∧ fwF B ov v k n d s = nI q) := by
  intro d
  induction d with
  | zero => intro s _; exact Or.inl rfl
  | succ d ih =>
    intro s hs
    unfold fwF
    by_cases c : wrS B ov v k n s = true
    · rw [if_pos c]; exact Or.inr ⟨s, by omega, by omega, rfl⟩
    · rw [if_neg c]
      rcases ih (s + 1) (by omega) with z | ⟨q, q1, q2, z⟩
      · exact Or.inl z
      · exact Or.inr ⟨q, by omega, by omega, z⟩
theorem fw_lt0 {B : Nat → Int32} {ov : Int32} {v : Nat → Int32} {k n : Nat} (h8 : n ≤ 8) : fwF B ov v k n n 0 < 0 ↔ fwF B ov v k n n 0 = -1 := by
  rcases fw_neg (B := B) (ov := ov) (v := v) (k := k) h8 n 0 (by omega) with z | ⟨q, q1, q2, z⟩
  · rw [z]; decide
  · rw [z]
    exact ⟨fun x => absurd x (nI_pos (by omega)), fun x => absurd x (nI_ne_m1 (by omega))⟩
theorem neg_toInt {n : Nat} (h : n < 2 ^ 31) : (-(nI n)).toInt = -(n : Int) := by
  rw [Int32.toInt_neg, nI_toInt h]
  exact Int.bmod_eq_of_le (by omega) (by omega)
theorem holdsNow_Y {k n : Nat} {μ : Mm} {K : Bool → Mm → Prop} (hk : k < 7) (ek : μ 0 0 6 = nI k) (en : μ 0 0 7 = nI n) (h1 : 1 ≤ n) (h8 : n ≤ 8) (hv : pvs (μ 5 0) n) (hp : PP (fun j => μ 1 0 (4 + j)) (μ 1 0 0) (fun p => μ 1 0 (68 + p)) (μ 1 0 1)) (h : K (hoB (fun j => μ 1 0 (4 + j)) (μ 1 0 0) (fun p => μ 1 0 (68 + p)) (μ 1 0 1) (μ 5 0) k n) μ) : f_X7_holdsNow μ K := by
  obtain ⟨p1, p2, p3, ⟨H, hH, eH⟩⟩ := hp
  obtain ⟨t1, t2, t3⟩ := li_toInt h1 h8 p3 hv n (Nat.le_refl n)
  refine fw_Y hk ek en h1 h8 hv p1 ?_
  unfold hoB at h
  by_cases c2 : fwF (fun j => μ 1 0 (4 + j)) (μ 1 0 0) (μ 5 0) k n n 0 = -1
  · rw [if_pos ((fw_lt0 h8).mpr c2)]
    have bal : ∀ M : Nat, M ≤ 2000 → mostK k (μ 1 0 1) = (M : Int) → f_X7_holdsNow_58 (liF (fun p => μ 1 0 (68 + p)) (μ 5 0) n n) (nI M) K μ := by
      intro M hM em
      unfold f_X7_holdsNow_58
      rw [in_inZ, Int32.toInt_toInt64, Int32.toInt_toInt64, nI_toInt (by omega), neg_toInt (by omega)]
      unfold inZ
      rw [t1]
      rw [em] at h
      simpa [c2] using h
    unfold mostK at bal
    by_cases k3 : k = 3
    · rw [ek, if_pos (show nI k = (3 : Int32) by rw [k3]; rfl)]
      refine li_Y en h8 hv ?_
      rw [ek, if_pos (show nI k = (3 : Int32) by rw [k3]; rfl), eH]
      exact bal H (by omega) (by rw [if_pos k3, eH, nI_toInt (by omega)])
    · have n3 : ¬ nI k = (3 : Int32) := fun z => k3 ((nI_eq (a := k) (b := 3) (by omega) (by omega)).mp z)
      rw [ek, if_neg n3]
      by_cases k6 : k = 6
      · rw [if_pos (show nI k = (6 : Int32) by rw [k6]; rfl)]
        refine li_Y en h8 hv ?_
        rw [ek, if_neg n3, eH, i32_lit, pk_mul]
        exact bal (2 * H) (by omega) (by rw [if_neg k3, if_pos k6, eH, nI_toInt (by omega)]; omega)
      · rw [if_neg (show ¬ nI k = (6 : Int32) from fun z => k6 ((nI_eq (a := k) (b := 6) (by omega) (by omega)).mp z))]
        have : mostK k (μ 1 0 1) = 1000000 := by unfold mostK; rw [if_neg k3, if_neg k6]
        rw [this, decide_eq_true (by omega)] at h
        simpa [c2] using h
  · rw [if_neg (fun z => c2 ((fw_lt0 h8).mp z))]
    simpa [c2] using h
