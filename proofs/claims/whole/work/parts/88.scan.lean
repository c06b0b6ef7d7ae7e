/-! PURE: tokens of a text, both sides -/
def spF (T : Nat → Int32) : Nat → Nat → Nat
  | 0, p => p
  | d + 1, p => if T p = 32 then spF T d (p + 1) else p
def leP (T : Nat → Int32) : Nat → Nat → Nat
  | 0, p => p
  | d + 1, p => if inZ (T p) 97 122 = true then leP T d (p + 1) else p
def diP (T : Nat → Int32) : Nat → Nat → Nat
  | 0, p => p
  | d + 1, p => if inZ (T p) 48 57 = true then diP T d (p + 1) else p
def diV (T : Nat → Int32) : Nat → Nat → Nat → Nat
  | 0, _, v => v
  | d + 1, p, v => if inZ (T p) 48 57 = true then diV T d (p + 1) (if 999 < v then v else 10 * v + (T p).toNatClampNeg - 48) else v
/-- what a token is: its sort (0 the end, 1 a word, 2 a number, 3 a semicolon, 4 another), its begin, its end, its value -/
def scan (T : Nat → Int32) (L p : Nat) : Nat × Nat × Nat × Nat := if L ≤ spF T (L - p) p then (0, spF T (L - p) p, spF T (L - p) p, 0) else if inZ (T (spF T (L - p) p)) 97 122 = true then (1, spF T (L - p) p, leP T (L - spF T (L - p) p) (spF T (L - p) p), 0) else if inZ (T (spF T (L - p) p)) 48 57 = true then (2, spF T (L - p) p, diP T (L - spF T (L - p) p) (spF T (L - p) p), diV T (L - spF T (L - p) p) (spF T (L - p) p) 0) else if T (spF T (L - p) p) = 59 then (3, spF T (L - p) p, spF T (L - p) p + 1, 0) else (4, spF T (L - p) p, spF T (L - p) p + 1, 0)
theorem spF_bd {T : Nat → Int32} : ∀ d p, p ≤ spF T d p ∧ spF T d p ≤ p + d := by
  intro d
  induction d with
  | zero => intro p; exact ⟨Nat.le_refl _, Nat.le_refl _⟩
  | succ d ih =>
    intro p
    unfold spF
    by_cases c : T p = 32
    · rw [if_pos c]; have := ih (p + 1); omega
    · rw [if_neg c]; omega
theorem leP_bd {T : Nat → Int32} : ∀ d p, p ≤ leP T d p ∧ leP T d p ≤ p + d := by
  intro d
  induction d with
  | zero => intro p; exact ⟨Nat.le_refl _, Nat.le_refl _⟩
  | succ d ih =>
    intro p
    unfold leP
    by_cases c : inZ (T p) 97 122 = true
    · rw [if_pos c]; have := ih (p + 1); omega
    · rw [if_neg c]; omega
theorem diP_bd {T : Nat → Int32} : ∀ d p, p ≤ diP T d p ∧ diP T d p ≤ p + d := by
  intro d
  induction d with
  | zero => intro p; exact ⟨Nat.le_refl _, Nat.le_refl _⟩
  | succ d ih =>
    intro p
    unfold diP
    by_cases c : inZ (T p) 48 57 = true
    · rw [if_pos c]; have := ih (p + 1); omega
    · rw [if_neg c]; omega
theorem dig_ex {x : Int32} (h : inZ x 48 57 = true) : ∃ j, 48 ≤ j ∧ j ≤ 57 ∧ x = nI j := inZ_ex (lo := 48) (hi := 57) h (by omega)
theorem diV_bd {T : Nat → Int32} : ∀ d p v, v ≤ 9999 → diV T d p v ≤ 9999 := by
  intro d
  induction d with
  | zero => intro p v h; exact h
  | succ d ih =>
    intro p v h
    unfold diV
    by_cases c : inZ (T p) 48 57 = true
    · rw [if_pos c]
      refine ih _ _ ?_
      obtain ⟨j, j1, j2, e⟩ := dig_ex c
      rw [e, nI_clamp (by omega)]
      split <;> omega
    · rw [if_neg c]; exact h
def scok (T : Nat → Int32) (L p : Nat) (q : Nat × Nat × Nat × Nat) : Prop := p ≤ q.2.1 ∧ q.2.1 ≤ q.2.2.1 ∧ q.2.2.1 ≤ L ∧ q.1 ≤ 4 ∧ (q.1 = 0 → q.2.1 = L) ∧ (q.1 ≠ 0 → q.2.1 < q.2.2.1) ∧ (q.1 = 3 → T q.2.1 = 59) ∧ (q.1 = 4 → ¬ T q.2.1 = 59) ∧ q.2.2.2 ≤ 9999 ∧ (q.1 ≠ 2 → q.2.2.2 = 0)
theorem scok_mk {T : Nat → Int32} {L p : Nat} (c f e v : Nat) (h1 : p ≤ f) (h2 : f ≤ e) (h3 : e ≤ L) (h4 : c ≤ 4) (h5 : c = 0 → f = L) (h6 : c ≠ 0 → f < e) (h7 : c = 3 → T f = 59) (h8 : c = 4 → ¬ T f = 59) (h9 : v ≤ 9999) (h10 : c ≠ 2 → v = 0) : scok T L p (c, f, e, v) := ⟨h1, h2, h3, h4, h5, h6, h7, h8, h9, h10⟩
theorem scan_ok {T : Nat → Int32} {L p : Nat} (hp : p ≤ L) : scok T L p (scan T L p) := by
  have b1 := spF_bd (T := T) (L - p) p
  unfold scan
  obtain ⟨f, ef⟩ : ∃ f, f = spF T (L - p) p := ⟨_, rfl⟩
  rw [← ef] at b1 ⊢
  by_cases c0 : L ≤ f
  · rw [if_pos c0]
    exact scok_mk 0 f f 0 b1.1 (Nat.le_refl _) (by omega) (by decide) (fun _ => by omega) (fun h => absurd rfl h) (fun h => absurd h (by decide)) (fun h => absurd h (by decide)) (Nat.zero_le _) (fun _ => rfl)
  · rw [if_neg c0]
    obtain ⟨d, hd⟩ : ∃ d, L - f = d + 1 := ⟨L - f - 1, by omega⟩
    by_cases c1 : inZ (T f) 97 122 = true
    · rw [if_pos c1]
      have b2 := leP_bd (T := T) d (f + 1)
      rw [hd, leP, if_pos c1]
      exact scok_mk 1 f _ 0 b1.1 (by omega) (by omega) (by decide) (fun h => absurd h (by decide)) (fun _ => by omega) (fun h => absurd h (by decide)) (fun h => absurd h (by decide)) (Nat.zero_le _) (fun _ => rfl)
    · rw [if_neg c1]
      by_cases c2 : inZ (T f) 48 57 = true
      · rw [if_pos c2]
        have b2 := diP_bd (T := T) d (f + 1)
        have b3 := diV_bd (T := T) (L - f) f 0 (by omega)
        rw [hd] at b3 ⊢
        rw [diP, if_pos c2]
        exact scok_mk 2 f _ _ b1.1 (by omega) (by omega) (by decide) (fun h => absurd h (by decide)) (fun _ => by omega) (fun h => absurd h (by decide)) (fun h => absurd h (by decide)) b3 (fun h => absurd rfl h)
      · rw [if_neg c2]
        by_cases c3 : T f = 59
        · rw [if_pos c3]
          exact scok_mk 3 f (f + 1) 0 b1.1 (by omega) (by omega) (by decide) (fun h => absurd h (by decide)) (fun _ => by omega) (fun _ => c3) (fun h => absurd h (by decide)) (Nat.zero_le _) (fun _ => rfl)
        · rw [if_neg c3]
          exact scok_mk 4 f (f + 1) 0 b1.1 (by omega) (by omega) (by decide) (fun h => absurd h (by decide)) (fun _ => by omega) (fun h => absurd h (by decide)) (fun _ => c3) (Nat.zero_le _) (fun _ => rfl)
/-- the readers' fields at a token -/
def RdX (L : Nat) (q : Nat × Nat × Nat × Nat) (σ : Mm) : Prop := σ 11 0 2 = nI L ∧ σ 11 0 3 = nI q.1 ∧ σ 11 0 4 = nI q.2.1 ∧ σ 11 0 5 = nI q.2.2.1 ∧ (q.1 = 2 → σ 11 0 6 = nI (if 1000 < q.2.2.2 then 1000 else q.2.2.2))
def RdY (L : Nat) (q : Nat × Nat × Nat × Nat) (μ : Mm) : Prop := μ 0 0 12 = nI L ∧ μ 0 0 13 = nI (if q.1 = 4 then 3 else q.1) ∧ μ 0 0 14 = nI q.2.1 ∧ μ 0 0 15 = nI q.2.2.1 ∧ μ 0 0 16 = nI q.2.2.2
def Oc (σ σ' : Mm) : Prop := ∀ t i, ¬ (t = 11 ∧ i = 0) → σ' t i = σ t i
def Oy (μ μ' : Mm) : Prop := (∀ t i, ¬ (t = 0 ∧ i = 0) → μ' t i = μ t i) ∧ ∀ j, (j < 13 ∨ 16 < j) → μ' 0 0 j = μ 0 0 j
theorem Oc.tr {a b c : Mm} (h : Oc a b) (k : Oc b c) : Oc a c := fun t i x => (k t i x).trans (h t i x)
theorem Oy.tr {a b c : Mm} (h : Oy a b) (k : Oy b c) : Oy a c := ⟨fun t i x => (k.1 t i x).trans (h.1 t i x), fun j x => (k.2 j x).trans (h.2 j x)⟩
theorem Oc.set {σ : Mm} {j : Nat} {x : Int32} : Oc σ (mset σ 11 0 j x) := fun t i c => mset_ne c
theorem Oy.set {μ : Mm} {j : Nat} {x : Int32} (h : 13 ≤ j ∧ j ≤ 16) : Oy μ (mset μ 0 0 j x) := ⟨fun t i c => mset_ne c, fun i c => by rw [mset_ap, if_neg (by omega)]⟩
theorem isLetter_X {a : Int32} {σ : Mm} {K : Bool → Mm → Prop} (h : K (inZ a 97 122) σ) : f_X5_isLetter a σ K := by
  unfold f_X5_isLetter
  unfold inZ at h
  have e1 : (97 : Int32).toInt = 97 := by decide
  have e2 : (122 : Int32).toInt = 122 := by decide
  simp only [Int32.lt_iff_toInt_lt, e1, e2]
  by_cases c : a.toInt < 97
  · rw [if_pos c]; rw [decide_eq_false (by omega)] at h; exact h
  · rw [if_neg c]
    by_cases d : 122 < a.toInt
    · rw [if_pos d]; rw [decide_eq_false (by omega)] at h; exact h
    · rw [if_neg d]; rw [decide_eq_true (by omega)] at h; exact h
theorem isDigit_X {a : Int32} {σ : Mm} {K : Bool → Mm → Prop} (h : K (inZ a 48 57) σ) : f_X5_isDigit a σ K := by
  unfold f_X5_isDigit
  unfold inZ at h
  have e1 : (48 : Int32).toInt = 48 := by decide
  have e2 : (57 : Int32).toInt = 57 := by decide
  simp only [Int32.lt_iff_toInt_lt, e1, e2]
  by_cases c : a.toInt < 48
  · rw [if_pos c]; rw [decide_eq_false (by omega)] at h; exact h
  · rw [if_neg c]
    by_cases d : 57 < a.toInt
    · rw [if_pos d]; rw [decide_eq_false (by omega)] at h; exact h
    · rw [if_neg d]; rw [decide_eq_true (by omega)] at h; exact h
theorem isByte_in {p L : Nat} {lo hi : Int32} {μ : Mm} {K : Bool → Mm → Prop} (hL : L ≤ 120) (e : μ 0 0 12 = nI L) (hp : p < L) (h : K (inZ (μ 9 0 p) lo.toInt hi.toInt) μ) : f_X7_isByte (nI p) lo hi μ K := by
  unfold f_X7_isByte
  rw [e, if_neg (nI_ge hp (by omega)), nI_clamp (by omega), in_inZ, Int32.toInt_toInt64, Int32.toInt_toInt64]
  refine ⟨vp_in_nI (by omega) (by omega), ?_⟩
  cases g : inZ (μ 9 0 p) lo.toInt hi.toInt with
  | true => rw [g] at h; exact itt h
  | false => rw [g] at h; exact itf h
theorem isByte_out {p L : Nat} {lo hi : Int32} {μ : Mm} {K : Bool → Mm → Prop} (e : μ 0 0 12 = nI L) (hp : L ≤ p) (hp2 : p < 2 ^ 31) (h : K false μ) : f_X7_isByte (nI p) lo hi μ K := by
  unfold f_X7_isByte
  rw [e, if_pos (nI_le hp hp2)]
  exact h
theorem inZ_32 {x : Int32} : (inZ x (32 : Int32).toInt (32 : Int32).toInt = true) ↔ x = 32 := by
  have e : (32 : Int32).toInt = 32 := by decide
  unfold inZ
  rw [decide_eq_true_eq, e, ← Int32.toInt_inj, e]
  omega
/-- the class passes over spaces -/
theorem sp_X {T : Nat → Int32} {L : Nat} (hL : L ≤ 120) : ∀ (d p : Nat) (σ : Mm), p + d = L → σ 11 0 2 = nI L → σ 11 0 4 = nI p → (∀ k, k < L → σ 10 0 k = T k) → ∃ σ', σ' 11 0 4 = nI (spF T d p) ∧ (∀ j, j ≠ 4 → σ' 11 0 j = σ 11 0 j) ∧ Oc σ σ' ∧ ∀ K k46, k46 σ' → f_X5_step_8 K k46 (d + 1) σ := by
  intro d
  induction d with
  | zero =>
    intro p σ hp e2 e4 hT
    refine ⟨σ, e4, fun _ _ => rfl, fun _ _ _ => rfl, fun K k46 hk => ?_⟩
    rw [f_X5_step_8, e2, e4, if_pos (nI_le (by omega) (by omega))]
    exact hk
  | succ d ih =>
    intro p σ hp e2 e4 hT
    by_cases c : T p = 32
    · obtain ⟨σ', a1, a2, a3, a4⟩ := ih (p + 1) (mset σ 11 0 4 (nI (p + 1))) (by omega) (by rw [mset_ap, if_neg (by omega)]; exact e2) (by rw [mset_ap, if_pos ⟨rfl, rfl, rfl⟩]) (fun k hk => by rw [mset_ne (by omega)]; exact hT k hk)
      refine ⟨σ', by rw [a1, spF, if_pos c], fun j hj => by rw [a2 j hj, mset_ap, if_neg (by omega)], Oc.set.tr a3, fun K k46 hk => ?_⟩
      rw [f_X5_step_8, e2, e4, if_neg (nI_ge (by omega) (by omega)), nI_clamp (by omega), hT p (by omega), if_pos c, nI_1]
      exact ⟨vp_in_nI (by omega) (by omega), _, rfl, a4 K k46 hk⟩
    · refine ⟨σ, by rw [e4, spF, if_neg c], fun _ _ => rfl, fun _ _ _ => rfl, fun K k46 hk => ?_⟩
      rw [f_X5_step_8, e2, e4, if_neg (nI_ge (by omega) (by omega)), nI_clamp (by omega), hT p (by omega), if_neg c]
      exact ⟨vp_in_nI (by omega) (by omega), hk⟩
theorem le_X {T : Nat → Int32} {L : Nat} (hL : L ≤ 120) : ∀ (d p : Nat) (σ : Mm), p + d = L → σ 11 0 2 = nI L → σ 11 0 5 = nI p → (∀ k, k < L → σ 10 0 k = T k) → ∃ σ', σ' 11 0 5 = nI (leP T d p) ∧ (∀ j, j ≠ 5 → σ' 11 0 j = σ 11 0 j) ∧ Oc σ σ' ∧ ∀ K, K σ' → f_X5_step_93 K (d + 1) σ := by
  intro d
  induction d with
  | zero =>
    intro p σ hp e2 e4 hT
    refine ⟨σ, e4, fun _ _ => rfl, fun _ _ _ => rfl, fun K hk => ?_⟩
    rw [f_X5_step_93, e2, e4, if_pos (nI_le (by omega) (by omega))]
    exact hk
  | succ d ih =>
    intro p σ hp e2 e4 hT
    cases c : inZ (T p) 97 122 with
    | true =>
      obtain ⟨σ', a1, a2, a3, a4⟩ := ih (p + 1) (mset σ 11 0 5 (nI (p + 1))) (by omega) (by rw [mset_ap, if_neg (by omega)]; exact e2) (by rw [mset_ap, if_pos ⟨rfl, rfl, rfl⟩]) (fun k hk => by rw [mset_ne (by omega)]; exact hT k hk)
      refine ⟨σ', by rw [a1, leP, if_pos c], fun j hj => by rw [a2 j hj, mset_ap, if_neg (by omega)], Oc.set.tr a3, fun K hk => ?_⟩
      rw [f_X5_step_93, e2, e4, if_neg (nI_ge (by omega) (by omega)), nI_clamp (by omega), hT p (by omega)]
      refine ⟨vp_in_nI (by omega) (by omega), isLetter_X ?_⟩
      rw [c]
      refine itt ⟨_, rfl, ?_⟩
      rw [e4, nI_1]
      exact a4 K hk
    | false =>
      refine ⟨σ, by rw [e4, leP, if_neg (by rw [c]; decide)], fun _ _ => rfl, fun _ _ _ => rfl, fun K hk => ?_⟩
      rw [f_X5_step_93, e2, e4, if_neg (nI_ge (by omega) (by omega)), nI_clamp (by omega), hT p (by omega)]
      refine ⟨vp_in_nI (by omega) (by omega), isLetter_X ?_⟩
      rw [c]
      exact itf hk
theorem ten_v {v j : Nat} (h : 48 ≤ j) : (((10 : Int32) * nI v) + nI j) - (48 : Int32) = nI (10 * v + j - 48) := by
  rw [show (10 : Int32) * nI v = nI (10 * v) from pk_mul 10 v, nI_add]
  exact pk_sub (a := 10 * v + j) (b := 48) (by omega)
theorem di_X {T : Nat → Int32} {L : Nat} (hL : L ≤ 120) : ∀ (d p v : Nat) (σ : Mm), p + d = L → v ≤ 9999 → σ 11 0 2 = nI L → σ 11 0 5 = nI p → σ 11 0 6 = nI (if 1000 < v then 1000 else v) → (∀ k, k < L → σ 10 0 k = T k) → ∃ σ', σ' 11 0 5 = nI (diP T d p) ∧ σ' 11 0 6 = nI (if 1000 < diV T d p v then 1000 else diV T d p v) ∧ (∀ j, j ≠ 5 → j ≠ 6 → σ' 11 0 j = σ 11 0 j) ∧ Oc σ σ' ∧ ∀ K, K σ' → f_X5_step_157 K (d + 1) σ := by
  intro d
  induction d with
  | zero =>
    intro p v σ hp hv e2 e4 e6 hT
    refine ⟨σ, e4, e6, fun _ _ _ => rfl, fun _ _ _ => rfl, fun K hk => ?_⟩
    rw [f_X5_step_157, e2, e4, if_pos (nI_le (by omega) (by omega))]
    exact hk
  | succ d ih =>
    intro p v σ hp hv e2 e4 e6 hT
    cases c : inZ (T p) 48 57 with
    | true =>
      obtain ⟨x, x1, x2, ex⟩ := dig_ex c
      have bv : (if 999 < v then v else 10 * v + (T p).toNatClampNeg - 48) ≤ 9999 := by
        rw [ex, nI_clamp (by omega)]; split <;> omega
      have nv : (if (1000 : Int32) < ((((10 : Int32) * nI (if 1000 < v then 1000 else v)) + nI x) - (48 : Int32)) then (1000 : Int32) else ((((10 : Int32) * nI (if 1000 < v then 1000 else v)) + nI x) - (48 : Int32))) = nI (if 1000 < (if 999 < v then v else 10 * v + x - 48) then 1000 else (if 999 < v then v else 10 * v + x - 48)) := by
        rw [ten_v x1]
        by_cases g1 : 1000 < v
        · rw [if_pos g1, if_pos (show (1000 : Int32) < nI _ from nI_lt (a := 1000) (by omega) (by omega)), if_pos (show 999 < v by omega), if_pos g1]; rfl
        · rw [if_neg g1]
          by_cases g2 : 999 < v
          · have : v = 1000 := by omega
            subst this
            rw [if_pos (show 999 < 1000 by omega), if_neg (show ¬ 1000 < 1000 by omega)]
            by_cases g3 : 1000 < 10 * 1000 + x - 48
            · rw [if_pos (show (1000 : Int32) < nI _ from nI_lt (a := 1000) g3 (by omega))]; rfl
            · omega
          · rw [if_neg g2]
            by_cases g3 : 1000 < 10 * v + x - 48
            · rw [if_pos (show (1000 : Int32) < nI _ from nI_lt (a := 1000) g3 (by omega)), if_pos g3]; rfl
            · rw [if_neg (show ¬ (1000 : Int32) < nI _ from nI_nlt (a := 1000) (by omega) (by omega)), if_neg g3]
      obtain ⟨σ', a1, a2, a3, a4, a5⟩ := ih (p + 1) (if 999 < v then v else 10 * v + (T p).toNatClampNeg - 48) (mset (mset σ 11 0 6 (nI (if 1000 < (if 999 < v then v else 10 * v + x - 48) then 1000 else (if 999 < v then v else 10 * v + x - 48)))) 11 0 5 (nI (p + 1))) (by omega) bv (by rw [mset_ap, if_neg (by omega), mset_ap, if_neg (by omega)]; exact e2) (by rw [mset_ap, if_pos ⟨rfl, rfl, rfl⟩]) (by rw [mset_ap, if_neg (by omega), mset_ap, if_pos ⟨rfl, rfl, rfl⟩, ex, nI_clamp (show x < 2 ^ 31 by omega)]) (fun k hk => by rw [mset_ne (by omega), mset_ne (by omega)]; exact hT k hk)
      refine ⟨σ', by rw [a1, diP, if_pos c], by rw [a2, diV, if_pos c], fun j hj hj' => by rw [a3 j hj hj', mset_ap, if_neg (by omega), mset_ap, if_neg (by omega)], (Oc.set.tr Oc.set).tr a4, fun K hk => ?_⟩
      rw [f_X5_step_157, e2, e4, if_neg (nI_ge (by omega) (by omega)), nI_clamp (by omega), hT p (by omega)]
      refine ⟨vp_in_nI (by omega) (by omega), isDigit_X ?_⟩
      rw [c]
      refine itt ?_
      rw [e4, e6, nI_clamp (by omega), hT p (by omega), ex, nv]
      refine ⟨vp_in_nI (by omega) (by omega), _, rfl, _, rfl, ?_⟩
      rw [mset_ap, if_neg (show ¬ (11 = 11 ∧ 0 = 0 ∧ 5 = 6) by omega), e4, nI_1]
      exact a5 K hk
    | false =>
      refine ⟨σ, by rw [e4, diP, if_neg (by rw [c]; decide)], by rw [diV, if_neg (show ¬ inZ (T p) 48 57 = true by rw [c]; decide)]; exact e6, fun _ _ _ => rfl, fun _ _ _ => rfl, fun K hk => ?_⟩
      rw [f_X5_step_157, e2, e4, if_neg (nI_ge (by omega) (by omega)), nI_clamp (by omega), hT p (by omega)]
      refine ⟨vp_in_nI (by omega) (by omega), isDigit_X ?_⟩
      rw [c]
      exact itf hk
theorem step_X {T : Nat → Int32} {L p : Nat} {σ : Mm} (hL : L ≤ 120) (hp : p ≤ L) (e2 : σ 11 0 2 = nI L) (e5 : σ 11 0 5 = nI p) (hT : ∀ k, k < L → σ 10 0 k = T k) : ∃ σ', RdX L (scan T L p) σ' ∧ Oc σ σ' ∧ ∀ K, K σ' → f_X5_step σ K := by
  have b1 := spF_bd (T := T) (L - p) p
  obtain ⟨σ1, a1, a2, a3, a4⟩ := sp_X (T := T) hL (L - p) p (mset σ 11 0 4 (nI p)) (by omega) (by rw [mset_ap, if_neg (by omega)]; exact e2) (by rw [mset_ap, if_pos ⟨rfl, rfl, rfl⟩]) (fun k hk => by rw [mset_ne (by omega)]; exact hT k hk)
  have O1 : Oc σ σ1 := Oc.set.tr a3
  have f2 : σ1 11 0 2 = nI L := by rw [a2 2 (by omega), mset_ap, if_neg (by omega)]; exact e2
  have start : ∀ K, f_X5_step_46 K σ1 → f_X5_step σ K := by
    intro K h
    unfold f_X5_step
    rw [e5]
    exact ⟨_, rfl, L - p + 1, a4 K _ h⟩
  obtain ⟨f, ef⟩ : ∃ f, f = spF T (L - p) p := ⟨_, rfl⟩
  unfold scan
  rw [← ef] at a1 b1 ⊢
  obtain ⟨σ5, e'⟩ : ∃ σ5, σ5 = mset σ1 11 0 5 (nI f) := ⟨_, rfl⟩
  have O5 : Oc σ σ5 := by rw [e']; exact O1.tr Oc.set
  have g2 : σ5 11 0 2 = nI L := by rw [e', mset_ap, if_neg (by omega)]; exact f2
  have g4 : σ5 11 0 4 = nI f := by rw [e', mset_ap, if_neg (by omega)]; exact a1
  have g5 : σ5 11 0 5 = nI f := by rw [e', mset_ap, if_pos ⟨rfl, rfl, rfl⟩]
  have gT : ∀ k, k < L → σ5 10 0 k = T k := fun k hk => by rw [O5 10 0 (by omega)]; exact hT k hk
  by_cases c0 : L ≤ f
  · rw [if_pos c0]
    refine ⟨mset σ5 11 0 3 (nI 0), ⟨?_, ?_, ?_, ?_, fun h => absurd (show (0 : Nat) = 2 from h) (by decide)⟩, O5.tr Oc.set, fun K hk => start K ?_⟩
    · rw [mset_ap, if_neg (by omega)]; exact g2
    · rw [mset_ap, if_pos ⟨rfl, rfl, rfl⟩]
    · rw [mset_ap, if_neg (by omega)]; exact g4
    · rw [mset_ap, if_neg (by omega)]; exact g5
    · unfold f_X5_step_46
      rw [a1]
      refine ⟨σ5, e', ?_⟩
      rw [g4, g2, if_neg (nI_nlt c0 (by omega))]
      exact ⟨_, rfl, hk⟩
  · rw [if_neg c0]
    have tf : vp_in (nI f) 120 := vp_in_nI (by omega) (by omega)
    cases c1 : inZ (T f) 97 122 with
    | true =>
      rw [if_pos rfl]
      obtain ⟨σ6, h1, h2, h3, h4⟩ := le_X (T := T) hL (L - f) f (mset σ5 11 0 3 (nI 1)) (by omega) (by rw [mset_ap, if_neg (by omega)]; exact g2) (by rw [mset_ap, if_neg (by omega)]; exact g5) (fun k hk => by rw [mset_ne (by omega)]; exact gT k hk)
      refine ⟨σ6, ⟨?_, ?_, ?_, h1, fun h => absurd (show (1 : Nat) = 2 from h) (by decide)⟩, (O5.tr Oc.set).tr h3, fun K hk => start K ?_⟩
      · rw [h2 2 (by omega), mset_ap, if_neg (by omega)]; exact g2
      · rw [h2 3 (by omega), mset_ap, if_pos ⟨rfl, rfl, rfl⟩]
      · rw [h2 4 (by omega), mset_ap, if_neg (by omega)]; exact g4
      · unfold f_X5_step_46
        rw [a1]
        refine ⟨σ5, e', ?_⟩
        rw [g4, g2, if_pos (nI_lt (by omega) (by omega)), nI_clamp (by omega), gT f (by omega)]
        refine ⟨tf, isLetter_X ?_⟩
        rw [c1]
        exact itt ⟨_, rfl, _, h4 K hk⟩
    | false =>
      rw [if_neg (by decide)]
      have front : ∀ K, (∀ b, b = inZ (T f) 48 57 → if b = true then (∃ σ17, σ17 = mset σ5 11 0 3 (2 : Int32) ∧ (∃ σ18, σ18 = mset σ17 11 0 6 (0 : Int32) ∧ (∃ m, f_X5_step_157 K m σ18))) else (vp_in (σ5 11 0 4) 120 ∧ (if (σ5 10 0 ((σ5 11 0 4).toNatClampNeg)) = (59 : Int32) then (∃ σ15, σ15 = mset σ5 11 0 3 (3 : Int32) ∧ (∃ σ16, σ16 = mset σ15 11 0 5 ((σ15 11 0 5) + (1 : Int32)) ∧ (K σ16))) else (∃ σ13, σ13 = mset σ5 11 0 3 (4 : Int32) ∧ (∃ σ14, σ14 = mset σ13 11 0 5 ((σ13 11 0 5) + (1 : Int32)) ∧ (K σ14)))))) → f_X5_step_46 K σ1 := by
        intro K h
        unfold f_X5_step_46
        rw [a1]
        refine ⟨σ5, e', ?_⟩
        rw [g4, g2, if_pos (nI_lt (by omega) (by omega)), nI_clamp (by omega), gT f (by omega)]
        refine ⟨tf, isLetter_X ?_⟩
        rw [c1]
        refine itf ?_
        rw [g4, nI_clamp (by omega), gT f (by omega)]
        refine ⟨tf, isDigit_X ?_⟩
        have := h _ rfl
        rw [g4, nI_clamp (by omega), gT f (by omega)] at this
        rw [g4, nI_clamp (by omega), gT f (by omega)]
        exact this
      cases c2 : inZ (T f) 48 57 with
      | true =>
        rw [if_pos rfl]
        obtain ⟨σ6, h1, h2, h3, h4, h5⟩ := di_X (T := T) hL (L - f) f 0 (mset (mset σ5 11 0 3 (nI 2)) 11 0 6 (nI 0)) (by omega) (by omega) (by rw [mset_ap, if_neg (by omega), mset_ap, if_neg (by omega)]; exact g2) (by rw [mset_ap, if_neg (by omega), mset_ap, if_neg (by omega)]; exact g5) (by rw [mset_ap, if_pos ⟨rfl, rfl, rfl⟩]; rfl) (fun k hk => by rw [mset_ne (by omega), mset_ne (by omega)]; exact gT k hk)
        refine ⟨σ6, ⟨?_, ?_, ?_, h1, fun _ => h2⟩, ((O5.tr Oc.set).tr Oc.set).tr h4, fun K hk => start K (front K (fun b hb => ?_))⟩
        · rw [h3 2 (by omega) (by omega), mset_ap, if_neg (by omega), mset_ap, if_neg (by omega)]; exact g2
        · rw [h3 3 (by omega) (by omega), mset_ap, if_neg (by omega), mset_ap, if_pos ⟨rfl, rfl, rfl⟩]
        · rw [h3 4 (by omega) (by omega), mset_ap, if_neg (by omega), mset_ap, if_neg (by omega)]; exact g4
        · rw [hb, c2]
          exact itt ⟨_, rfl, _, rfl, _, h5 K hk⟩
      | false =>
        rw [if_neg (by decide)]
        by_cases c3 : T f = 59
        · rw [if_pos c3]
          refine ⟨mset (mset σ5 11 0 3 (nI 3)) 11 0 5 (nI (f + 1)), ⟨?_, ?_, ?_, ?_, fun h => absurd (show (3 : Nat) = 2 from h) (by decide)⟩, (O5.tr Oc.set).tr Oc.set, fun K hk => start K (front K (fun b hb => ?_))⟩
          · rw [mset_ap, if_neg (by omega), mset_ap, if_neg (by omega)]; exact g2
          · rw [mset_ap, if_neg (by omega), mset_ap, if_pos ⟨rfl, rfl, rfl⟩]
          · rw [mset_ap, if_neg (by omega), mset_ap, if_neg (by omega)]; exact g4
          · rw [mset_ap, if_pos ⟨rfl, rfl, rfl⟩]
          · rw [hb, c2]
            refine itf ?_
            rw [g4, nI_clamp (by omega), gT f (by omega), if_pos c3]
            refine ⟨tf, _, rfl, _, rfl, ?_⟩
            rw [mset_ap, if_neg (by omega), g5, nI_1]
            exact hk
        · rw [if_neg c3]
          refine ⟨mset (mset σ5 11 0 3 (nI 4)) 11 0 5 (nI (f + 1)), ⟨?_, ?_, ?_, ?_, fun h => absurd (show (4 : Nat) = 2 from h) (by decide)⟩, (O5.tr Oc.set).tr Oc.set, fun K hk => start K (front K (fun b hb => ?_))⟩
          · rw [mset_ap, if_neg (by omega), mset_ap, if_neg (by omega)]; exact g2
          · rw [mset_ap, if_neg (by omega), mset_ap, if_pos ⟨rfl, rfl, rfl⟩]
          · rw [mset_ap, if_neg (by omega), mset_ap, if_neg (by omega)]; exact g4
          · rw [mset_ap, if_pos ⟨rfl, rfl, rfl⟩]
          · rw [hb, c2]
            refine itf ?_
            rw [g4, nI_clamp (by omega), gT f (by omega), if_neg c3]
            refine ⟨tf, _, rfl, _, rfl, ?_⟩
            rw [mset_ap, if_neg (by omega), g5, nI_1]
            exact hk
