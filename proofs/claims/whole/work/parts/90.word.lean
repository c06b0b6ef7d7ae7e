/-! PURE: words and numbers of a text, both sides -/
def wLn (i : Nat) : Nat := strLn.getD i 0
def chV (i j : Nat) : Int32 := (((strBy.getD i []).getD j 0) &&& (255 : Int32)).toUInt32.toUInt16.toUInt32.toInt32
theorem wLn_sh : ∀ i, i < 13 → (Int32.ofNat (strLn.getD i 0)) >>> ((0 : Int32) &&& 31) = nI (wLn i) := by decide
theorem wLn_of : ∀ i, i < 13 → Int32.ofNat (strLn.getD i 0) = nI (wLn i) := by decide
theorem wLn_le : ∀ i, i < 13 → wLn i ≤ 7 := by decide
theorem chV_nar : ∀ i, i < 13 → ∀ j, j < 8 → (chV i j).toUInt32.toUInt16.toUInt32.toInt32 = chV i j := by decide +kernel
theorem chV_narrow {i j : Nat} (hi : i < 13) (hj : j < 8) : narrow .char (.int (chV i j)) = .int (chV i j) := by
  show Value.int _ = _
  rw [chV_nar i hi j hj]
theorem len_X {i : Nat} {σ : Mm} {K : Int32 → Mm → Prop} (hi : i < 13) (h : K (nI (wLn i)) σ) : f_J0_length_8abf5 i σ K := by
  refine ⟨hi, hi, rfl, ?_⟩
  show K (Int32.ofNat (strLn.getD i 0) >>> ((0 : Int32) &&& 31)) σ
  rw [wLn_sh i hi]; exact h
theorem len_Y {i : Nat} {σ : Mm} {K : Int32 → Mm → Prop} (hi : i < 13) (h : K (nI (wLn i)) σ) : f_J0_length_8abf5_y i σ K := by
  refine ⟨hi, hi, rfl, ?_⟩
  show K (Int32.ofNat (strLn.getD i 0) >>> ((0 : Int32) &&& 31)) σ
  rw [wLn_sh i hi]; exact h
theorem chr_X {i j : Nat} {σ : Mm} {K : Int32 → Mm → Prop} (hi : i < 13) (hj : j < wLn i) (h : K (chV i j) σ) : f_J0_charAt_5068e i (nI j) σ K := by
  have l7 := wLn_le i hi
  have ec : (((strBy.getD i []).getD ((nI j).toNatClampNeg) 0) &&& (255 : Int32)).toUInt32.toUInt16.toUInt32.toInt32 = chV i j := by rw [nI_clamp (by omega)]; rfl
  refine ⟨hi, hi, itt ⟨hi, ?_⟩⟩
  rw [wLn_of i hi]
  refine ⟨nI_pos (by omega), nI_lt hj (by omega), vp_in_nI (N := wLn i) hj (by omega), ?_⟩
  rw [ec]
  exact ⟨chV_narrow hi (by omega), chV_narrow hi (by omega), h⟩
theorem chr_Y {i j : Nat} {σ : Mm} {K : Int32 → Mm → Prop} (hi : i < 13) (hj : j < wLn i) (h : K (chV i j) σ) : f_J0_charAt_5068e_y i (nI j) σ K := by
  have l7 := wLn_le i hi
  have ec : (((strBy.getD i []).getD ((nI j).toNatClampNeg) 0) &&& (255 : Int32)).toUInt32.toUInt16.toUInt32.toInt32 = chV i j := by rw [nI_clamp (by omega)]; rfl
  refine ⟨hi, hi, itt ⟨hi, ?_⟩⟩
  rw [wLn_of i hi]
  refine ⟨nI_pos (by omega), nI_lt hj (by omega), vp_in_nI (N := wLn i) hj (by omega), ?_⟩
  rw [ec]
  exact ⟨chV_narrow hi (by omega), chV_narrow hi (by omega), h⟩
def eqW (T : Nat → Int32) (f i : Nat) : Nat → Nat → Bool
  | 0, _ => true
  | d + 1, j => decide (T (f + j) = chV i j) && eqW T f i d (j + 1)
def wdB (T : Nat → Int32) (q : Nat × Nat × Nat × Nat) (i : Nat) : Bool := decide (q.1 = 1 ∧ q.2.2.1 - q.2.1 = wLn i) && eqW T q.2.1 i (wLn i) 0
theorem isWord_X {T : Nat → Int32} {L i : Nat} {q : Nat × Nat × Nat × Nat} {σ : Mm} {K : Bool → Mm → Prop} (hi : i < 13) (hL : L ≤ 120) (hR : RdX L q σ) (hq : scok T L 0 q) (hT : ∀ k, k < L → σ 10 0 k = T k) (h : K (wdB T q i) σ) : f_X5_isWord i σ K := by
  obtain ⟨r2, r3, r4, r5, -⟩ := hR
  obtain ⟨-, q2, q3, q4, -⟩ := hq
  have l7 := wLn_le i hi
  refine ⟨hi, ?_⟩
  rw [r3]
  unfold wdB at h
  by_cases c : q.1 = 1
  · rw [if_pos (show nI q.1 = (1 : Int32) by rw [c]; rfl)]
    refine len_X hi ?_
    rw [r5, r4, show nI q.2.2.1 - nI q.2.1 = nI (q.2.2.1 - q.2.1) from pk_sub q2]
    by_cases d : q.2.2.1 - q.2.1 = wLn i
    · rw [if_pos (by rw [d])]
      rw [decide_eq_true ⟨c, d⟩, Bool.true_and] at h
      have main : ∀ (d' j : Nat), j + d' = wLn i → K (eqW T q.2.1 i d' j) σ → f_X5_isWord_28 i K (d' + 1) (nI j) σ := by
        intro d'
        induction d' with
        | zero =>
          intro j hj hk
          rw [f_X5_isWord_28]
          refine len_X hi ?_
          rw [if_pos (nI_le (by omega) (by omega))]
          exact hk
        | succ d' ih =>
          intro j hj hk
          rw [f_X5_isWord_28]
          refine len_X hi ?_
          rw [if_neg (nI_ge (by omega) (by omega)), r4, nI_add, nI_clamp (by omega), hT _ (by omega), nI_1]
          refine ⟨vp_in_nI (by omega) (by omega), chr_X hi (by omega) ?_⟩
          unfold eqW at hk
          by_cases g : T (q.2.1 + j) = chV i j
          · rw [if_pos g]
            rw [decide_eq_true g, Bool.true_and] at hk
            exact ih (j + 1) (by omega) hk
          · rw [if_neg g]
            rw [decide_eq_false g, Bool.false_and] at hk
            exact hk
      exact ⟨wLn i + 1, main (wLn i) 0 (by omega) h⟩
    · rw [if_neg (fun e => d ((nI_eq (by omega) (by omega)).mp e).symm)]
      rw [decide_eq_false (fun e => d e.2), Bool.false_and] at h
      exact h
  · rw [if_neg (fun e => c ((lit_eq q.1 1 (by omega) (by omega)).mp e))]
    rw [decide_eq_false (fun e => c e.1), Bool.false_and] at h
    exact h
theorem w35_Y {i : Nat} {μ : Mm} {K : Bool → Mm → Prop} (h : K false μ) : f_X7_isWord_35 i K μ := by
  refine ⟨1, ?_⟩
  rw [f_X7_isWord_39, if_pos rfl]
  exact ⟨false, rfl, h⟩
theorem isWord_Y {L i : Nat} {q : Nat × Nat × Nat × Nat} {μ : Mm} {K : Bool → Mm → Prop} (hi : i < 13) (hL : L ≤ 120) (hR : RdY L q μ) (hq : scok (μ 9 0) L 0 q) (hb : μ 0 0 17 = 0) (h : K (wdB (μ 9 0) q i) μ) : f_X7_isWord i μ K := by
  obtain ⟨r2, r3, r4, r5, -⟩ := hR
  obtain ⟨-, q2, q3, q4, -⟩ := hq
  have l7 := wLn_le i hi
  refine ⟨hi, ?_⟩
  rw [if_pos hb, r3]
  unfold wdB at h
  by_cases c : q.1 = 1
  · rw [if_pos (show nI (if q.1 = 4 then 3 else q.1) = (1 : Int32) by rw [c]; rfl)]
    refine len_Y hi ?_
    rw [r5, r4, show nI q.2.2.1 - nI q.2.1 = nI (q.2.2.1 - q.2.1) from pk_sub q2]
    by_cases d : q.2.2.1 - q.2.1 = wLn i
    · rw [if_pos (by rw [d])]
      rw [decide_eq_true ⟨c, d⟩, Bool.true_and] at h
      have main : ∀ (d' j : Nat), j + d' = wLn i → K (eqW (μ 9 0) q.2.1 i d' j) μ → f_X7_isWord_39 i K (d' + 1) (1 : Int32) (nI j) μ := by
        intro d'
        induction d' with
        | zero =>
          intro j hj hk
          rw [f_X7_isWord_39, if_neg (by decide)]
          refine len_Y hi ?_
          rw [if_pos (nI_le (by omega) (by omega))]
          exact ⟨true, rfl, hk⟩
        | succ d' ih =>
          intro j hj hk
          rw [f_X7_isWord_39, if_neg (by decide)]
          refine len_Y hi ?_
          rw [if_neg (nI_ge (by omega) (by omega)), r4, nI_add, nI_clamp (by omega), nI_1]
          refine ⟨vp_in_nI (by omega) (by omega), chr_Y hi (by omega) ?_⟩
          unfold eqW at hk
          by_cases g : μ 9 0 (q.2.1 + j) = chV i j
          · rw [if_pos g]
            rw [decide_eq_true g, Bool.true_and] at hk
            exact ih (j + 1) (by omega) hk
          · rw [if_neg g]
            rw [decide_eq_false g, Bool.false_and] at hk
            rw [f_X7_isWord_39, if_pos rfl]
            exact ⟨false, rfl, hk⟩
      exact ⟨wLn i + 1, main (wLn i) 0 (by omega) h⟩
    · rw [if_neg (fun e => d ((nI_eq (by omega) (by omega)).mp e))]
      rw [decide_eq_false (fun e => d e.2), Bool.false_and] at h
      exact w35_Y h
  · rw [if_neg (fun e => by
      have := (lit_eq (if q.1 = 4 then 3 else q.1) 1 (by split <;> omega) (by omega)).mp e
      split at this
      · omega
      · exact c this)]
    rw [decide_eq_false (fun e => c e.1), Bool.false_and] at h
    exact w35_Y h
/-- both readers at one token -/
def SS (L : Nat) (q : Nat × Nat × Nat × Nat) (σ μ : Mm) : Prop := RdX L q σ ∧ RdY L q μ ∧ (∀ k, k < L → σ 10 0 k = μ 9 0 k) ∧ scok (μ 9 0) L 0 q ∧ μ 0 0 17 = 0 ∧ L ≤ 120
theorem SS.cls {L : Nat} {q : Nat × Nat × Nat × Nat} {σ σ' μ : Mm} (h : SS L q σ μ) (e1 : σ' 11 0 = σ 11 0) (e2 : σ' 10 0 = σ 10 0) : SS L q σ' μ := by
  obtain ⟨h1, h2, h3, h4⟩ := h
  refine ⟨?_, h2, fun k hk => by rw [e2]; exact h3 k hk, h4⟩
  unfold RdX
  rw [e1]; exact h1
theorem SS.ref {L : Nat} {q : Nat × Nat × Nat × Nat} {σ μ μ' : Mm} (h : SS L q σ μ) (e1 : μ' 0 0 = μ 0 0) (e2 : μ' 9 0 = μ 9 0) : SS L q σ μ' := by
  obtain ⟨h1, h2, h3, h4, h5, h6⟩ := h
  refine ⟨h1, ?_, fun k hk => by rw [e2]; exact h3 k hk, by rw [e2]; exact h4, by rw [e1]; exact h5, h6⟩
  unfold RdY
  rw [e1]; exact h2
theorem next2 {L : Nat} {q : Nat × Nat × Nat × Nat} {σ μ : Mm} (h : SS L q σ μ) : ∃ q' σ' μ', SS L q' σ' μ' ∧ q.2.2.1 ≤ q'.2.1 ∧ Oc σ σ' ∧ Oy μ μ' ∧ (∀ K, K σ' → f_X5_step σ K) ∧ (∀ K, K μ' → f_X7_token μ K) := by
  obtain ⟨h1, h2, h3, h4, h5, h6⟩ := h
  have h43 : q.2.2.1 ≤ L := h4.2.2.1
  obtain ⟨σ', a1, a2, a3⟩ := step_X (T := μ 9 0) h6 h43 h1.1 h1.2.2.2.1 h3
  obtain ⟨μ', b1, b2, b3⟩ := token_Y h6 h43 h2.1 h2.2.2.2.1
  have ok := scan_ok (T := μ 9 0) h43
  have e9 : μ' 9 0 = μ 9 0 := b2.1 9 0 (by omega)
  refine ⟨scan (μ 9 0) L q.2.2.1, σ', μ', ⟨a1, b1, fun k hk => by rw [a2 10 0 (by omega), e9]; exact h3 k hk, ?_, by rw [b2.2 17 (by omega)]; exact h5, h6⟩, ok.1, a2, b2, a3, b3⟩
  rw [e9]
  exact ⟨Nat.zero_le _, ok.2⟩
theorem SS.wX {L i : Nat} {q : Nat × Nat × Nat × Nat} {σ μ : Mm} (h : SS L q σ μ) (hi : i < 13) {K : Bool → Mm → Prop} (hk : K (wdB (μ 9 0) q i) σ) : f_X5_isWord i σ K := isWord_X hi h.2.2.2.2.2 h.1 h.2.2.2.1 h.2.2.1 hk
theorem SS.wY {L i : Nat} {q : Nat × Nat × Nat × Nat} {σ μ : Mm} (h : SS L q σ μ) (hi : i < 13) {K : Bool → Mm → Prop} (hk : K (wdB (μ 9 0) q i) μ) : f_X7_isWord i μ K := isWord_Y hi h.2.2.2.2.2 h.2.1 h.2.2.2.1 h.2.2.2.2.1 hk
theorem SS.tk {L i : Nat} {q : Nat × Nat × Nat × Nat} {σ μ : Mm} (h : SS L q σ μ) (hi : i < 13) {K : Bool → Mm → Prop} (hk : if wdB (μ 9 0) q i = true then f_X7_token μ (fun μ1 => K true μ1) else K false μ) : f_X7_takes i μ K := ⟨hi, h.wY hi hk⟩
def nuB (q : Nat × Nat × Nat × Nat) (lo hi : Nat) : Bool := decide (q.1 = 2 ∧ lo ≤ q.2.2.2 ∧ q.2.2.2 ≤ hi)
theorem SS.nX {L lo hi : Nat} {q : Nat × Nat × Nat × Nat} {σ μ : Mm} (h : SS L q σ μ) (hlo : lo ≤ 999) (hhi : hi ≤ 999) {K : Bool → Mm → Prop} (hk : K (nuB q lo hi) σ) : f_X5_isNumber (nI lo) (nI hi) σ K := by
  obtain ⟨⟨-, r3, -, -, r6⟩, -, -, ⟨-, -, -, q4, -, -, -, -, q9, -⟩, -⟩ := h
  unfold f_X5_isNumber
  unfold nuB at hk
  rw [r3]
  by_cases c : q.1 = 2
  · rw [if_pos (show nI q.1 = (2 : Int32) by rw [c]; rfl), r6 c]
    by_cases d : lo ≤ q.2.2.2
    · rw [if_neg (nI_nlt (by split <;> omega) (by split <;> omega))]
      by_cases e : q.2.2.2 ≤ hi
      · rw [if_neg (nI_nlt (by split <;> omega) (by omega))]
        rw [decide_eq_true ⟨c, d, e⟩] at hk; exact hk
      · rw [if_pos (nI_lt (by split <;> omega) (by split <;> omega))]
        rw [decide_eq_false (fun g => e g.2.2)] at hk; exact hk
    · rw [if_pos (nI_lt (by split <;> omega) (by omega))]
      rw [decide_eq_false (fun g => d g.2.1)] at hk; exact hk
  · rw [if_neg (fun e => c ((lit_eq q.1 2 (by omega) (by omega)).mp e))]
    rw [decide_eq_false (fun g => c g.1)] at hk; exact hk
theorem SS.val {L lo hi : Nat} {q : Nat × Nat × Nat × Nat} {σ μ : Mm} (h : SS L q σ μ) (hhi : hi ≤ 999) (hn : nuB q lo hi = true) : q.1 = 2 ∧ lo ≤ q.2.2.2 ∧ q.2.2.2 ≤ hi ∧ σ 11 0 6 = nI q.2.2.2 ∧ μ 0 0 16 = nI q.2.2.2 := by
  have hn := of_decide_eq_true hn
  refine ⟨hn.1, hn.2.1, hn.2.2, ?_, h.2.1.2.2.2.2⟩
  rw [h.1.2.2.2.2 hn.1, if_neg (by omega)]
theorem set17 {μ : Mm} {x : Int32} : mset μ 0 0 17 x 0 0 17 = x := by rw [mset_ap, if_pos ⟨rfl, rfl, rfl⟩]
theorem set17o {μ : Mm} {x : Int32} {j : Nat} (h : j ≠ 17) : mset μ 0 0 17 x 0 0 j = μ 0 0 j := by rw [mset_ap, if_neg (by omega)]
theorem num_was {lo hi a3 : Int32} {μ : Mm} {K : Int32 → Mm → Prop} (hb : μ 0 0 17 = 1) (hk : K (μ 0 0 16) (mset μ 0 0 17 1)) : f_X7_number lo hi a3 μ K := by
  unfold f_X7_number
  rw [if_neg (by rw [hb]; decide)]
  refine ⟨⟨true, rfl⟩, _, rfl, ?_⟩
  rw [set17, if_neg (by decide), set17o (by omega)]
  exact hk
theorem mset_same {μ : Mm} {t i j : Nat} {x : Int32} (h : μ t i j = x) : mset μ t i j x = μ := by
  funext t' i' j'
  rw [mset_ap]
  by_cases c : t' = t ∧ i' = i ∧ j' = j
  · rw [if_pos c, c.1, c.2.1, c.2.2, h]
  · rw [if_neg c]
theorem SS.bad {L lo hi : Nat} {q : Nat × Nat × Nat × Nat} {σ μ : Mm} {a3 : Int32} (h : SS L q σ μ) (hlo : lo ≤ 999) (hhi : hi ≤ 999) (hc : a3 = 0 ∨ nuB q lo hi = false) {K : Int32 → Mm → Prop} (hk : K (nI q.2.2.2) (mset μ 0 0 17 1)) : f_X7_number (nI lo) (nI hi) a3 μ K := by
  obtain ⟨-, ⟨r2, r3, r4, r5, r6⟩, -, ⟨-, -, -, q4, -, -, -, -, q9, -⟩, hb, -⟩ := h
  have y35 : f_X7_number_35 K μ := by
    refine ⟨⟨true, rfl⟩, _, rfl, ?_⟩
    rw [set17, if_neg (by decide), set17o (by omega), r6]
    exact hk
  unfold f_X7_number
  rw [if_pos hb]
  by_cases c3 : a3 = 0
  · rw [if_pos c3]; exact y35
  · rw [if_neg c3]
    have hn := hc.resolve_left c3
    by_cases c : q.1 = 2
    · rw [if_pos (show μ 0 0 13 = (2 : Int32) by rw [r3, c]; rfl), in_inZ, r6, Int32.toInt_toInt64, Int32.toInt_toInt64, nI_toInt (by omega), nI_toInt (by omega)]
      rw [show inZ (nI q.2.2.2) (lo : Int) (hi : Int) = false from by
        unfold inZ
        rw [nI_toInt (by omega)]
        apply decide_eq_false
        unfold nuB at hn
        have hn := of_decide_eq_false hn
        omega]
      exact itf y35
    · rw [if_neg (fun e => by
        rw [r3] at e
        have := (lit_eq (if q.1 = 4 then 3 else q.1) 2 (by split <;> omega) (by omega)).mp e
        split at this
        · omega
        · exact c this)]
      exact y35
theorem SS.ok {L lo hi : Nat} {q : Nat × Nat × Nat × Nat} {σ μ : Mm} {a3 : Int32} (h : SS L q σ μ) (hlo : lo ≤ 999) (hhi : hi ≤ 999) (h3 : ¬ a3 = 0) (hn : nuB q lo hi = true) {K : Int32 → Mm → Prop} (hk : f_X7_token μ (fun μ' => K (nI q.2.2.2) μ')) : f_X7_number (nI lo) (nI hi) a3 μ K := by
  obtain ⟨-, ⟨r2, r3, r4, r5, r6⟩, -, ⟨-, -, -, q4, -, -, -, -, q9, -⟩, hb, -⟩ := h
  have hn := of_decide_eq_true hn
  unfold f_X7_number
  rw [if_pos hb, if_neg h3, if_pos (show μ 0 0 13 = (2 : Int32) by rw [r3, hn.1]; rfl), in_inZ, r6, Int32.toInt_toInt64, Int32.toInt_toInt64, nI_toInt (by omega), nI_toInt (by omega)]
  rw [show inZ (nI q.2.2.2) (lo : Int) (hi : Int) = true from by
    unfold inZ
    rw [nI_toInt (by omega)]
    apply decide_eq_true
    omega]
  refine itt ⟨⟨false, rfl⟩, _, rfl, ?_⟩
  rw [mset_same hb, if_pos hb, r6]
  exact hk
theorem RI.oc {σ σ' : Mm} {m : Nat → Int32} {r nb : Nat} (h : RI σ r m nb) (hr : r < 3) (o : Oc σ σ') : RI σ' r m nb := ⟨h.1.congr hr h.2.nb (o _ _ (by omega)) (o _ _ (by omega)) (o _ _ (by omega)) (o _ _ (by omega)) (o _ _ (by omega)) (fun _ _ => o _ _ (by omega)) (fun _ _ => o _ _ (by omega)), h.2⟩
/-- what reading may change -/
def TB (σ σ' : Mm) : Prop := ∀ t i, ¬ inR t i 2 → ¬ (t = 11 ∧ i = 0) → σ' t i = σ t i
def TZ (μ μ' : Mm) : Prop := (∀ t i, ¬ (t = 0 ∧ i = 0) → ¬ (t = 1 ∧ i = 0) → μ' t i = μ t i) ∧ ∀ j, (j < 13 ∨ 17 < j) → μ' 0 0 j = μ 0 0 j
theorem TB.tr {a b c : Mm} (h : TB a b) (k : TB b c) : TB a c := fun t i x y => (k t i x y).trans (h t i x y)
theorem TZ.tr {a b c : Mm} (h : TZ a b) (k : TZ b c) : TZ a c := ⟨fun t i x y => (k.1 t i x y).trans (h.1 t i x y), fun j x => (k.2 j x).trans (h.2 j x)⟩
theorem TB.rf {a : Mm} : TB a a := fun _ _ _ _ => rfl
theorem TZ.rf {a : Mm} : TZ a a := ⟨fun _ _ _ _ => rfl, fun _ _ => rfl⟩
theorem Oc.tb {a b : Mm} (h : Oc a b) : TB a b := fun t i _ y => h t i y
theorem Oy.tz {a b : Mm} (h : Oy a b) : TZ a b := ⟨fun t i x _ => h.1 t i x, fun j x => h.2 j (by omega)⟩
theorem TZ.bad {μ : Mm} {x : Int32} : TZ μ (mset μ 0 0 17 x) := ⟨fun t i a _ => mset_ne a, fun j c => by rw [mset_ap, if_neg (by omega)]⟩
theorem TZ.row {μ : Mm} {j : Nat} {x : Int32} : TZ μ (mset μ 1 0 j x) := ⟨fun t i _ b => mset_ne b, fun j c => by rw [mset_ne (by omega)]⟩
theorem TB.set {σ : Mm} {t i j : Nat} {x : Int32} (h : inR t i 2) : TB σ (mset σ t i j x) := fun t' i' a _ => mset_ne (fun e => a (by rw [e.1, e.2]; exact h))
/-- how a piece of a text is read: well, on both sides, or badly, at one place -/
def RZ (L e : Nat) (σ μ σ' μ' : Mm) (X : (Bool → Mm → Prop) → Prop) (Y : (Mm → Prop) → Prop) : Prop := TB σ σ' ∧ TZ μ μ' ∧ (∀ K : Mm → Prop, K μ' → Y K) ∧ ((∃ q nb, SS L q σ' μ' ∧ RI σ' 2 (μ' 1 0) nb ∧ e ≤ q.2.1 ∧ ∀ K : Bool → Mm → Prop, K true σ' → X K) ∨ (∃ f b, f ≤ 120 ∧ σ' 11 0 4 = nI f ∧ μ' 0 0 14 = nI f ∧ μ' 0 0 17 = 1 ∧ (b = true → σ' 11 0 3 = 2) ∧ ∀ K : Bool → Mm → Prop, K b σ' → X K))
theorem SS.pl {L : Nat} {q : Nat × Nat × Nat × Nat} {σ μ : Mm} (h : SS L q σ μ) : q.2.1 ≤ 120 ∧ σ 11 0 4 = nI q.2.1 ∧ μ 0 0 14 = nI q.2.1 := ⟨by have h1 := h.2.2.2.1.2.1; have h2 := h.2.2.2.1.2.2.1; have h3 := h.2.2.2.2.2; omega, h.1.2.2.1, h.2.1.2.2.1⟩
