/-! PURE: the short methods -/
theorem E_find' {σ μ : Mm} (w : Nat) (hw : w < 7) {a : Int32} (f : Int32) (ha : a = nI w) (hf : f = (-1000001 : Int32) - nI w) (h : Rel σ μ) {K : Int32 → Mm → Prop} (hk : ∀ r σ', f_X7_finds f μ (fun r' μ' => r' = r ∧ Rel σ' μ') → K r σ') : f_X6_finding a σ K := by
  obtain ⟨v1, v2, σ', e, hh⟩ := E_find w hw a f ha hf h
  exact ⟨v1, v2, σ', e, hk _ _ hh⟩
theorem E_find0' {σ μ : Mm} (h : Rel σ μ) {K : Int32 → Mm → Prop} (hk : ∀ r σ', f_X7_finds (-1000001 : Int32) μ (fun r' μ' => r' = r ∧ Rel σ' μ') → K r σ') : f_X6_finding (0 : Int32) σ K := E_find' 0 (by decide) _ rfl (by decide) h hk
def benchB (a : Int32) (nb : Nat) : Bool := inZ a 0 ((nb : Int) - 1)
theorem benchB_ex {a : Int32} {nb : Nat} (h : benchB a nb = true) (hn : nb ≤ 8) : ∃ b, b < nb ∧ a = nI b := by
  unfold benchB inZ at h
  have h' := of_decide_eq_true h
  obtain ⟨j, -, hj, rfl⟩ := inZ_ex (lo := 0) (hi := nb - 1) (x := a) (by unfold inZ; apply decide_eq_true; omega) (by omega)
  rw [nI_toInt (by omega)] at h'
  exact ⟨j, by omega, rfl⟩
theorem benchB_nI {b nb : Nat} (h : b < nb) (hn : nb ≤ 8) : benchB (nI b) nb = true := by
  unfold benchB inZ
  rw [nI_toInt (by omega)]
  apply decide_eq_true
  omega
theorem pred_toInt {n : Nat} (h : n < 2 ^ 30) : (nI n - 1).toInt = (n : Int) - 1 := by
  have := pk_sub_toInt (a := n) (b := 1) h (by omega)
  exact this
theorem isBench_X {a : Int32} {σ : Mm} {K : Bool → Mm → Prop} {nb : Nat} (h : σ 5 0 2 = nI nb) (hn : nb ≤ 5) : f_X6_isBench a σ K = K (benchB a nb) σ := by
  unfold f_X6_isBench benchB
  show (if a < (0 : Int32) then K false σ else if σ 5 0 2 ≤ a then K false σ else K true σ) = _
  rw [K_inZ, h, nI_toInt (by omega), z0]
theorem isBench_Y {a : Int32} {μ : Mm} {K : Bool → Mm → Prop} {nb : Nat} (h : μ 1 0 3 = nI nb) (hn : nb ≤ 5) : f_X7_isBench a μ K = K (benchB a nb) μ := by
  unfold f_X7_isBench benchB
  rw [in_inZ, h, Int32.toInt_toInt64, pred_toInt (by omega)]
  rfl
theorem Rel.nbx {σ μ : Mm} (h : Rel σ μ) : ∃ nb, nb ≤ 5 ∧ σ 5 0 2 = nI nb ∧ μ 1 0 3 = nI nb ∧ RI σ 0 (μ 1 0) nb := by
  obtain ⟨nb, a, b⟩ := h.1
  exact ⟨nb, b.1.1, by rw [← a.1.2.2.2]; exact b.1.2.1, b.1.2.1, a, b⟩
theorem becomes_Y {a : Int32} {x : Nat} {v : Int32} {μ : Mm} {K : Int32 → Mm → Prop} (hx : x < 136) (ha : a = nI x) (h : K (μ 1 0 x) (mset μ 1 0 x v)) : f_X7_becomes a v μ K := by
  subst ha
  have e : (nI x).toNatClampNeg = x := nI_clamp (by omega)
  refine ⟨vp_in_nI hx (by omega), vp_in_nI hx (by omega), _, rfl, ?_⟩
  rw [e]; exact h
theorem b2i_10 (b : Bool) : (b2i b = 0 ↔ b = false) := by cases b <;> decide
theorem E_weight (a v : Int32) {σ μ : Mm} (h : Rel σ μ) : f_X6_weight a v σ (fun r σ' => f_X7_weight a v μ (fun r' μ' => r' = r ∧ Rel σ' μ')) := by
  obtain ⟨nb, h5, hx, hy, hr⟩ := h.nbx
  unfold f_X6_weight f_X7_weight
  simp only [isPerson_X, isPerson_Y, in_inZ, ite_inZ]
  simp only [show (1 : Int64).toInt = (1 : Int32).toInt from rfl, show (99 : Int64).toInt = (99 : Int32).toInt from rfl]
  cases e : inZ a 0 7 with
  | false => simp only [Bool.false_eq_true, if_false]; exact E_find0 h
  | true =>
    simp only [if_true]
    cases e2 : inZ v (1 : Int32).toInt (99 : Int32).toInt with
    | false => simp only [Bool.false_eq_true, if_false]; exact E_find0 h
    | true =>
      simp only [if_true]
      obtain ⟨p, -, hp, rfl⟩ := inZ_ex (lo := 0) (hi := 7) e (by omega)
      obtain ⟨w, h1, h2, rfl⟩ := inZ_ex (lo := 1) (hi := 99) e2 (by omega)
      rw [nI_clamp (by omega)]
      refine ⟨vp_in_nI (by omega) (by omega), vp_in_nI (by omega) (by omega), _, rfl, becomes_Y (x := 68 + p) (by omega) (by rw [i32_lit, nI_add]) ⟨hr.1.2.2.1 p (by omega), ?_⟩⟩
      refine h.out (Out.set (by omega)) (OutY.set (by omega)) (nb := nb) ?_
      rw [mset_eq]
      exact hr.weight (by omega) h1 h2
theorem E_over (b : Bool) {σ μ : Mm} (h : Rel σ μ) : f_X6_over (b2i b) σ (fun r σ' => f_X7_over (b2i b) μ (fun r' μ' => r' = r ∧ Rel σ' μ')) := by
  obtain ⟨nb, h5, hx, hy, hr⟩ := h.nbx
  have e0 : μ 1 0 0 = σ 2 0 2 := hr.1.1.1
  obtain ⟨c, hc⟩ := hr.2.1.2.2.1
  have key : Rel (mset σ 2 0 2 (b2i b)) (mset μ 1 0 0 (b2i b)) := by
    refine h.out (Out.set (by omega)) (OutY.set (by omega)) (nb := nb) ?_
    rw [mset_eq]
    exact hr.over b
  unfold f_X6_over f_X7_over
  rw [← e0, hc]
  have fin : ∀ x : Int32, x = b2i c → f_X7_over (b2i b) μ (fun r' μ' => r' = x ∧ Rel (mset σ 2 0 2 (b2i b)) μ') := by
    intro x hx
    unfold f_X7_over
    cases b with
    | false => rw [if_pos (by decide)]; exact becomes_Y (x := 0) (by omega) rfl ⟨by rw [hc, hx], key⟩
    | true => rw [if_neg (by decide)]; exact becomes_Y (x := 0) (by omega) rfl ⟨by rw [hc, hx], key⟩
  cases c with
  | false => rw [if_pos (by decide)]; exact ⟨⟨b, rfl⟩, _, rfl, fin 0 rfl⟩
  | true => rw [if_neg (by decide)]; exact ⟨⟨b, rfl⟩, _, rfl, fin 1 rfl⟩
theorem E_held (v : Int32) {σ μ : Mm} (h : Rel σ μ) : f_X6_held v σ (fun r σ' => f_X7_held v μ (fun r' μ' => r' = r ∧ Rel σ' μ')) := by
  obtain ⟨nb, h5, hx, hy, hr⟩ := h.nbx
  unfold f_X6_held f_X7_held
  show (if v < (0 : Int32) then _ else _)
  rw [ite_inZ]
  simp only [in_inZ]
  simp only [show (0 : Int64).toInt = (0 : Int32).toInt from rfl, show (999 : Int64).toInt = (999 : Int32).toInt from rfl]
  cases e2 : inZ v (0 : Int32).toInt (999 : Int32).toInt with
  | false => simp only [Bool.false_eq_true, if_false]; exact E_find0 h
  | true =>
    simp only [if_true]
    obtain ⟨w, h1, h2, rfl⟩ := inZ_ex (lo := 0) (hi := 999) e2 (by omega)
    refine ⟨_, rfl, becomes_Y (x := 1) (by omega) rfl ⟨hr.1.1.2.1, ?_⟩⟩
    refine h.out (Out.set (by omega)) (OutY.set (by omega)) (nb := nb) ?_
    rw [mset_eq]
    exact hr.held h2
theorem E_seed (v : Int32) {σ μ : Mm} (h : Rel σ μ) : f_X6_seed v σ (fun r σ' => f_X7_seed v μ (fun r' μ' => r' = r ∧ Rel σ' μ')) := by
  obtain ⟨nb, h5, hx, hy, hr⟩ := h.nbx
  refine ⟨_, rfl, becomes_Y (x := 2) (by omega) rfl ⟨hr.1.1.2.2.1, ?_⟩⟩
  refine h.out (Out.set (by omega)) (OutY.set (by omega)) (nb := nb) ?_
  rw [mset_eq]
  exact hr.zed v
theorem at_ix {b s : Nat} (hb : b < 5) (hs : s < 8) : ((((76 : Int32) + ((10 : Int32) * nI b)) + (2 : Int32)) + nI s) = nI (78 + 10 * b + s) := by
  simp only [i32_lit, pk_mul, nI_add]
  congr 1
  omega
theorem kd_ix {b : Nat} (_hb : b < 5) : ((76 : Int32) + ((10 : Int32) * nI b)) = nI (76 + 10 * b) := by
  simp only [i32_lit, pk_mul, nI_add]
theorem sz_ix {b : Nat} (_hb : b < 5) : (((76 : Int32) + ((10 : Int32) * nI b)) + (1 : Int32)) = nI (77 + 10 * b) := by
  simp only [i32_lit, pk_mul, nI_add]
  congr 1
  omega
theorem at_Y {b s : Nat} (hb : b < 5) (hs : s < 8) (μ : Mm) (K : Int32 → Mm → Prop) : f_X7_at (nI b) (nI s) μ K = K (nI (78 + 10 * b + s)) μ := by
  unfold f_X7_at
  rw [at_ix hb hs]
theorem kindOf_Y {b : Nat} (hb : b < 5) {μ : Mm} {K : Int32 → Mm → Prop} (h : K (μ 1 0 (76 + 10 * b)) μ) : f_X7_kindOf (nI b) μ K := by
  unfold f_X7_kindOf
  rw [kd_ix hb, nI_clamp (by omega)]
  exact ⟨vp_in_nI (by omega) (by omega), h⟩
theorem seatsOf_Y {b : Nat} (hb : b < 5) {μ : Mm} {K : Int32 → Mm → Prop} (h : K (μ 1 0 (77 + 10 * b)) μ) : f_X7_seatsOf (nI b) μ K := by
  unfold f_X7_seatsOf
  rw [sz_ix hb, nI_clamp (by omega)]
  exact ⟨vp_in_nI (by omega) (by omega), h⟩
theorem E_turn (a k : Int32) {σ μ : Mm} (h : Rel σ μ) : f_X6_turn a k σ (fun r σ' => f_X7_turn a k μ (fun r' μ' => r' = r ∧ Rel σ' μ')) := by
  obtain ⟨nb, h5, hx, hy, hr⟩ := h.nbx
  unfold f_X6_turn f_X7_turn
  simp only [isBench_X hx h5, isBench_Y hy h5, isKind_X, isKind_Y]
  cases e : benchB a nb with
  | false => simp only [Bool.false_eq_true, if_false]; exact E_find0 h
  | true =>
    simp only [if_true]
    cases e2 : inZ k 0 6 with
    | false => simp only [Bool.false_eq_true, if_false]; exact E_find0 h
    | true =>
      simp only [if_true]
      obtain ⟨b, hb, rfl⟩ := benchB_ex e (by omega)
      obtain ⟨w, -, hw, rfl⟩ := inZ_ex (lo := 0) (hi := 6) e2 (by omega)
      rw [nI_clamp (by omega), kd_ix (by omega)]
      refine ⟨vp_in_nI (by omega) (by omega), by omega, vp_in_nI (by omega) (by omega), _, rfl, becomes_Y (x := 76 + 10 * b) (by omega) rfl ⟨(hr.1.2.2.2.1 b hb).1, ?_⟩⟩
      refine h.out (Out.set (by omega)) (OutY.set (by omega)) (nb := nb) ?_
      rw [mset_eq]
      exact hr.kind hb (by omega)
/-- a bench's kind and size -/
theorem RI.ks {σ : Mm} {r : Nat} {m : Nat → Int32} {nb b : Nat} (h : RI σ r m nb) (hb : b < nb) : ∃ k n, k < 7 ∧ 1 ≤ n ∧ n ≤ 8 ∧ m (76 + 10 * b) = nI k ∧ m (77 + 10 * b) = nI n ∧ σ 0 (5 * r + b) 0 = nI k ∧ σ 0 (5 * r + b) 1 = nI n ∧ (∀ s, s < 8 → m (78 + 10 * b + s) = σ 1 (5 * r + b) s ∧ pv (m (78 + 10 * b + s))) ∧ ∀ s, n ≤ s → s < 8 → m (78 + 10 * b + s) = -1 := by
  obtain ⟨⟨k, hk, e1⟩, ⟨n, n1, n2, e2, n4⟩, z⟩ := h.2.2.2.2.1 b hb
  obtain ⟨f1, f2, f3⟩ := h.1.2.2.2.1 b hb
  exact ⟨k, n, hk, n1, n2, e1, e2, by rw [← f1]; exact e1, by rw [← f2]; exact e2, fun s hs => ⟨f3 s hs, z s hs⟩, n4⟩
/-- is it a seat of that bench? -/
def seatB (a s : Int32) (nb : Nat) (sz : Nat → Int32) : Bool := benchB a nb && inZ s 0 ((sz a.toNatClampNeg).toInt - 1)
theorem isSeat_X {a s : Int32} {σ : Mm} {K : Bool → Mm → Prop} {nb : Nat} (h : σ 5 0 2 = nI nb) (hn : nb ≤ 5) (hk : K (seatB a s nb (fun b => σ 0 (5 * 0 + b) 1)) σ) : f_X6_isSeat a s σ K := by
  unfold f_X6_isSeat
  rw [isBench_X h hn]
  unfold seatB at hk
  cases e : benchB a nb with
  | false => rw [e] at hk; simpa using hk
  | true =>
    rw [e] at hk
    obtain ⟨b, hb, rfl⟩ := benchB_ex e (by omega)
    simp only [if_true]
    rw [nI_clamp (by omega)] at hk ⊢
    have hi : vp_in (nI b) 5 := vp_in_nI (by omega) (by omega)
    have hv : 5 * 0 + b < 17 := by omega
    have k2 : (if s < (0 : Int32) then K false σ else if σ 0 (5 * 0 + b) 1 ≤ s then K false σ else K true σ) := by rw [K_inZ]; simpa using hk
    by_cases c : s < 0
    · rw [if_pos c] at k2 ⊢; exact k2
    · rw [if_neg c] at k2 ⊢; exact ⟨hi, hv, k2⟩
theorem isSeat_Y {a s : Int32} {μ : Mm} {K : Bool → Mm → Prop} {nb : Nat} (h : μ 1 0 3 = nI nb) (hn : nb ≤ 5) (hsz : ∀ b, b < nb → ∃ n, n ≤ 8 ∧ μ 1 0 (77 + 10 * b) = nI n) (hk : K (seatB a s nb (fun b => μ 1 0 (77 + 10 * b))) μ) : f_X7_isSeat a s μ K := by
  unfold f_X7_isSeat
  rw [isBench_Y h hn]
  unfold seatB at hk
  cases e : benchB a nb with
  | false => rw [e] at hk; simpa using hk
  | true =>
    rw [e] at hk
    obtain ⟨b, hb, rfl⟩ := benchB_ex e (by omega)
    simp only [if_true]
    rw [nI_clamp (by omega)] at hk
    dsimp only at hk
    refine seatsOf_Y (by omega) ?_
    obtain ⟨n, n8, en⟩ := hsz b hb
    rw [in_inZ, Int32.toInt_toInt64, en, pred_toInt (by omega)]
    rw [en, nI_toInt (by omega)] at hk
    have e0 : (0 : Int64).toInt = 0 := rfl
    rw [e0]
    simp only [Bool.true_and] at hk
    cases e3 : inZ s 0 ((n : Int) - 1) <;> rw [e3] at hk <;> simpa using hk
theorem seatB_ex {a s : Int32} {nb : Nat} {sz : Nat → Int32} (h : seatB a s nb sz = true) (hn : nb ≤ 8) (hsz : ∀ b, b < nb → ∃ n, n ≤ 8 ∧ sz b = nI n) : ∃ b t n, b < nb ∧ n ≤ 8 ∧ t < n ∧ sz b = nI n ∧ a = nI b ∧ s = nI t := by
  unfold seatB at h
  simp only [Bool.and_eq_true] at h
  obtain ⟨b, hb, rfl⟩ := benchB_ex h.1 hn
  have h2 := h.2
  rw [nI_clamp (by omega)] at h2
  obtain ⟨n, n8, en⟩ := hsz b hb
  rw [en, nI_toInt (by omega)] at h2
  obtain ⟨t, ht, rfl⟩ := benchB_ex (a := s) (nb := n) h2 (by omega)
  exact ⟨b, t, n, hb, n8, ht, en, rfl, rfl⟩
theorem seatB_congr {a s : Int32} {nb : Nat} {f g : Nat → Int32} (hn : nb ≤ 8) (h : ∀ b, b < nb → f b = g b) : seatB a s nb f = seatB a s nb g := by
  unfold seatB
  cases e : benchB a nb with
  | false => simp only [Bool.false_and]
  | true =>
    obtain ⟨b, hb, rfl⟩ := benchB_ex e hn
    rw [nI_clamp (by omega), h b hb]
theorem E_seat (a s : Int32) {σ μ : Mm} (h : Rel σ μ) : f_X6_seat a s σ (fun r σ' => f_X7_seat a s μ (fun r' μ' => r' = r ∧ Rel σ' μ')) := by
  obtain ⟨nb, h5, hx, hy, hr⟩ := h.nbx
  unfold f_X6_seat f_X7_seat
  have hsz : ∀ b, b < nb → ∃ n, n ≤ 8 ∧ μ 1 0 (77 + 10 * b) = nI n := fun b hb => by
    obtain ⟨k, n, -, -, n8, -, e, -⟩ := hr.ks hb
    exact ⟨n, n8, e⟩
  have cg : seatB a s nb (fun b => σ 0 (5 * 0 + b) 1) = seatB a s nb (fun b => μ 1 0 (77 + 10 * b)) := seatB_congr (by omega) (fun b hb => ((hr.1.2.2.2.1 b hb).2.1).symm)
  refine isSeat_X hx h5 ?_
  rw [cg]
  cases e : seatB a s nb (fun b => μ 1 0 (77 + 10 * b)) with
  | false =>
    simp only [Bool.false_eq_true, if_false]
    exact E_find0' h fun r σ' hf => isSeat_Y hy h5 hsz (by rw [e]; exact hf)
  | true =>
    simp only [if_true]
    obtain ⟨b, t, n, hb, n8, ht, en, rfl, rfl⟩ := seatB_ex e (by omega) hsz
    rw [nI_clamp (by omega), nI_clamp (by omega)]
    refine ⟨vp_in_nI (by omega) (by omega), by omega, vp_in_nI (by omega) (by omega), isSeat_Y hy h5 hsz ?_⟩
    rw [e]
    simp only [if_true]
    rw [at_Y (by omega) (by omega), nI_clamp (by omega)]
    refine ⟨vp_in_nI (by omega) (by omega), (hr.1.2.2.2.1 b hb).2.2 t (by omega), h⟩
theorem spot_ix {k : Nat} (_h : k < 10) : ((126 : Int32) + nI k) = nI (126 + k) := by
  simp only [i32_lit, nI_add]
theorem isSpot_X (a : Int32) (σ : Mm) (K : Bool → Mm → Prop) : f_X6_isSpot a σ K = K (inZ a 0 9) σ := K_inZ
theorem E_hold (a b : Int32) {σ μ : Mm} (h : Rel σ μ) : f_X6_hold a b σ (fun r σ' => f_X7_hold a b μ (fun r' μ' => r' = r ∧ Rel σ' μ')) := by
  obtain ⟨nb, h5, hx, hy, hr⟩ := h.nbx
  unfold f_X6_hold f_X7_hold
  simp only [isSpot_X, in_inZ, isBench_X hx h5, isBench_Y hy h5]
  simp only [show (0 : Int64).toInt = 0 from rfl, show (9 : Int64).toInt = 9 from rfl]
  cases e : inZ a 0 9 with
  | false => simp only [Bool.false_eq_true, if_false]; exact E_find0 h
  | true =>
    simp only [if_true]
    obtain ⟨k, -, hk, rfl⟩ := inZ_ex (lo := 0) (hi := 9) e (by omega)
    rw [spot_ix (by omega), nI_clamp (by omega), nI_clamp (by omega)]
    have fin : (b = -1 ∨ ∃ x, x < nb ∧ b = nI x) → Rel (mset σ 7 0 k b) (mset μ 1 0 (126 + k) b) := fun hb => by
      refine h.out (Out.set (by omega)) (OutY.set (by omega)) (nb := nb) ?_
      rw [mset_eq]
      exact hr.spot (by omega) hb
    by_cases c : b = -1
    · rw [if_pos c]
      refine ⟨vp_in_nI (by omega) (by omega), _, rfl, ?_⟩
      rw [if_pos c]
      exact ⟨vp_in_nI (by omega) (by omega), _, rfl, by trivial, fin (Or.inl c)⟩
    · rw [if_neg c]
      simp only [if_neg c]
      cases e2 : benchB b nb with
      | false => simp only [Bool.false_eq_true, if_false]; exact E_find0 h
      | true =>
        simp only [if_true]
        exact ⟨vp_in_nI (by omega) (by omega), _, rfl, vp_in_nI (by omega) (by omega), _, rfl, by trivial, fin (Or.inr (benchB_ex e2 (by omega)))⟩
