/-! PURE: the tape, the sheets, the findings' numbers -/
theorem Rel.tape {σ σ' μ μ' : Mm} (h : Rel σ μ) (a : ∀ t i, t ≠ 10 → t ≠ 16 → σ' t i = σ t i) (a2 : σ' 16 0 2 = σ 16 0 2) (b : ∀ t i, t ≠ 9 → t ≠ 0 → μ' t i = μ t i) (b2 : μ' 0 0 3 = μ 0 0 3) (hT : RT σ' μ') : Rel σ' μ' := by
  obtain ⟨⟨nb, hr⟩, ⟨k1, k2, k3⟩, hF, -, hH, hX⟩ := h
  have cg : ∀ r m n, r < 3 → n ≤ 5 → RRow σ r m n → RRow σ' r m n := fun r m n hr hn h => h.congr hr hn (a _ _ (by omega) (by omega)) (a _ _ (by omega) (by omega)) (a _ _ (by omega) (by omega)) (a _ _ (by omega) (by omega)) (a _ _ (by omega) (by omega)) (fun _ _ => a _ _ (by omega) (by omega)) (fun _ _ => a _ _ (by omega) (by omega))
  refine ⟨⟨nb, ?_, ?_⟩, ⟨by rw [a2, b2]; exact k1, by rw [b2]; exact k2, fun z => ?_⟩, fun k hk => by rw [a _ _ (by omega) (by omega), b _ _ (by omega) (by omega)]; exact hF k hk, hT, fun s hs => ?_, ?_, ?_⟩
  · rw [b _ _ (by omega) (by omega)]; exact cg 0 _ _ (by omega) hr.2.nb hr.1
  · rw [b _ _ (by omega) (by omega)]; exact hr.2
  · rw [b2] at z
    obtain ⟨n, x, y⟩ := k3 z
    rw [b _ _ (by omega) (by omega)]
    exact ⟨n, cg 1 _ _ (by omega) y.nb x, y⟩
  · rw [a _ _ (by omega) (by omega), a _ _ (by omega) (by omega), b _ _ (by omega) (by omega), b _ _ (by omega) (by omega), b _ _ (by omega) (by omega)]; exact hH s hs
  · rw [a _ _ (by omega) (by omega)]; exact hX.1
  · rw [a _ _ (by omega) (by omega)]; exact hX.2
theorem Rel.shts {σ σ' μ μ' : Mm} (h : Rel σ μ) (a : ∀ t i, t ≠ 13 → t ≠ 14 → σ' t i = σ t i) (b : ∀ t i, t ≠ 10 → t ≠ 11 → t ≠ 12 → μ' t i = μ t i) (hH : RH σ' μ') : Rel σ' μ' := by
  obtain ⟨⟨nb, hr⟩, ⟨k1, k2, k3⟩, hF, ⟨L, l1, l2, l3, l4⟩, -, hX⟩ := h
  have cg : ∀ r m n, r < 3 → n ≤ 5 → RRow σ r m n → RRow σ' r m n := fun r m n hr hn h => h.congr hr hn (a _ _ (by omega) (by omega)) (a _ _ (by omega) (by omega)) (a _ _ (by omega) (by omega)) (a _ _ (by omega) (by omega)) (a _ _ (by omega) (by omega)) (fun _ _ => a _ _ (by omega) (by omega)) (fun _ _ => a _ _ (by omega) (by omega))
  have b0 := b 0 0 (by omega) (by omega) (by omega)
  refine ⟨⟨nb, ?_, ?_⟩, ⟨by rw [a _ _ (by omega) (by omega), b0]; exact k1, by rw [b0]; exact k2, fun z => ?_⟩, fun k hk => by rw [a _ _ (by omega) (by omega), b _ _ (by omega) (by omega) (by omega)]; exact hF k hk, ⟨L, l1, by rw [a _ _ (by omega) (by omega)]; exact l2, by rw [b0]; exact l3, fun k hk => by rw [a _ _ (by omega) (by omega), b _ _ (by omega) (by omega) (by omega)]; exact l4 k hk⟩, hH, ?_, ?_⟩
  · rw [b _ _ (by omega) (by omega) (by omega)]; exact cg 0 _ _ (by omega) hr.2.nb hr.1
  · rw [b _ _ (by omega) (by omega) (by omega)]; exact hr.2
  · rw [b0] at z
    obtain ⟨n, x, y⟩ := k3 z
    rw [b _ _ (by omega) (by omega) (by omega)]
    exact ⟨n, cg 1 _ _ (by omega) y.nb x, y⟩
  · rw [a _ _ (by omega) (by omega)]; exact hX.1
  · rw [a _ _ (by omega) (by omega)]; exact hX.2
theorem E_wipe {σ μ : Mm} (h : Rel σ μ) : f_X6_wipe σ (fun r σ' => f_X7_wipe μ (fun r' μ' => r' = r ∧ Rel σ' μ')) := by
  obtain ⟨L, l1, l2, l3, l4⟩ := h.2.2.2.1
  refine ⟨_, rfl, _, rfl, by rw [l2, l3], ?_⟩
  refine h.tape (fun t i _ _ => mset_ne (by omega)) (by rw [mset_ap, if_neg (by omega)]) (fun t i _ _ => mset_ne (by omega)) (by rw [mset_ap, if_neg (by omega)]) ⟨0, by omega, by rw [mset_ap, if_pos ⟨rfl, rfl, rfl⟩]; rfl, by rw [mset_ap, if_pos ⟨rfl, rfl, rfl⟩]; rfl, fun k hk => absurd hk (by omega)⟩
theorem m8 {j : Nat} : (8 : Int32) * nI j = nI (8 * j) := by rw [i32_lit, pk_mul]
theorem byte_eq (x : Int32) {j : Nat} (hj : j < 4) : ((x.toUInt32 >>> (((8 : Int32) * nI j).toUInt32 &&& Int32.toUInt32 31)).toInt32) &&& (255 : Int32) = (x >>> (((8 : Int32) * nI j) &&& 31)) &&& (255 : Int32) := by
  rw [m8]
  apply b_ext
  intro i hi
  rw [b_and, b_and, b_ushr _ (by omega), b_sshr _ (by omega) _ hi, b_255]
  by_cases c : i < 8
  · rw [if_pos (by omega)]
  · simp [c]
theorem nI_m1 (j : Nat) : nI (j + 1) + (-1 : Int32) = nI j := pk_m1 j
theorem nI0_m1 : nI 0 + (-1 : Int32) < 0 := by decide
theorem feed_loop (x : Int32) : ∀ (d : Nat) (σ μ : Mm) (K : Int32 → Mm → Prop) (L : Nat), d ≤ 4 → L + d ≤ 120 → Rel σ μ → σ 16 0 7 = nI L → (∀ r σ' , (∃ m, f_X7_feed_41 x (fun r' μ' => r' = r ∧ Rel σ' μ') m (nI d + (-1)) μ) → K r σ') → ∃ m, f_X6_feed_37 x K m (nI d + (-1)) σ := by
  intro d
  induction d with
  | zero =>
    intro σ μ K L h1 h2 h h3 hk
    refine ⟨1, ?_⟩
    rw [f_X6_feed_37, if_pos nI0_m1]
    apply hk
    refine ⟨1, ?_⟩
    rw [f_X7_feed_41, if_pos nI0_m1]
    obtain ⟨L', l1, l2, l3, l4⟩ := h.2.2.2.1
    exact ⟨by rw [l2, l3], h⟩
  | succ d ih =>
    intro σ μ K L h1 h2 h h3 hk
    obtain ⟨L', l1, l2, l3, l4⟩ := id h.2.2.2.1
    have eL : L' = L := (nI_eq (by omega) (by omega)).mp (l2.symm.trans h3)
    subst eL
    rw [nI_m1]
    have hR : Rel (mset (mset σ 10 0 L' (((x.toUInt32 >>> (((8 : Int32) * nI d).toUInt32 &&& Int32.toUInt32 31)).toInt32) &&& (255 : Int32))) 16 0 7 (nI (L' + 1))) (mset (mset μ 9 0 L' ((x >>> (((8 : Int32) * nI d) &&& 31)) &&& (255 : Int32))) 0 0 12 (nI (L' + 1))) := by
      refine h.tape (fun t i _ _ => by rw [mset_ne (by omega), mset_ne (by omega)]) (by rw [mset_ap, if_neg (by omega), mset_ne (by omega)]) (fun t i _ _ => by rw [mset_ne (by omega), mset_ne (by omega)]) (by rw [mset_ap, if_neg (by omega), mset_ne (by omega)]) ⟨L' + 1, by omega, by rw [mset_ap, if_pos ⟨rfl, rfl, rfl⟩], by rw [mset_ap, if_pos ⟨rfl, rfl, rfl⟩], fun k hk => ?_⟩
      by_cases e : k = L'
      · simp [mset_ap, e]; exact byte_eq x (by omega)
      · simp [mset_ap, e]; exact l4 k (by omega)
    obtain ⟨m, hm⟩ := ih _ _ K (L' + 1) (by omega) (by omega) hR (by rw [mset_ap, if_pos ⟨rfl, rfl, rfl⟩]) (fun r σ' hh => by
      apply hk
      obtain ⟨m, hm⟩ := hh
      refine ⟨m + 1, ?_⟩
      rw [nI_m1, f_X7_feed_41, if_neg (nI_pos (by omega)), l3, nI_clamp (by omega)]
      refine ⟨vp_in_nI (by omega) (by omega), _, rfl, _, rfl, ?_⟩
      rw [mset_ne (by omega), l3, nI_1]
      exact hm)
    refine ⟨m + 1, ?_⟩
    rw [f_X6_feed_37, if_neg (nI_pos (by omega)), h3, nI_clamp (by omega)]
    refine ⟨vp_in_nI (by omega) (by omega), _, rfl, _, rfl, ?_⟩
    rw [mset_ne (by omega), h3, nI_1]
    exact hm
theorem nI_subm1 (n : Nat) : nI n - 1 = nI n + (-1 : Int32) := by
  cases n with
  | zero => decide
  | succ k => rw [nI_m1]; exact nI_pred k
theorem E_feed (x n : Int32) {σ μ : Mm} (h : Rel σ μ) : f_X6_feed x n σ (fun r σ' => f_X7_feed x n μ (fun r' μ' => r' = r ∧ Rel σ' μ')) := by
  obtain ⟨L, l1, l2, l3, l4⟩ := h.2.2.2.1
  unfold f_X6_feed f_X7_feed
  rw [ite_inZ]
  simp only [in_inZ]
  simp only [show (1 : Int64).toInt = (1 : Int32).toInt from rfl, show (4 : Int64).toInt = (4 : Int32).toInt from rfl]
  cases e : inZ n (1 : Int32).toInt (4 : Int32).toInt with
  | false => simp only [Bool.false_eq_true, if_false]; exact E_find0 h
  | true =>
    simp only [if_true]
    obtain ⟨d, d1, d2, rfl⟩ := inZ_ex (lo := 1) (hi := 4) e (by omega)
    rw [l2, l3]
    have e1 : (120 : Int32) - nI d = nI (120 - d) := by rw [i32_lit, pk_sub (by omega)]
    have e2 : nI L + nI d = nI (L + d) := nI_add L d
    rw [e1, e2, nI_subm1]
    by_cases c : L + d ≤ 120
    · rw [if_pos (nI_le (by omega) (by omega))]
      refine feed_loop x d σ μ _ L (by omega) c h l2 (fun r σ' hh => ?_)
      rw [if_pos (show nI (L + d) ≤ (120 : Int32) from nI_le (b := 120) (by omega) (by omega))]
      exact hh
    · rw [if_neg (nI_ge (by omega) (by omega))]
      simp only [if_neg (show ¬ nI (L + d) ≤ (120 : Int32) from nI_ge (a := 120) (by omega) (by omega))]
      exact E_find 1 (by decide) _ _ rfl (by decide) h
