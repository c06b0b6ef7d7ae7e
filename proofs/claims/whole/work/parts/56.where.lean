/-! PURE: where one sits -/
def At (m : Nat → Int32) (nb p b s : Nat) : Prop := b < nb ∧ s < 8 ∧ m (78 + 10 * b + s) = nI p
def Nowh (m : Nat → Int32) (nb p : Nat) : Prop := ∀ b s, b < nb → s < 8 → ¬ m (78 + 10 * b + s) = nI p
theorem at_or (m : Nat → Int32) (nb p : Nat) : (∃ b s, At m nb p b s) ∨ Nowh m nb p := by
  by_cases c : ∃ b s, At m nb p b s
  · exact Or.inl c
  · exact Or.inr fun b s hb hs e => c ⟨b, s, hb, hs, e⟩
theorem seatOf_at {i n s : Nat} {x : Int32} {σ : Mm} {K : Int32 → Mm → Prop} (hi : i < 17) (en : σ 0 i 1 = nI n) (h8 : n ≤ 8) (hs : s < n) (e : σ 1 i s = x) (hf : ∀ q, q < s → ¬ σ 1 i q = x) (h : K (nI s) σ) : f_X0_seatOf i x σ K := by
  have main : ∀ (d q : Nat), q + d = s → f_X0_seatOf_2 i x K (d + 1) (nI q) σ := by
    intro d
    induction d with
    | zero =>
      intro q hq
      have : q = s := by omega
      subst this
      rw [f_X0_seatOf_2, en, if_neg (nI_ge hs (by omega)), nI_clamp (by omega), if_pos e]
      exact ⟨vp_in_nI (by omega) (by omega), h⟩
    | succ d ih =>
      intro q hq
      rw [f_X0_seatOf_2, en, if_neg (nI_ge (by omega) (by omega)), nI_clamp (by omega), if_neg (hf q (by omega)), nI_1]
      exact ⟨vp_in_nI (by omega) (by omega), ih (q + 1) (by omega)⟩
  exact ⟨hi, s + 1, main s 0 (by omega)⟩
theorem seatOf_no {i n : Nat} {x : Int32} {σ : Mm} {K : Int32 → Mm → Prop} (hi : i < 17) (en : σ 0 i 1 = nI n) (h8 : n ≤ 8) (hf : ∀ q, q < n → ¬ σ 1 i q = x) (h : K (-1) σ) : f_X0_seatOf i x σ K := by
  have main : ∀ (d q : Nat), q + d = n → f_X0_seatOf_2 i x K (d + 1) (nI q) σ := by
    intro d
    induction d with
    | zero =>
      intro q hq
      rw [f_X0_seatOf_2, en, if_pos (nI_le (by omega) (by omega))]; exact h
    | succ d ih =>
      intro q hq
      rw [f_X0_seatOf_2, en, if_neg (nI_ge (by omega) (by omega)), nI_clamp (by omega), if_neg (hf q (by omega)), nI_1]
      exact ⟨vp_in_nI (by omega) (by omega), ih (q + 1) (by omega)⟩
  exact ⟨hi, n + 1, main n 0 (by omega)⟩
/-- the size of a bench, and that one who sits there sits on one of its seats -/
theorem RI.atn {σ : Mm} {r : Nat} {m : Nat → Int32} {nb p b s : Nat} (h : RI σ r m nb) (hp : p < 8) (ha : At m nb p b s) : ∃ n, 1 ≤ n ∧ n ≤ 8 ∧ m (77 + 10 * b) = nI n ∧ σ 0 (5 * r + b) 1 = nI n ∧ s < n ∧ σ 1 (5 * r + b) s = nI p ∧ (∀ q, q < 8 → q ≠ s → ¬ σ 1 (5 * r + b) q = nI p) := by
  obtain ⟨hb, hs, e⟩ := ha
  obtain ⟨k, n, hk, n1, n8, ek, en, fk, fn, z, zz⟩ := h.ks hb
  refine ⟨n, n1, n8, en, fn, ?_, by rw [← (z s hs).1]; exact e, fun q hq hne e2 => ?_⟩
  · by_cases c : s < n
    · exact c
    · have := zz s (by omega) hs
      rw [e] at this
      exact absurd this (nI_ne_m1 (by omega))
  · rw [← (z q hq).1] at e2
    have := h.2.2.2.2.2.1 b s b q hb hs hb hq (by rw [e]; exact nI_ne_m1 (by omega)) (e.trans e2.symm)
    omega
theorem RI.other {σ : Mm} {r : Nat} {m : Nat → Int32} {nb p b s c q : Nat} (h : RI σ r m nb) (hp : p < 8) (ha : At m nb p b s) (hc : c < nb) (hne : c ≠ b) (hq : q < 8) : ¬ σ 1 (5 * r + c) q = nI p := by
  obtain ⟨hb, hs, e⟩ := ha
  obtain ⟨k, n, -, -, -, -, -, -, -, z, -⟩ := h.ks hc
  intro e2
  rw [← (z q hq).1] at e2
  have := h.2.2.2.2.2.1 b s c q hb hs hc hq (by rw [e]; exact nI_ne_m1 (by omega)) (e.trans e2.symm)
  omega
theorem RI.nb2 {σ : Mm} {r : Nat} {m : Nat → Int32} {nb : Nat} (h : RI σ r m nb) : σ 5 r 2 = nI nb := by
  rw [← h.1.1.2.2.2]; exact h.2.1.2.1
theorem with_at {σ : Mm} {r : Nat} {m : Nat → Int32} {nb p b s : Nat} {K : Int32 → Mm → Prop} (h : RI σ r m nb) (hr : r < 3) (hp : p < 8) (ha : At m nb p b s) (hk : K (nI b) σ) : f_X2_benchWith r (nI p) σ K := by
  have h5 := h.2.nb
  have hb := ha.1
  have main : ∀ (d c : Nat), c + d = b → f_X2_benchWith_2 r (nI p) K (d + 1) (nI c) σ := by
    intro d
    induction d with
    | zero =>
      intro c hc
      have : c = b := by omega
      subst this
      obtain ⟨n, n1, n8, -, fn, sn, e1, e2⟩ := h.atn hp ha
      rw [f_X2_benchWith_2, h.nb2, if_neg (nI_ge hb (by omega)), nI_clamp (by omega)]
      refine ⟨vp_in_nI (by omega) (by omega), by omega, seatOf_at (by omega) fn n8 sn e1 (fun q hq => e2 q (by omega) (by omega)) ?_⟩
      rw [if_neg (nI_ne_m1 (by omega))]; exact hk
    | succ d ih =>
      intro c hc
      obtain ⟨k, n, -, n1, n8, -, -, -, fn, -⟩ := h.ks (b := c) (by omega)
      rw [f_X2_benchWith_2, h.nb2, if_neg (nI_ge (by omega) (by omega)), nI_clamp (by omega), nI_1]
      refine ⟨vp_in_nI (by omega) (by omega), by omega, seatOf_no (by omega) fn n8 (fun q hq => h.other hp ha (by omega) (by omega) (by omega)) ?_⟩
      rw [if_pos rfl]; exact ih (c + 1) (by omega)
  exact ⟨hr, b + 1, main b 0 (by omega)⟩
theorem with_no {σ : Mm} {r : Nat} {m : Nat → Int32} {nb p : Nat} {K : Int32 → Mm → Prop} (h : RI σ r m nb) (hr : r < 3) (hn : Nowh m nb p) (hk : K (-1) σ) : f_X2_benchWith r (nI p) σ K := by
  have h5 := h.2.nb
  have main : ∀ (d c : Nat), c + d = nb → f_X2_benchWith_2 r (nI p) K (d + 1) (nI c) σ := by
    intro d
    induction d with
    | zero =>
      intro c hc
      rw [f_X2_benchWith_2, h.nb2, if_pos (nI_le (by omega) (by omega))]; exact hk
    | succ d ih =>
      intro c hc
      obtain ⟨k, n, -, n1, n8, -, -, -, fn, z, -⟩ := h.ks (b := c) (by omega)
      rw [f_X2_benchWith_2, h.nb2, if_neg (nI_ge (by omega) (by omega)), nI_clamp (by omega), nI_1]
      refine ⟨vp_in_nI (by omega) (by omega), by omega, seatOf_no (by omega) fn n8 (fun q hq => by rw [← (z q (by omega)).1]; exact hn c q (by omega) (by omega)) ?_⟩
      rw [if_pos rfl]; exact ih (c + 1) (by omega)
  exact ⟨hr, nb + 1, main nb 0 (by omega)⟩
theorem empty_at {i n s : Nat} {x : Int32} {σ : Mm} {K : Mm → Prop} (hi : i < 17) (en : σ 0 i 1 = nI n) (h8 : n ≤ 8) (hs : s < n) (e : σ 1 i s = x) (hf : ∀ q, q < s → ¬ σ 1 i q = x) (h : K (mset σ 1 i s (-1))) : f_X0_empty i x σ K := by
  refine ⟨hi, seatOf_at hi en h8 hs e hf ?_⟩
  rw [if_neg (nI_ne_m1 (by omega)), nI_clamp (by omega)]
  exact ⟨vp_in_nI (by omega) (by omega), _, rfl, h⟩
theorem empty_no {i n : Nat} {x : Int32} {σ : Mm} {K : Mm → Prop} (hi : i < 17) (en : σ 0 i 1 = nI n) (h8 : n ≤ 8) (hf : ∀ q, q < n → ¬ σ 1 i q = x) (h : K σ) : f_X0_empty i x σ K := by
  refine ⟨hi, seatOf_no hi en h8 hf ?_⟩
  rw [if_pos rfl]; exact h
theorem lift_at {σ : Mm} {r : Nat} {m : Nat → Int32} {nb p b s : Nat} {K : Bool → Mm → Prop} (h : RI σ r m nb) (hr : r < 3) (hp : p < 8) (ha : At m nb p b s) (hk : K true (mset σ 1 (5 * r + b) s (-1))) : f_X2_lift r (nI p) σ K := by
  have h5 := h.2.nb
  have hb := ha.1
  refine ⟨hr, with_at h hr hp ha ?_⟩
  obtain ⟨n, n1, n8, -, fn, sn, e1, e2⟩ := h.atn hp ha
  rw [if_neg (nI_ne_m1 (by omega)), nI_clamp (by omega)]
  exact ⟨vp_in_nI (by omega) (by omega), by omega, empty_at (by omega) fn n8 sn e1 (fun q hq => e2 q (by omega) (by omega)) hk⟩
theorem lift_no {σ : Mm} {r : Nat} {m : Nat → Int32} {nb p : Nat} {K : Bool → Mm → Prop} (h : RI σ r m nb) (hr : r < 3) (hn : Nowh m nb p) (hk : K false σ) : f_X2_lift r (nI p) σ K := by
  refine ⟨hr, with_no h hr hn ?_⟩
  rw [if_pos rfl]; exact hk
/-- the reference's search for one -/
theorem whereIn {b n : Nat} {x : Int32} {μ : Mm} {K : Int32 → Mm → Prop} {k50 : Mm → Prop} (hb : b < 5) (en : μ 1 0 (77 + 10 * b) = nI n) (h8 : n ≤ 8) (h : (∃ s, s < n ∧ μ 1 0 (78 + 10 * b + s) = x ∧ (∀ q, q < s → ¬ μ 1 0 (78 + 10 * b + q) = x) ∧ K (nI (10 * b + s)) μ) ∨ ((∀ q, q < n → ¬ μ 1 0 (78 + 10 * b + q) = x) ∧ k50 μ)) : ∃ m, f_X7_whereIs_14 x (nI b) K k50 m (0 : Int32) μ := by
  rcases h with ⟨s, sn, e, hf, hk⟩ | ⟨hf, hk⟩
  · have main : ∀ (d q : Nat), q + d = s → f_X7_whereIs_14 x (nI b) K k50 (d + 1) (nI q) μ := by
      intro d
      induction d with
      | zero =>
        intro q hq
        have : q = s := by omega
        subst this
        rw [f_X7_whereIs_14]
        refine seatsOf_Y hb ?_
        rw [en, if_neg (nI_ge sn (by omega)), at_Y hb (by omega), nI_clamp (by omega), if_pos e]
        refine ⟨vp_in_nI (by omega) (by omega), ?_⟩
        rw [i32_lit, pk_mul, nI_add]; exact hk
      | succ d ih =>
        intro q hq
        rw [f_X7_whereIs_14]
        refine seatsOf_Y hb ?_
        rw [en, if_neg (nI_ge (by omega) (by omega)), at_Y hb (by omega), nI_clamp (by omega), if_neg (hf q (by omega)), nI_1]
        exact ⟨vp_in_nI (by omega) (by omega), ih (q + 1) (by omega)⟩
    exact ⟨s + 1, main s 0 (by omega)⟩
  · have main : ∀ (d q : Nat), q + d = n → f_X7_whereIs_14 x (nI b) K k50 (d + 1) (nI q) μ := by
      intro d
      induction d with
      | zero =>
        intro q hq
        rw [f_X7_whereIs_14]
        refine seatsOf_Y hb ?_
        rw [en, if_pos (nI_le (by omega) (by omega))]; exact hk
      | succ d ih =>
        intro q hq
        rw [f_X7_whereIs_14]
        refine seatsOf_Y hb ?_
        rw [en, if_neg (nI_ge (by omega) (by omega)), at_Y hb (by omega), nI_clamp (by omega), if_neg (hf q (by omega)), nI_1]
        exact ⟨vp_in_nI (by omega) (by omega), ih (q + 1) (by omega)⟩
    exact ⟨n + 1, main n 0 (by omega)⟩
theorem Inv.sz {m : Nat → Int32} {nb b : Nat} (h : Inv m nb) (hb : b < nb) : ∃ n, 1 ≤ n ∧ n ≤ 8 ∧ m (77 + 10 * b) = nI n ∧ ∀ s, n ≤ s → s < 8 → m (78 + 10 * b + s) = -1 := by
  obtain ⟨-, ⟨n, n1, n2, e2, n4⟩, -⟩ := h.2.2.2.1 b hb
  exact ⟨n, n1, n2, e2, n4⟩
theorem where_at {μ : Mm} {nb p b s : Nat} {K : Int32 → Mm → Prop} (h : Inv (μ 1 0) nb) (hp : p < 8) (ha : At (μ 1 0) nb p b s) (hk : K (nI (10 * b + s)) μ) : f_X7_whereIs (nI p) μ K := by
  have h5 := h.nb
  obtain ⟨hb, hs, e⟩ := id ha
  have main : ∀ (d c : Nat), c + d = b → f_X7_whereIs_2 (nI p) K (d + 1) (nI c) μ := by
    intro d
    induction d with
    | zero =>
      intro c hc
      have : c = b := by omega
      subst this
      obtain ⟨n, n1, n8, en, zz⟩ := h.sz hb
      rw [f_X7_whereIs_2, h.1.2.1, if_neg (nI_ge hb (by omega))]
      have sn : s < n := by
        by_cases c : s < n
        · exact c
        · have := zz s (by omega) hs
          rw [e] at this
          exact absurd this (nI_ne_m1 (by omega))
      refine whereIn (by omega) en n8 (Or.inl ⟨s, sn, e, fun q hq e2 => ?_, hk⟩)
      have := h.2.2.2.2.1 c s c q hb hs hb (by omega) (by rw [e]; exact nI_ne_m1 (by omega)) (e.trans e2.symm)
      omega
    | succ d ih =>
      intro c hc
      obtain ⟨n, n1, n8, en, zz⟩ := h.sz (b := c) (by omega)
      rw [f_X7_whereIs_2, h.1.2.1, if_neg (nI_ge (by omega) (by omega)), nI_1]
      refine whereIn (by omega) en n8 (Or.inr ⟨fun q hq e2 => ?_, ih (c + 1) (by omega)⟩)
      have := h.2.2.2.2.1 b s c q hb hs (by omega) (by omega) (by rw [e]; exact nI_ne_m1 (by omega)) (e.trans e2.symm)
      omega
  exact ⟨b + 1, main b 0 (by omega)⟩
theorem where_no {μ : Mm} {nb p : Nat} {K : Int32 → Mm → Prop} (h : Inv (μ 1 0) nb) (hn : Nowh (μ 1 0) nb p) (hk : K (-1) μ) : f_X7_whereIs (nI p) μ K := by
  have h5 := h.nb
  have main : ∀ (d c : Nat), c + d = nb → f_X7_whereIs_2 (nI p) K (d + 1) (nI c) μ := by
    intro d
    induction d with
    | zero =>
      intro c hc
      rw [f_X7_whereIs_2, h.1.2.1, if_pos (nI_le (by omega) (by omega))]; exact hk
    | succ d ih =>
      intro c hc
      obtain ⟨n, n1, n8, en, zz⟩ := h.sz (b := c) (by omega)
      rw [f_X7_whereIs_2, h.1.2.1, if_neg (nI_ge (by omega) (by omega)), nI_1]
      exact whereIn (by omega) en n8 (Or.inr ⟨fun q hq => hn c q (by omega) (by omega), ih (c + 1) (by omega)⟩)
  exact ⟨nb + 1, main nb 0 (by omega)⟩
theorem div10 {b s : Nat} (_hb : b < 5) (_hs : s < 8) : nI (10 * b + s) / (10 : Int32) = nI b ∧ nI (10 * b + s) - nI (10 * b + s) / (10 : Int32) * (10 : Int32) = nI s := by
  have e1 : nI (10 * b + s) / (10 : Int32) = nI ((10 * b + s) / 10) := pk_div (d := 10) (by omega) (by omega) (by omega)
  have e2 : nI (10 * b + s) - nI (10 * b + s) / (10 : Int32) * (10 : Int32) = nI ((10 * b + s) % 10) := pk_rem (d := 10) (by omega) (by omega) (by omega)
  rw [e2, e1]
  exact ⟨congrArg nI (by omega), congrArg nI (by omega)⟩
theorem rises_at {μ : Mm} {nb p b s : Nat} {K : Bool → Mm → Prop} (h : Inv (μ 1 0) nb) (hp : p < 8) (ha : At (μ 1 0) nb p b s) (hk : K true (mset μ 1 0 (78 + 10 * b + s) (-1))) : f_X7_rises (nI p) μ K := by
  have h5 := h.nb
  have hb := ha.1
  have hs := ha.2.1
  refine where_at h hp ha ?_
  rw [if_neg (nI_pos (by omega)), (div10 (by omega) hs).2, (div10 (by omega) hs).1, at_Y (by omega) hs, nI_clamp (by omega)]
  refine ⟨vp_in_nI (by omega) (by omega), _, rfl, ?_⟩
  rw [if_neg (nI_pos (by omega))]; exact hk
theorem rises_no {μ : Mm} {nb p : Nat} {K : Bool → Mm → Prop} (h : Inv (μ 1 0) nb) (hn : Nowh (μ 1 0) nb p) (hk : K false μ) : f_X7_rises (nI p) μ K := by
  refine where_no h hn ?_
  rw [if_pos (by decide), if_pos (by decide)]; exact hk
/-- one rises, on both sides -/
theorem RI.up {σ : Mm} {r : Nat} {m : Nat → Int32} {nb p b s : Nat} (h : RI σ r m nb) (hp : p < 8) (ha : At m nb p b s) : RI (mset σ 1 (5 * r + b) s (-1)) r (upd m (78 + 10 * b + s) (-1)) nb ∧ Nowh (upd m (78 + 10 * b + s) (-1)) nb p := by
  obtain ⟨n, n1, n8, en, fn, sn, e1, e2⟩ := h.atn hp ha
  refine ⟨h.seat ha.1 en n8 sn (Or.inl rfl) (Or.inl rfl), fun c q hc hq e => ?_⟩
  by_cases c1 : c = b ∧ q = s
  · obtain ⟨rfl, rfl⟩ := c1
    rw [upd_eq] at e
    exact absurd e.symm (nI_ne_m1 (by omega))
  · rw [upd_ne (by omega)] at e
    have := h.2.2.2.2.2.1 b s c q ha.1 ha.2.1 hc hq (by rw [ha.2.2]; exact nI_ne_m1 (by omega)) (ha.2.2.trans e.symm)
    omega
theorem Rel.up {σ μ : Mm} (h : Rel σ μ) {nb p b s : Nat} (hr : RI σ 0 (μ 1 0) nb) (hp : p < 8) (ha : At (μ 1 0) nb p b s) : Rel (mset σ 1 (5 * 0 + b) s (-1)) (mset μ 1 0 (78 + 10 * b + s) (-1)) := by
  have hb := ha.1
  have h5 := hr.2.nb
  refine h.out (nb := nb) (Out.set (by omega)) (OutY.set (by omega)) ?_
  rw [mset_eq]
  exact (hr.up hp ha).1
theorem E_where (a : Int32) {σ μ : Mm} (h : Rel σ μ) : f_X6_where a σ (fun r σ' => f_X7_where a μ (fun r' μ' => r' = r ∧ Rel σ' μ')) := by
  obtain ⟨nb, h5, hx, hy, hr⟩ := h.nbx
  unfold f_X6_where
  rw [isPerson_X]
  cases e : inZ a 0 7 with
  | false =>
    rw [if_neg (by decide)]
    refine E_find0' h (fun r σ' hh => ?_)
    show f_X7_where a μ _
    unfold f_X7_where
    rw [isPerson_Y, e, if_neg (by decide)]
    exact hh
  | true =>
    rw [if_pos rfl]
    obtain ⟨p, -, hp, rfl⟩ := inZ_ex (lo := 0) (hi := 7) e (by omega)
    have Y : ∀ {G : Int32 → Mm → Prop}, f_X7_whereIs (nI p) μ (fun r σ' => f_X7_orNone r σ' (fun r2 σ2 => G r2 σ2)) → f_X7_where (nI p) μ G := by
      intro G hG
      unfold f_X7_where
      rw [isPerson_Y, e, if_pos rfl]
      exact hG
    rcases at_or (μ 1 0) nb p with ⟨b, s, ha⟩ | hn
    · have hb := ha.1
      have hs := ha.2.1
      obtain ⟨n, n1, n8, en, fn, sn, e1, e2⟩ := hr.atn (by omega) ha
      refine with_at hr (by omega) (by omega) ha ?_
      rw [if_neg (nI_ne_m1 (by omega)), nI_clamp (by omega)]
      refine ⟨vp_in_nI (by omega) (by omega), by omega, seatOf_at (by omega) fn n8 sn e1 (fun q hq => e2 q (by omega) (by omega)) (Y (where_at hr.2 (by omega) ha ?_))⟩
      unfold f_X7_orNone
      rw [if_pos (nI_pos' (by omega))]
      exact ⟨by rw [i32_lit, pk_mul, nI_add], h⟩
    · refine with_no hr (by omega) hn ?_
      rw [if_pos rfl]
      refine find_X (w := 3) (by decide) rfl (Y (where_no hr.2 hn ?_))
      unfold f_X7_orNone
      rw [if_neg (by decide)]
      exact find_Y (w := 3) (by decide) (by decide) ⟨rfl, h.find (by decide)⟩
theorem E_rise (a : Int32) {σ μ : Mm} (h : Rel σ μ) : f_X6_rise a σ (fun r σ' => f_X7_rise a μ (fun r' μ' => r' = r ∧ Rel σ' μ')) := by
  obtain ⟨nb, h5, hx, hy, hr⟩ := h.nbx
  unfold f_X6_rise
  rw [isPerson_X]
  cases e : inZ a 0 7 with
  | false =>
    rw [if_neg (by decide)]
    refine E_find0' h (fun r σ' hh => ?_)
    show f_X7_rise a μ _
    unfold f_X7_rise
    rw [isPerson_Y, e, if_neg (by decide)]
    exact hh
  | true =>
    rw [if_pos rfl]
    obtain ⟨p, -, hp, rfl⟩ := inZ_ex (lo := 0) (hi := 7) e (by omega)
    rcases at_or (μ 1 0) nb p with ⟨b, s, ha⟩ | hn
    · refine lift_at hr (by omega) (by omega) ha ?_
      rw [if_pos rfl]
      show f_X7_rise (nI p) μ _
      unfold f_X7_rise
      rw [isPerson_Y, e, if_pos rfl]
      refine rises_at hr.2 (by omega) ha ?_
      rw [if_pos rfl]
      exact ⟨rfl, h.up hr (by omega) ha⟩
    · refine lift_no hr (by omega) hn ?_
      rw [if_neg (by decide)]
      show f_X7_rise (nI p) μ _
      unfold f_X7_rise
      rw [isPerson_Y, e, if_pos rfl]
      refine rises_no hr.2 hn ?_
      rw [if_neg (by decide)]
      exact ⟨rfl, h⟩
