/-! PURE: load, judge -/
theorem in8 {x : Int32} (h : inZ x 0 7 = false) (h8 : ¬ x = 8) : inZ x 0 8 = false := by
  unfold inZ at h ⊢
  have h := of_decide_eq_false h
  apply decide_eq_false
  intro g
  apply h
  have : ¬ x.toInt = 8 := fun e => h8 (by
    have e8 : (8 : Int32).toInt = 8 := by decide
    exact Int32.toInt_inj.mp (e.trans e8.symm))
  omega
theorem told_both {σ μ : Mm} {nb b s n : Nat} (h : Rel σ μ) (hr : RI σ 0 (μ 1 0) nb) (hb : b < nb) (en : μ 1 0 (77 + 10 * b) = nI n) (h8 : n ≤ 8) (hs : s < n) (x : Int32) : ∃ (ok : Bool) (σ1 μ1 : Mm), (∀ K : Bool → Mm → Prop, K ok σ1 → f_X6_takesToldSeat (nI b) (nI s) x σ K) ∧ (∀ K : Bool → Mm → Prop, K ok μ1 → f_X7_sitsDown x (nI b) (nI s) μ K) ∧ Rel σ1 μ1 ∧ RI σ1 0 (μ1 1 0) nb ∧ μ1 1 0 (77 + 10 * b) = nI n ∧ (∀ t i, t ≠ 1 → σ1 t i = σ t i) ∧ (∀ t i, t ≠ 1 → μ1 t i = μ t i) := by
  have h5 := hr.2.nb
  have t1 : vp_in (nI b) 5 := vp_in_nI (by omega) (by omega)
  have t2 : vp_in (nI s) 8 := vp_in_nI (by omega) (by omega)
  have t3 : vp_in (nI (78 + 10 * b + s)) 136 := vp_in_nI (by omega) (by omega)
  by_cases c8 : x = 8
  · subst c8
    have hI : RI (mset σ 1 (5 * 0 + b) s (-1)) 0 (mset μ 1 0 (78 + 10 * b + s) (-1) 1 0) nb := by
      rw [mset_eq]; exact hr.seat hb en h8 hs (Or.inl rfl) (Or.inl rfl)
    refine ⟨true, mset σ 1 (5 * 0 + b) s (-1), mset μ 1 0 (78 + 10 * b + s) (-1), fun K hK => ?_, fun K hK => ?_, h.out (Out.set (by omega)) (OutY.set (by omega)) hI, hI, by rw [mset_eq, upd_ne (by omega)]; exact en, fun t i ht => mset_ne (by omega), fun t i ht => mset_ne (by omega)⟩
    · unfold f_X6_takesToldSeat
      rw [if_pos rfl, nI_clamp (n := b) (by omega), nI_clamp (n := s) (by omega)]
      exact ⟨t1, by omega, t2, _, rfl, hK⟩
    · unfold f_X7_sitsDown
      rw [at_Y (by omega) (by omega)]
      refine ⟨t3, ?_⟩
      rw [in_inZ, show inZ 8 (0 : Int64).toInt (8 : Int64).toInt = true by decide, if_pos rfl, if_pos (by decide)]
      unfold f_X7_sitsDown_43
      rw [if_pos (by decide)]
      unfold f_X7_sitsDown_55
      rw [at_Y (by omega) (by omega), if_pos rfl, nI_clamp (by omega)]
      exact ⟨t3, _, rfl, hK⟩
  · cases e : inZ x 0 7 with
    | false =>
      refine ⟨false, σ, μ, fun K hK => ?_, fun K hK => ?_, h, hr, en, fun _ _ _ => rfl, fun _ _ _ => rfl⟩
      · unfold f_X6_takesToldSeat
        rw [if_neg c8, isPerson_X, e, if_neg (by decide)]; exact hK
      · unfold f_X7_sitsDown
        rw [at_Y (by omega) (by omega)]
        refine ⟨t3, ?_⟩
        rw [in_inZ, show inZ x (0 : Int64).toInt (8 : Int64).toInt = false from in8 e c8, if_neg (by decide)]
        exact hK
    | true =>
      obtain ⟨p, -, hp, rfl⟩ := inZ_ex (lo := 0) (hi := 7) e (by omega)
      have hp8 : p < 8 := by omega
      have i8 : inZ (nI p) (0 : Int64).toInt (8 : Int64).toInt = true := inZ_nI (lo := 0) (hi := 8) (by omega) (by omega) (by omega)
      have n8' : ¬ (8 : Int32) ≤ nI p := nI_ge (a := p) (b := 8) (by omega) (by omega)
      obtain ⟨k, n', hk, n1, n8, ek, en', fk, fn, z, zz⟩ := hr.ks hb
      have zs := z s (by omega)
      by_cases ct : ¬ μ 1 0 (78 + 10 * b + s) = -1 ∧ ¬ μ 1 0 (78 + 10 * b + s) = nI p
      · refine ⟨false, σ, μ, fun K hK => ?_, fun K hK => ?_, h, hr, en, fun _ _ _ => rfl, fun _ _ _ => rfl⟩
        · unfold f_X6_takesToldSeat
          rw [if_neg c8, isPerson_X, e, if_pos rfl]
          refine ⟨by omega, t1, by rw [nI_clamp (by omega)]; omega, t2, ?_⟩
          rw [nI_clamp (n := b) (by omega), nI_clamp (n := s) (by omega), ← zs.1, if_neg ct.1, if_neg ct.2]
          exact itt hK
        · unfold f_X7_sitsDown
          rw [at_Y (by omega) (by omega)]
          refine ⟨t3, ?_⟩
          rw [in_inZ, i8, if_pos rfl, if_neg n8', nI_clamp (n := 78 + 10 * b + s) (by omega), if_neg (fun g => ct.1 ((pv_neg zs.2).1.mp g)), if_neg ct.2]
          exact hK
      · obtain ⟨d, e', σ1, μ1, L, L', hR, hI, hN, hB, hs1, hm1⟩ := lift2 h hr hp8
        have bb := hB b hb
        have en1 : μ1 1 0 (77 + 10 * b) = nI n := bb.2.1.trans en
        have hI2 : RI (mset σ1 1 (5 * 0 + b) s (nI p)) 0 (mset μ1 1 0 (78 + 10 * b + s) (nI p) 1 0) nb := by
          rw [mset_eq]
          exact hI.seat hb en1 h8 hs (pv_nI hp8) (Or.inr (fun b' s' h1 h2 h3 => absurd h3 (hN b' s' h1 h2)))
        refine ⟨true, mset σ1 1 (5 * 0 + b) s (nI p), mset μ1 1 0 (78 + 10 * b + s) (nI p), fun K hK => ?_, fun K hK => ?_, hR.out (Out.set (by omega)) (OutY.set (by omega)) hI2, hI2, by rw [mset_eq, upd_ne (by omega)]; exact en1, fun t i ht => by rw [mset_ne (by omega)]; exact hs1 t i ht, fun t i ht => by rw [mset_ne (by omega)]; exact hm1 t i ht⟩
        · unfold f_X6_takesToldSeat
          rw [if_neg c8, isPerson_X, e, if_pos rfl]
          refine ⟨by omega, t1, by rw [nI_clamp (by omega)]; omega, t2, ?_⟩
          have put : f_X2_putDown 0 (nI p) (nI b) (nI s) σ (fun σ5 => K true σ5) := by
            refine ⟨by omega, L _ ?_⟩
            rw [nI_clamp (n := b) (by omega), nI_clamp (n := s) (by omega)]
            exact ⟨t1, by omega, t2, _, rfl, hK⟩
          rw [nI_clamp (n := b) (by omega), nI_clamp (n := s) (by omega), ← zs.1]
          by_cases c1 : μ 1 0 (78 + 10 * b + s) = -1
          · rw [if_pos c1]; exact itf put
          · rw [if_neg c1]
            by_cases c2 : μ 1 0 (78 + 10 * b + s) = nI p
            · rw [if_pos c2]; exact itf put
            · exact absurd ⟨c1, c2⟩ ct
        · have go : f_X7_sitsDown_43 (nI p) (nI b) (nI s) K μ := by
            unfold f_X7_sitsDown_43
            rw [if_neg n8']
            refine L' _ ?_
            unfold f_X7_sitsDown_55
            rw [at_Y (by omega) (by omega), if_neg c8, nI_clamp (by omega)]
            exact ⟨t3, _, rfl, hK⟩
          unfold f_X7_sitsDown
          rw [at_Y (by omega) (by omega)]
          refine ⟨t3, ?_⟩
          rw [in_inZ, i8, if_pos rfl, if_neg n8', nI_clamp (n := 78 + 10 * b + s) (by omega)]
          by_cases c1 : μ 1 0 (78 + 10 * b + s) = -1
          · rw [if_pos ((pv_neg zs.2).1.mpr c1)]; exact go
          · rw [if_neg (fun g => c1 ((pv_neg zs.2).1.mp g))]
            by_cases c2 : μ 1 0 (78 + 10 * b + s) = nI p
            · rw [if_pos c2]; exact go
            · exact absurd ⟨c1, c2⟩ ct
theorem load_both {b sh n L N : Nat} (hsh : sh < 4) (h8 : n ≤ 8) (hL : L ≤ 40) (hN : N = if n < L then n else L) : ∀ (d s : Nat) (σ μ : Mm) (nb : Nat), s + d = N → Rel σ μ → RI σ 0 (μ 1 0) nb → b < nb → μ 1 0 (77 + 10 * b) = nI n → μ 11 0 sh = nI L → ∃ (r : Int32) (σ' μ' : Mm), (∀ K : Int32 → Mm → Prop, K r σ' → f_X6_load_73 (nI sh) (nI b) (nI N) K (d + 1) (nI s) σ) ∧ (∀ K : Int32 → Mm → Prop, K r μ' → f_X7_load_48 (nI sh) (nI b) K (d + 1) (nI s) μ) ∧ Rel σ' μ' := by
  have hNb : N ≤ n ∧ N ≤ L ∧ (N = n ∨ N = L) := by
    by_cases c : n < L
    · rw [if_pos c] at hN; omega
    · rw [if_neg c] at hN; omega
  have t0 : vp_in (nI sh) 4 := vp_in_nI hsh (by omega)
  intro d
  induction d with
  | zero =>
    intro s σ μ nb hs h hr hb en eL
    have h5 := hr.2.nb
    refine ⟨nI s, σ, μ, fun K hK => ?_, fun K hK => ?_, h⟩
    · rw [f_X6_load_73, if_pos (nI_le (by omega) (by omega))]; exact hK
    · rw [f_X7_load_48, nI_clamp (by omega), eL]
      refine ⟨t0, ?_⟩
      by_cases c : L ≤ s
      · rw [if_pos (nI_le c (by omega))]; exact hK
      · rw [if_neg (nI_ge (by omega) (by omega))]
        refine seatsOf_Y (by omega) ?_
        rw [en, if_pos (nI_le (by omega) (by omega))]; exact hK
  | succ d ih =>
    intro s σ μ nb hs h hr hb en eL
    have h5 := hr.2.nb
    obtain ⟨-, -, x3⟩ := h.2.2.2.2.1 sh hsh
    obtain ⟨ok, σ1, μ1, g1, g2, hR, hI, en1, o1, o2⟩ := told_both (s := s) h hr hb en h8 (by omega) (σ 14 sh s)
    have eX : ∀ {K : Int32 → Mm → Prop}, (if ok = true then f_X6_load_73 (nI sh) (nI b) (nI N) K (d + 1) (nI (s + 1)) σ1 else K (nI s) σ1) → f_X6_load_73 (nI sh) (nI b) (nI N) K (d + 1 + 1) (nI s) σ := by
      intro K hK
      rw [f_X6_load_73, if_neg (nI_ge (by omega) (by omega)), nI_clamp (n := sh) (by omega), nI_clamp (n := s) (by omega), nI_1]
      exact ⟨t0, hsh, vp_in_nI (by omega) (by omega), g1 _ hK⟩
    have eY : ∀ {K : Int32 → Mm → Prop}, (if ok = true then f_X7_load_48 (nI sh) (nI b) K (d + 1) (nI (s + 1)) μ1 else K (nI s) μ1) → f_X7_load_48 (nI sh) (nI b) K (d + 1 + 1) (nI s) μ := by
      intro K hK
      rw [f_X7_load_48, nI_clamp (n := sh) (by omega), eL]
      refine ⟨t0, ?_⟩
      rw [if_neg (nI_ge (by omega) (by omega))]
      refine seatsOf_Y (by omega) ?_
      rw [en, if_neg (nI_ge (by omega) (by omega)), num_ix hsh (by omega), nI_clamp (by omega), x3 s (by omega), nI_1]
      exact ⟨vp_in_nI (by omega) (by omega), g2 _ hK⟩
    cases ok with
    | true =>
      obtain ⟨r, σ', μ', k1, k2, k3⟩ := ih (s + 1) σ1 μ1 nb (by omega) hR hI hb en1 (by rw [o2 11 0 (by omega)]; exact eL)
      exact ⟨r, σ', μ', fun K hK => eX (itt (k1 K hK)), fun K hK => eY (itt (k2 K hK)), k3⟩
    | false => exact ⟨nI s, σ1, μ1, fun K hK => eX (itf hK), fun K hK => eY (itf hK), hR⟩
theorem E_load (a x : Int32) {σ μ : Mm} (h : Rel σ μ) : f_X6_load a x σ (fun r σ' => f_X7_load a x μ (fun r' μ' => r' = r ∧ Rel σ' μ')) := by
  obtain ⟨nb, h5, hx, hy, hr⟩ := h.nbx
  unfold f_X6_load
  rw [isSheet_X]
  cases e : inZ a 0 3 with
  | false =>
    rw [if_neg (by decide)]
    refine E_find0' h (fun r σ' hh => ?_)
    show f_X7_load a x μ _
    unfold f_X7_load
    rw [isSheet_Y, e, if_neg (by decide)]
    exact hh
  | true =>
    rw [if_pos rfl]
    obtain ⟨sh, -, hs, rfl⟩ := inZ_ex (lo := 0) (hi := 3) e (by omega)
    have hsh : sh < 4 := by omega
    obtain ⟨⟨x1, x2⟩, ⟨L, n1, n2, n3⟩, x3⟩ := h.2.2.2.2.1 sh hsh
    have t0 : vp_in (nI sh) 4 := vp_in_nI hsh (by omega)
    rw [nI_clamp (by omega), missing_X hsh]
    refine ⟨t0, hsh, ?_⟩
    by_cases c : σ 13 sh 0 = 0
    · rw [decide_eq_true c]
      refine itt (E_find' 5 (by decide) (-1000006 : Int32) rfl (by decide) h (fun r σ' hh => ?_))
      show f_X7_load (nI sh) x μ _
      unfold f_X7_load
      rw [isSheet_Y, e, if_pos rfl, nI_clamp (by omega), x1, if_pos c]
      exact ⟨t0, hh⟩
    · rw [decide_eq_false c]
      refine itf ?_
      rw [isBench_X hx h5]
      cases e2 : benchB x nb with
      | false =>
        rw [if_neg (by decide)]
        refine E_find0' h (fun r σ' hh => ?_)
        show f_X7_load (nI sh) x μ _
        unfold f_X7_load
        rw [isSheet_Y, e, if_pos rfl, nI_clamp (by omega), x1, if_neg c, isBench_Y hy h5, e2, if_neg (by decide)]
        exact ⟨t0, hh⟩
      | true =>
        rw [if_pos rfl]
        obtain ⟨b, hb, rfl⟩ := benchB_ex e2 (by omega)
        obtain ⟨k, n, hk, n1', n8, ek, en, fk, fn, z, zz⟩ := hr.ks hb
        obtain ⟨N, hN⟩ : ∃ N, N = if n < L then n else L := ⟨_, rfl⟩
        have eN : (if nI n < nI L then nI n else nI L) = nI N := by
          by_cases cc : n < L
          · rw [if_pos (nI_lt cc (by omega)), hN, if_pos cc]
          · rw [if_neg (nI_nlt (by omega) (by omega)), hN, if_neg cc]
        obtain ⟨r, σ', μ', k1, k2, k3⟩ := load_both (b := b) hsh n8 n1 hN N 0 σ μ nb (by omega) h hr hb en n3
        rw [nI_clamp (by omega), fn, n2, eN]
        refine ⟨t0, vp_in_nI (by omega) (by omega), by omega, N + 1, k1 _ ?_⟩
        show f_X7_load (nI sh) (nI b) μ _
        unfold f_X7_load
        rw [isSheet_Y, e, if_pos rfl, nI_clamp (by omega), x1, if_neg c, isBench_Y hy h5, e2, if_pos rfl]
        exact ⟨t0, N + 1, k2 _ ⟨rfl, k3⟩⟩
/-- the first of the numbers that seats nobody -/
def nsF (f : Nat → Int32) : Nat → Nat → Int32 → Option Nat
  | 0, _, _ => none
  | d + 1, s, a => if f s = 8 then nsF f d (s + 1) a else if inZ (f s) 0 7 = true then (if bt a (f s).toNatClampNeg = true then some s else nsF f d (s + 1) (a ||| ((1 : Int32) <<< (f s &&& 31)))) else some s
theorem nsF_ok {f : Nat → Int32} : ∀ d s a, nsF f d s a = none → ∀ j, s ≤ j → j < s + d → f j = 8 ∨ inZ (f j) 0 7 = true := by
  intro d
  induction d with
  | zero => intro s a _ j h1 h2; omega
  | succ d ih =>
    intro s a h j h1 h2
    unfold nsF at h
    by_cases c : f s = 8
    · rw [if_pos c] at h
      by_cases e : j = s
      · subst e; exact Or.inl c
      · exact ih _ _ h j (by omega) (by omega)
    · rw [if_neg c] at h
      by_cases c2 : inZ (f s) 0 7 = true
      · rw [if_pos c2] at h
        by_cases c3 : bt a (f s).toNatClampNeg = true
        · rw [if_pos c3] at h; exact absurd h (by simp)
        · rw [if_neg c3] at h
          by_cases e : j = s
          · subst e; exact Or.inr c2
          · exact ih _ _ h j (by omega) (by omega)
      · rw [if_neg c2] at h; exact absurd h (by simp)
def nsV : Option Nat → Int32
  | none => -1
  | some s => nI s
theorem ns_X {sh L : Nat} {σ : Mm} {K : Int32 → Mm → Prop} (hsh : sh < 4) (hL : L ≤ 40) (eL : σ 13 sh 1 = nI L) (h : K (nsV (nsF (σ 14 sh) L 0 0)) σ) : f_X4_firstNoSeater sh σ K := by
  have main : ∀ (d s : Nat) (a : Int32), s + d = L → K (nsV (nsF (σ 14 sh) d s a)) σ → f_X4_firstNoSeater_4 sh K (d + 1) a (nI s) σ := by
    intro d
    induction d with
    | zero =>
      intro s a hs hK
      rw [f_X4_firstNoSeater_4, eL, if_pos (nI_le (by omega) (by omega))]; exact hK
    | succ d ih =>
      intro s a hs hK
      unfold nsF at hK
      rw [f_X4_firstNoSeater_4, eL, if_neg (nI_ge (by omega) (by omega)), nI_clamp (by omega), nI_1]
      refine ⟨vp_in_nI (by omega) (by omega), ?_⟩
      by_cases c : σ 14 sh s = 8
      · rw [if_pos c] at hK ⊢
        exact ih (s + 1) a (by omega) hK
      · rw [if_neg c] at hK ⊢
        rw [isPerson_X]
        cases e : inZ (σ 14 sh s) 0 7 with
        | false =>
          rw [e, if_neg (by decide)] at hK
          exact itf hK
        | true =>
          rw [e, if_pos rfl] at hK
          refine itt ?_
          obtain ⟨p, -, hp, ep⟩ := inZ_ex (lo := 0) (hi := 7) e (by omega)
          rw [ep] at hK ⊢
          rw [nI_clamp (by omega)] at hK
          refine has_X (by omega) ?_
          cases eb : bt a p with
          | true => rw [eb, if_pos rfl] at hK; exact itt hK
          | false =>
            rw [eb, if_neg (show ¬ (false = true) by decide)] at hK
            exact itf (ih (s + 1) _ (by omega) hK)
  exact ⟨hsh, L + 1, main L 0 0 (by omega) h⟩
theorem ns_Y {sh L : Nat} {f : Nat → Int32} {a2 : Int32} {μ : Mm} {K : Int32 → Mm → Prop} {k134 : Mm → Prop} (hsh : sh < 4) (hL : L ≤ 40) (eL : μ 11 0 sh = nI L) (ef : ∀ k, k < 40 → μ 12 0 (40 * sh + k) = f k) (h : match nsF f L 0 0 with
    | none => k134 μ
    | some s => K ((1 : Int32) + nI s) μ) : ∃ m, f_X7_judge_51 (nI sh) a2 K k134 m (0 : Int32) (0 : Int32) μ := by
  have t0 : vp_in (nI sh) 4 := vp_in_nI hsh (by omega)
  have main : ∀ (d s : Nat) (a : Int32), s + d = L → (match nsF f d s a with
    | none => k134 μ
    | some s => K ((1 : Int32) + nI s) μ) → f_X7_judge_51 (nI sh) a2 K k134 (d + 1) a (nI s) μ := by
    intro d
    induction d with
    | zero =>
      intro s a hs hK
      rw [f_X7_judge_51, nI_clamp (by omega), eL, if_pos (nI_le (by omega) (by omega))]; exact ⟨t0, hK⟩
    | succ d ih =>
      intro s a hs hK
      unfold nsF at hK
      rw [f_X7_judge_51, nI_clamp (by omega), eL, if_neg (nI_ge (by omega) (by omega)), num_ix hsh (by omega), nI_clamp (by omega), ef s (by omega)]
      refine ⟨t0, vp_in_nI (by omega) (by omega), ?_⟩
      rw [in_inZ]
      by_cases c : f s = 8
      · rw [if_pos c] at hK
        rw [c, show inZ 8 (0 : Int64).toInt (8 : Int64).toInt = true by decide, if_pos rfl, if_pos (by decide)]
        unfold f_X7_judge_110
        rw [if_pos (by decide), i32_0or, nI_1]
        exact ih (s + 1) a (by omega) hK
      · rw [if_neg c] at hK
        cases e : inZ (f s) 0 7 with
        | false =>
          rw [e, if_neg (show ¬ (false = true) by decide)] at hK
          rw [show inZ (f s) (0 : Int64).toInt (8 : Int64).toInt = false from in8 e c, if_neg (by decide)]
          exact hK
        | true =>
          rw [e, if_pos rfl] at hK
          obtain ⟨p, -, hp, ep⟩ := inZ_ex (lo := 0) (hi := 7) e (by omega)
          rw [ep] at hK ⊢
          rw [nI_clamp (by omega)] at hK
          rw [show inZ (nI p) (0 : Int64).toInt (8 : Int64).toInt = true from inZ_nI (lo := 0) (hi := 8) (by omega) (by omega) (by omega), if_pos rfl, if_neg (show ¬ (8 : Int32) ≤ nI p from nI_ge (a := p) (b := 8) (by omega) (by omega))]
          refine has_Y (by omega) ?_
          cases eb : bt a p with
          | true => rw [eb, if_pos rfl] at hK; exact itt hK
          | false =>
            rw [eb, if_neg (show ¬ (false = true) by decide)] at hK
            refine itf ?_
            unfold f_X7_judge_110
            rw [if_neg (show ¬ (8 : Int32) ≤ nI p from nI_ge (a := p) (b := 8) (by omega) (by omega)), nI_1]
            exact ih (s + 1) _ (by omega) hK
  exact ⟨L + 1, main L 0 0 (by omega) h⟩
def jrF (f : Nat → Int32) (j : Nat) : Int32 := if f j = 8 then -1 else f j
