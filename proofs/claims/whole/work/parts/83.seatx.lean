/-! PURE: seatings, often, needs -/
theorem cnF_filter (p j : Nat) : ∀ G : List (Nat → Int32), cnF p j G = (G.filter (fun u => decide (u j = nI p))).length := by
  intro G
  induction G with
  | nil => rfl
  | cons g G ih =>
    show (if g j = nI p then 1 else 0) + cnF p j G = _
    rw [ih]
    by_cases c : g j = nI p
    · rw [if_pos c, List.filter_cons_of_pos (p := fun (u : Nat → Int32) => decide (u j = nI p)) (decide_eq_true c), List.length_cons]; omega
    · rw [if_neg c, List.filter_cons_of_neg (p := fun (u : Nat → Int32) => decide (u j = nI p)) (a := g) (by rw [decide_eq_false c]; decide)]; omega
theorem E_seatings (a x : Int32) {σ μ : Mm} (h : Rel σ μ) : f_X6_seatings a x σ (fun r σ' => f_X7_seatings a x μ (fun r' μ' => r' = r ∧ Rel σ' μ')) := by
  obtain ⟨nb, h5, hx, hy, hr⟩ := h.nbx
  have bad : (benchB a nb = false ∨ inZ x 0 255 = false) → f_X6_finding (0 : Int32) σ (fun r σ' => f_X7_seatings a x μ (fun r' μ' => r' = r ∧ Rel σ' μ')) := by
    intro hc
    refine E_find0' h (fun r σ' hh => ?_)
    show f_X7_seatings a x μ _
    unfold f_X7_seatings
    refine wrongSet_bad hy h5 (by rcases hc with hc | hc; exact Or.inl hc; exact Or.inr (Or.inl hc)) ?_
    rw [if_neg (by decide)]
    exact hh
  unfold f_X6_seatings
  rw [isBench_X hx h5]
  cases e2 : benchB a nb with
  | false => exact itf (bad (Or.inl e2))
  | true =>
    refine itt ?_
    rw [isSet_X]
    cases ex : inZ x 0 255 with
    | false => exact itf (bad (Or.inr ex))
    | true =>
      refine itt ?_
      obtain ⟨b, hb, rfl⟩ := benchB_ex e2 (by omega)
      obtain ⟨X, -, hX, rfl⟩ := inZ_ex (lo := 0) (hi := 255) ex (by omega)
      obtain ⟨k, n, hk, n1, n8, ek, en, fk, fn, z, zz⟩ := hr.ks hb
      refine fitsOn_X (n := n) (by omega) fn n8 (by omega) ?_
      by_cases c : coF (fun j => bt (nI X) j) 8 ≤ n ∧ coF (fun j => bt (nI X) j) 8 ≤ 6
      · rw [decide_eq_true c]
        refine itt ⟨vp_in_nI (by omega) (by omega), ?_⟩
        rw [nI_clamp (by omega)]
        refine ⟨by omega, count_X (E := 1000000) (P := none) (k := k) (n := n) (by omega) hk fk fn n1 n8 (by omega) (by omega) (by omega) hr.pp h.2.2.2.2.2.1 (fun q e => nomatch e) h.2.2.2.2.2.2 (fun σ' C _ => ?_)⟩
        show f_X7_seatings (nI b) (nI X) μ _
        unfold f_X7_seatings
        refine wrongSet_ok (n := n) hy h5 hb e2 ex (by decide) en n8 ?_
        rw [if_pos c, if_pos (by decide)]
        refine looksAt_Y (by omega) ek en n8 (fun μ1 L => ?_)
        refine seatingsN_Y (m := μ 1 0) hk n1 n8 hr.2.pp ⟨L.m, L.1, L.2.1⟩ (fun μ2 g1 g2 g3 => ⟨?_, h.scr C.scr (L.yu.tr (YU.of g1)).scr⟩)
        rw [GC_GN hr n1, if_pos (by have := GN_len (m := μ 1 0) (k := k) (U := nI X) n8; omega)]
      · rw [decide_eq_false c]
        refine itf (E_find' 6 (by decide) (-1000007) rfl (by decide) h (fun r σ' hh => ?_))
        show f_X7_seatings (nI b) (nI X) μ _
        unfold f_X7_seatings
        refine wrongSet_ok (n := n) hy h5 hb e2 ex (by decide) en n8 ?_
        rw [if_neg c, if_neg (by decide)]
        exact hh
theorem pp_pin {σ : Mm} {x y : Int32} (hpp : PP (σ 3 0) (σ 2 0 2) (σ 4 0) (σ 2 0 3)) : PP (mset (mset σ 8 0 7 x) 8 0 8 y 3 0) (mset (mset σ 8 0 7 x) 8 0 8 y 2 0 2) (mset (mset σ 8 0 7 x) 8 0 8 y 4 0) (mset (mset σ 8 0 7 x) 8 0 8 y 2 0 3) := by
  rw [mset_ne (by omega), mset_ne (by omega), mset_ne (by omega), mset_ne (by omega), mset_ne (by omega), mset_ne (by omega)]
  exact hpp
theorem E_often (a x y s : Int32) {σ μ : Mm} (h : Rel σ μ) : f_X6_often a x y s σ (fun r σ' => f_X7_often a x y s μ (fun r' μ' => r' = r ∧ Rel σ' μ')) := by
  obtain ⟨nb, h5, hx, hy, hr⟩ := h.nbx
  have hsz : ∀ b, b < nb → ∃ n, n ≤ 8 ∧ μ 1 0 (77 + 10 * b) = nI n := fun b hb => by
    obtain ⟨k, n, -, -, n8, -, e, -⟩ := hr.ks hb
    exact ⟨n, n8, e⟩
  have cg : seatB a s nb (fun b => σ 0 (5 * 0 + b) 1) = seatB a s nb (fun b => μ 1 0 (77 + 10 * b)) := seatB_congr (by omega) (fun b hb => ((hr.1.2.2.2.1 b hb).2.1).symm)
  have y33 : ∀ (c : Int32) (K : Int32 → Mm → Prop), (inZ x 0 255 = false ∨ c = 0) → f_X7_finds (-1000001 : Int32) μ K → f_X7_often_33 a x y s c x a K μ := by
    intro c K hc hh
    unfold f_X7_often_33
    refine wrongSet_bad hy h5 (Or.inr hc) ?_
    rw [if_neg (by decide)]
    exact hh
  have bad : (seatB a s nb (fun b => μ 1 0 (77 + 10 * b)) = false ∨ inZ x 0 255 = false ∨ inZ y 0 7 = false ∨ ∃ p, p < 8 ∧ y = nI p ∧ bt x p = false) → f_X6_finding (0 : Int32) σ (fun r σ' => f_X7_often a x y s μ (fun r' μ' => r' = r ∧ Rel σ' μ')) := by
    intro hc
    refine E_find0' h (fun r σ' hh => ?_)
    show f_X7_often a x y s μ _
    unfold f_X7_often
    refine isSeat_Y hy h5 hsz ?_
    cases e : seatB a s nb (fun b => μ 1 0 (77 + 10 * b)) with
    | false => exact itf (y33 0 _ (Or.inr rfl) hh)
    | true =>
      refine itt ?_
      rw [isPerson_Y]
      cases ey : inZ y 0 7 with
      | false => exact itf (y33 0 _ (Or.inr rfl) hh)
      | true =>
        refine itt ?_
        obtain ⟨p, -, hp, rfl⟩ := inZ_ex (lo := 0) (hi := 7) ey (by omega)
        refine has_Y (by omega) ?_
        cases eb : bt x p with
        | false => exact itf (y33 0 _ (Or.inr rfl) hh)
        | true =>
          refine itt (y33 1 _ ?_ hh)
          rcases hc with hc | hc | hc | ⟨q, hq, e1, e2⟩
          · rw [e] at hc; exact Bool.noConfusion hc
          · exact Or.inl hc
          · rw [ey] at hc; exact Bool.noConfusion hc
          · have : p = q := (nI_eq (by omega) (by omega)).mp e1
            subst this
            rw [eb] at e2; exact Bool.noConfusion e2
  unfold f_X6_often
  refine isSeat_X hx h5 ?_
  rw [cg]
  cases e : seatB a s nb (fun b => μ 1 0 (77 + 10 * b)) with
  | false => exact itf (bad (Or.inl e))
  | true =>
    refine itt ?_
    rw [isSet_X]
    cases ex : inZ x 0 255 with
    | false => exact itf (bad (Or.inr (Or.inl ex)))
    | true =>
      refine itt ?_
      rw [isPerson_X]
      cases ey : inZ y 0 7 with
      | false => exact itf (bad (Or.inr (Or.inr (Or.inl ey))))
      | true =>
        refine itt ?_
        obtain ⟨p, -, hp, rfl⟩ := inZ_ex (lo := 0) (hi := 7) ey (by omega)
        refine has_X (by omega) ?_
        cases eb : bt x p with
        | false => exact itf (bad (Or.inr (Or.inr (Or.inr ⟨p, by omega, rfl, eb⟩))))
        | true =>
          refine itt ?_
          obtain ⟨b, t, n', hb, n8', ht, en', rfl, rfl⟩ := seatB_ex e (by omega) hsz
          obtain ⟨k, n, hk, n1, n8, ek, en, fk, fn, z, zz⟩ := hr.ks hb
          have : n = n' := (nI_eq (by omega) (by omega)).mp (en.symm.trans en')
          subst this
          have eb2 : benchB (nI b) nb = true := by
            unfold seatB at e
            exact ((Bool.and_eq_true _ _).mp e).1
          obtain ⟨X, -, hX, rfl⟩ := inZ_ex (lo := 0) (hi := 255) ex (by omega)
          have Y : ∀ (K : Int32 → Mm → Prop), f_X7_often_33 (nI b) (nI X) (nI p) (nI t) (1 : Int32) (nI X) (nI b) K μ → f_X7_often (nI b) (nI X) (nI p) (nI t) μ K := by
            intro K hK
            unfold f_X7_often
            refine isSeat_Y hy h5 hsz ?_
            rw [e]
            refine itt ?_
            rw [isPerson_Y, ey]
            refine itt (has_Y (by omega) ?_)
            rw [eb]
            exact itt hK
          refine fitsOn_X (n := n) (by omega) fn n8 (by omega) ?_
          by_cases c : coF (fun j => bt (nI X) j) 8 ≤ n ∧ coF (fun j => bt (nI X) j) 8 ≤ 6
          · rw [decide_eq_true c]
            refine itt ⟨vp_in_nI (by omega) (by omega), ?_⟩
            rw [nI_clamp (by omega)]
            refine ⟨by omega, by omega, _, rfl, _, rfl, ?_⟩
            have o : ∀ t' i, ¬ (t' = 8 ∧ i = 0) → mset (mset σ 8 0 7 (nI p)) 8 0 8 (nI t) t' i = σ t' i := fun t' i c => by rw [mset_ne c, mset_ne c]
            refine count_X (E := 1000000) (P := some (p, t)) (k := k) (n := n) (by omega) hk (by rw [o 0 _ (by omega)]; exact fk) (by rw [o 0 _ (by omega)]; exact fn) n1 n8 (by omega) (by omega) (by omega) (pp_pin hr.pp) ⟨by rw [mset_ap, if_pos ⟨rfl, rfl, rfl⟩], by rw [mset_ap, if_neg (by omega), mset_ap, if_pos ⟨rfl, rfl, rfl⟩], by show p < 8; omega, by show t < 8; omega⟩ (fun q e => by cases e; exact ht) (by rw [o 9 0 (by omega)]; exact h.2.2.2.2.2.2) (fun σ' C _ => ⟨_, rfl, ?_⟩)
            refine Y _ ?_
            unfold f_X7_often_33
            refine wrongSet_ok (n := n) hy h5 hb eb2 ex (by decide) en n8 ?_
            rw [if_pos c, if_pos (by decide)]
            refine looksAt_Y (by omega) ek en n8 (fun μ1 L => ?_)
            refine seatingsN_Y (m := μ 1 0) hk n1 n8 hr.2.pp ⟨L.m, L.1, L.2.1⟩ (fun μ2 g1 g2 g3 => ?_)
            rw [show ((8 : Int32) * nI p) + nI t = nI (8 * p + t) by simp only [i32_lit, pk_mul, nI_add], nI_clamp (by omega), g2 p t (by omega) ht]
            have CS : Scr σ (mset σ' 8 0 8 (-1)) := by
              refine ⟨fun t' i c1 c2 => ?_, fun t' i c1 c2 => ?_, fun t' i c1 => ?_, ?_, ?_⟩
              · rw [mset_ne (by omega), C.1 t' i (by omega) (by omega) (by omega), o t' i (by omega)]
              · rw [mset_ne (by omega), C.1 t' i (by omega) (by omega) (by omega), o t' i (by omega)]
              · rw [mset_ne (by omega), C.1 t' i (by omega) (by omega) (by omega), o t' i (by omega)]
              · rw [mset_ap, if_pos ⟨rfl, rfl, rfl⟩]; exact h.2.2.2.2.2.1.symm
              · rw [mset_ne (by omega), C.2.2, o 9 0 (by omega)]
            refine ⟨vp_in_nI (by omega) (by omega), ?_, h.scr CS (L.yu.tr (YU.of g1)).scr⟩
            rw [o 3 0 (by omega), o 2 0 (by omega), o 4 0 (by omega)]
            have eG : GC (σ 3 0) (σ 2 0 2) (σ 4 0) (σ 2 0 3) k n (some (p, t)) (nI X) = (GN (μ 1 0) k n (nI X)).filter (fun u => decide (u t = nI p)) := by
              rw [← GC_GN hr n1]
              unfold GC
              rw [if_pos c.1, if_pos c.1, List.filter_filter]
              refine List.filter_congr (fun u hu => ?_)
              show (hoB _ _ _ _ u k n && decide (u t = nI p)) = (decide (u t = nI p) && (hoB _ _ _ _ u k n && true))
              rw [Bool.and_true, Bool.and_comm]
            have l1 := GN_len (m := μ 1 0) (k := k) (U := nI X) n8
            have l2 : ((GN (μ 1 0) k n (nI X)).filter (fun u => decide (u t = nI p))).length ≤ (GN (μ 1 0) k n (nI X)).length := List.length_filter_le _ _
            rw [eG, cnF_filter, if_pos (by omega)]
          · rw [decide_eq_false c]
            refine itf (E_find' 6 (by decide) (-1000007) rfl (by decide) h (fun r σ' hh => ?_))
            refine Y _ ?_
            unfold f_X7_often_33
            refine wrongSet_ok (n := n) hy h5 hb eb2 ex (by decide) en n8 ?_
            rw [if_neg c, if_neg (by decide)]
            exact hh
/-- whether there is the i-th one -/
theorem finds_X {k n i e x : Nat} {σ : Mm} {K : Bool → Mm → Prop} (hi : i < 16) (hk : k < 7) (ek : σ 0 i 0 = nI k) (en : σ 0 i 1 = nI n) (h1 : 1 ≤ n) (h8 : n ≤ 8) (he : e < 2 ^ 31) (hx : x < 256) (hpp : PP (σ 3 0) (σ 2 0 2) (σ 4 0) (σ 2 0 3)) (hP : σ 8 0 8 = -1) (h9 : σ 9 0 0 = -1) (hL : (GC (σ 3 0) (σ 2 0 2) (σ 4 0) (σ 2 0 3) k n none (nI x)).length ≤ 40320) (h : ∀ σ', CU σ σ' → (e < (GC (σ 3 0) (σ 2 0 2) (σ 4 0) (σ 2 0 3) k n none (nI x)).length → ∃ u, (GC (σ 3 0) (σ 2 0 2) (σ 4 0) (σ 2 0 3) k n none (nI x))[e]? = some u ∧ ∀ j, j < n → σ' 1 16 j = u j) → K (decide (e < (GC (σ 3 0) (σ 2 0 2) (σ 4 0) (σ 2 0 3) k n none (nI x)).length)) σ') : f_X3_finds (nI e) i (nI x) σ K := by
  unfold f_X3_finds
  refine ⟨by omega, ?_⟩
  by_cases c : 1000000 ≤ e
  · rw [if_pos (show (1000000 : Int32) ≤ nI e from nI_le (a := 1000000) c he)]
    have := h σ CU.rf (fun g => absurd g (by omega))
    rw [decide_eq_false (by omega)] at this
    exact this
  · rw [if_neg (show ¬ (1000000 : Int32) ≤ nI e from nI_ge (b := 1000000) (by omega) (by omega)), nI_1]
    refine count_X (E := e + 1) (P := none) (k := k) (n := n) hi hk ek en h1 h8 (by omega) (by omega) hx hpp hP (fun q e => nomatch e) h9 (fun σ' C g => ?_)
    have := h σ' C (fun g' => g (by omega))
    by_cases d : e < (GC (σ 3 0) (σ 2 0 2) (σ 4 0) (σ 2 0 3) k n none (nI x)).length
    · rw [if_neg (show ¬ _ < e + 1 by omega), if_neg (nI_ge (by omega) (by omega))]
      rw [decide_eq_true d] at this; exact this
    · rw [if_pos (show _ < e + 1 by omega), if_pos (nI_le (by omega) (by omega))]
      rw [decide_eq_false d] at this; exact this
theorem E_needs (a x : Int32) {σ μ : Mm} (h : Rel σ μ) : f_X6_needs a x σ (fun r σ' => f_X7_needs a x μ (fun r' μ' => r' = r ∧ Rel σ' μ')) := by
  obtain ⟨nb, h5, hx, hy, hr⟩ := h.nbx
  unfold f_X6_needs
  rw [isBench_X hx h5]
  cases e2 : benchB a nb with
  | false =>
    refine itf (E_find0' h (fun r σ' hh => ?_))
    show f_X7_needs a x μ _
    unfold f_X7_needs
    rw [isBench_Y hy h5, e2]
    exact itf hh
  | true =>
    refine itt ?_
    rw [isSet_X]
    cases ex : inZ x 0 255 with
    | false =>
      refine itf (E_find0' h (fun r σ' hh => ?_))
      show f_X7_needs a x μ _
      unfold f_X7_needs
      rw [isBench_Y hy h5, e2]
      refine itt ?_
      rw [isSet_Y, ex]
      exact itf hh
    | true =>
      refine itt ?_
      obtain ⟨b, hb, rfl⟩ := benchB_ex e2 (by omega)
      obtain ⟨X, -, hX, rfl⟩ := inZ_ex (lo := 0) (hi := 255) ex (by omega)
      obtain ⟨k, n0, hk, -, -, ek, -, fk, -, -, -⟩ := hr.ks hb
      have l8 := coF_le (fun j => bt (nI X) j) 8
      refine bc_X ?_
      rw [bcV_8 X (by omega)]
      by_cases c6 : coF (fun j => bt (nI X) j) 8 ≤ 6
      · rw [if_pos (show nI _ ≤ (6 : Int32) from nI_le (b := 6) c6 (by omega))]
        -- sizes below q have no row
        have X2 : ∀ (d n : Nat) (σ' : Mm) (K : Int32 → Mm → Prop), n + d = 9 → 1 ≤ n → Scr σ σ' → (∀ (q : Nat) (σ2 : Mm), n ≤ q → q ≤ 8 → Scr σ σ2 → (∀ j, n ≤ j → j < q → (GN (μ 1 0) k j (nI X)).length = 0) → ¬ (GN (μ 1 0) k q (nI X)).length = 0 → K (nI q) σ2) → (∀ (σ2 : Mm), Scr σ σ2 → (∀ j, n ≤ j → j ≤ 8 → (GN (μ 1 0) k j (nI X)).length = 0) → f_X6_finding (3 : Int32) σ2 (fun r10 σ9 => (K r10 σ9))) → f_X6_needs_39 (nI b) (nI X) K (d + 1) (nI n) σ' := by
          intro d
          induction d with
          | zero =>
            intro n σ' K hn n1 hS hq hf
            have : n = 9 := by omega
            subst this
            rw [f_X6_needs_39, if_pos (by decide)]
            exact hf σ' hS (fun j a b => absurd b (by omega))
          | succ d ih =>
            intro n σ' K hn n1 hS hq hf
            rw [f_X6_needs_39, if_neg (show ¬ (8 : Int32) < nI n from nI_nlt (a := 8) (by omega) (by omega)), nI_clamp (by omega), hS.1 0 (5 * 0 + b) (by omega) (by omega), fk]
            refine ⟨vp_in_nI (by omega) (by omega), by omega, clear_X (by omega) (fun σ2 c2 => ?_)⟩
            have S2 : Scr σ σ2 := hS.tr (scr15 c2.2.2.2)
            have q3 : σ2 3 0 = σ 3 0 := S2.2.1 3 0 (by omega) (by omega)
            have q2 : σ2 2 0 = σ 2 0 := S2.2.1 2 0 (by omega) (by omega)
            have q4 : σ2 4 0 = σ 4 0 := S2.2.1 4 0 (by omega) (by omega)
            have eg : GC (σ2 3 0) (σ2 2 0 2) (σ2 4 0) (σ2 2 0 3) k n none (nI X) = GN (μ 1 0) k n (nI X) := by rw [q3, q2, q4]; exact GC_GN hr n1
            refine finds_X (k := k) (n := n) (e := 0) (by omega) hk c2.1 c2.2.1 n1 (by omega) (by omega) (by omega) (by rw [q3, q2, q4]; exact hr.pp) (S2.2.2.2.1.trans h.2.2.2.2.2.1) (S2.2.2.2.2.trans h.2.2.2.2.2.2) (by rw [eg]; exact GN_len (by omega)) (fun σ3 C3 _ => ?_)
            rw [eg]
            have S3 := S2.tr C3.scr
            by_cases c : (GN (μ 1 0) k n (nI X)).length = 0
            · rw [decide_eq_false (by omega)]
              refine itf ?_
              rw [nI_1]
              refine ih (n + 1) σ3 K (by omega) (by omega) S3 (fun q σ4 a1 a2 a3 a4 a5 => hq q σ4 (by omega) a2 a3 (fun j b1 b2 => ?_) a5) (fun σ4 a3 a4 => hf σ4 a3 (fun j b1 b2 => ?_))
              · by_cases g : j = n
                · subst g; exact c
                · exact a4 j (by omega) b2
              · by_cases g : j = n
                · subst g; exact c
                · exact a4 j (by omega) b2
            · rw [decide_eq_true (by omega)]
              exact itt (hq n σ3 (Nat.le_refl n) (by omega) S3 (fun j b1 b2 => absurd b2 (by omega)) c)
        have Y2 : ∀ (d n : Nat) (μ' : Mm) (K : Int32 → Mm → Prop), n + d = 9 → 1 ≤ n → YU μ μ' → μ' 0 0 6 = nI k → μ' 0 0 7 = nI n → (∀ (q : Nat) (μ2 : Mm), n ≤ q → q ≤ 8 → YU μ μ2 → (∀ j, n ≤ j → j < q → (GN (μ 1 0) k j (nI X)).length = 0) → ¬ (GN (μ 1 0) k q (nI X)).length = 0 → K (nI q) μ2) → (∀ (μ2 : Mm), YU μ μ2 → (∀ j, n ≤ j → j ≤ 8 → (GN (μ 1 0) k j (nI X)).length = 0) → f_X7_finds (-1000004 : Int32) μ2 (fun r10 σ9 => (K r10 σ9))) → f_X7_needs_52 (nI X) K (d + 1) μ' := by
          intro d
          induction d with
          | zero =>
            intro n μ' K hn n1 hS e6 e7 hq hf
            have : n = 9 := by omega
            subst this
            rw [f_X7_needs_52, e7, if_pos (by decide)]
            exact hf μ' hS (fun j a b => absurd b (by omega))
          | succ d ih =>
            intro n μ' K hn n1 hS e6 e7 hq hf
            rw [f_X7_needs_52, e7, if_neg (show ¬ (8 : Int32) < nI n from nI_nlt (a := 8) (by omega) (by omega))]
            refine seatingsN_Y (m := μ 1 0) hk n1 (by omega) hr.2.pp ⟨hS.m, e6, e7⟩ (fun μ2 g1 g2 g3 => ?_)
            have l1 := GN_len (m := μ 1 0) (k := k) (U := nI X) (show n ≤ 8 by omega)
            have S3 := hS.tr (YU.of g1)
            have e72 : μ2 0 0 7 = nI n := by rw [g1 0 0 (by omega)]; exact e7
            have e62 : μ2 0 0 6 = nI k := by rw [g1 0 0 (by omega)]; exact e6
            by_cases c : (GN (μ 1 0) k n (nI X)).length = 0
            · rw [if_pos (by rw [c]; decide)]
              refine ⟨_, rfl, ?_⟩
              rw [e72, nI_1]
              refine ih (n + 1) _ K (by omega) (by omega) (S3.tr ⟨fun t i cc => mset_ne (by omega), fun j c1 c2 => by rw [mset_ap, if_neg (by omega)]⟩) (by rw [mset_ap, if_neg (by omega)]; exact e62) (by rw [mset_ap, if_pos ⟨rfl, rfl, rfl⟩]) (fun q σ4 a1 a2 a3 a4 a5 => hq q σ4 (by omega) a2 a3 (fun j b1 b2 => ?_) a5) (fun σ4 a3 a4 => hf σ4 a3 (fun j b1 b2 => ?_))
              · by_cases g : j = n
                · subst g; exact c
                · exact a4 j (by omega) b2
              · by_cases g : j = n
                · subst g; exact c
                · exact a4 j (by omega) b2
            · rw [if_neg (show ¬ nI _ ≤ (0 : Int32) from nI_ge (a := 0) (by omega) (by omega)), e72]
              exact hq n μ2 (Nat.le_refl n) (by omega) S3 (fun j b1 b2 => absurd b2 (by omega)) c
        have Y : ∀ (K : Int32 → Mm → Prop), (∀ (q : Nat) (μ2 : Mm), 1 ≤ q → q ≤ 8 → YU μ μ2 → (∀ j, 1 ≤ j → j < q → (GN (μ 1 0) k j (nI X)).length = 0) → ¬ (GN (μ 1 0) k q (nI X)).length = 0 → K (nI q) μ2) → (∀ (μ2 : Mm), YU μ μ2 → (∀ j, 1 ≤ j → j ≤ 8 → (GN (μ 1 0) k j (nI X)).length = 0) → f_X7_finds (-1000004 : Int32) μ2 (fun r10 σ9 => (K r10 σ9))) → f_X7_needs (nI b) (nI X) μ K := by
          intro K hq hf
          unfold f_X7_needs
          rw [isBench_Y hy h5, e2]
          refine itt ?_
          rw [isSet_Y, ex]
          refine itt (many_Y ?_)
          rw [if_pos (show nI _ ≤ (6 : Int32) from nI_le (b := 6) c6 (by omega))]
          refine kindOf_Y (by omega) ⟨_, rfl, _, rfl, 9, ?_⟩
          rw [ek]
          refine Y2 8 1 _ K rfl (by omega) ⟨fun t i cc => by rw [mset_ne (by omega), mset_ne (by omega)], fun j c1 c2 => by rw [mset_ap, if_neg (by omega), mset_ap, if_neg (by omega)]⟩ (by rw [mset_ap, if_neg (by omega), mset_ap, if_pos ⟨rfl, rfl, rfl⟩]) (by rw [mset_ap, if_pos ⟨rfl, rfl, rfl⟩]; rfl) hq hf
        refine ⟨9, X2 8 1 σ _ rfl (by omega) Scr.rf (fun q σ2 q1 q8 S2 hz hn => ?_) (fun σ2 S2 hz => ?_)⟩
        · refine Y _ (fun q' μ2 q1' q8' U2 hz' hn' => ?_) (fun μ2 U2 hz' => absurd (hz' q q1 q8) hn)
          have : q' = q := by
            rcases Nat.lt_trichotomy q' q with g | g | g
            · exact absurd (hz q' q1' g) hn'
            · exact g
            · exact absurd (hz' q q1 g) hn
          subst this
          exact ⟨rfl, h.scr S2 U2.scr⟩
        · refine find_X (w := 3) (by decide) rfl ?_
          refine Y _ (fun q' μ2 q1' q8' U2 hz' hn' => absurd (hz q' q1' q8') hn') (fun μ2 U2 hz' => ?_)
          exact find_Y (w := 3) (by decide) (by decide) ⟨rfl, (h.scr S2 U2.scr).find (by decide)⟩
      · rw [if_neg (show ¬ nI _ ≤ (6 : Int32) from nI_ge (a := 6) (by omega) (by omega))]
        refine E_find' 6 (by decide) (-1000007) rfl (by decide) h (fun r σ' hh => ?_)
        show f_X7_needs (nI b) (nI X) μ _
        unfold f_X7_needs
        rw [isBench_Y hy h5, e2]
        refine itt ?_
        rw [isSet_Y, ex]
        refine itt (many_Y ?_)
        rw [if_neg (show ¬ nI _ ≤ (6 : Int32) from nI_ge (a := 6) (by omega) (by omega))]
        exact hh
