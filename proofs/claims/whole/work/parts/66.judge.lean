/-! PURE: judge -/
theorem jrF_pv {f : Nat → Int32} {n : Nat} (h : ∀ j, j < n → f j = 8 ∨ inZ (f j) 0 7 = true) : pvs (jrF f) n := by
  intro j hj
  unfold jrF
  by_cases c : f j = 8
  · rw [if_pos c]; exact Or.inl rfl
  · rw [if_neg c]
    obtain ⟨p, -, hp, ep⟩ := inZ_ex (lo := 0) (hi := 7) ((h j hj).resolve_left c) (by omega)
    rw [ep]; exact pv_nI (by omega)
theorem jr_X {sh i n : Nat} {σ : Mm} {K : Int32 → Mm → Prop} {k167 : Mm → Prop} (hsh : sh < 4) (hi : i ≠ 15) (en : σ 0 i 1 = nI n) (h8 : n ≤ 8) (h : ∀ σ', (∀ t x, ¬ (t = 1 ∧ x = 15) → σ' t x = σ t x) → (∀ j, j < n → σ' 1 15 j = jrF (σ 14 sh) j) → k167 σ') : ∃ m, f_X6_judge_114 (nI sh) i K k167 m (0 : Int32) σ := by
  have t0 : vp_in (nI sh) 4 := vp_in_nI hsh (by omega)
  have main : ∀ (d s : Nat) (σ' : Mm), s + d = n → (∀ t x, ¬ (t = 1 ∧ x = 15) → σ' t x = σ t x) → (∀ j, j < s → σ' 1 15 j = jrF (σ 14 sh) j) → f_X6_judge_114 (nI sh) i K k167 (d + 1) (nI s) σ' := by
    intro d
    induction d with
    | zero =>
      intro s σ' hs g1 g2
      have : s = n := by omega
      subst this
      rw [f_X6_judge_114, g1 0 i (by omega), en, if_pos (nI_le (by omega) (by omega))]
      exact h σ' g1 g2
    | succ d ih =>
      intro s σ' hs g1 g2
      have t8 : vp_in (nI s) 8 := vp_in_nI (by omega) (by omega)
      rw [f_X6_judge_114, g1 0 i (by omega), en, if_neg (nI_ge (by omega) (by omega)), nI_clamp (n := sh) (by omega), nI_clamp (n := s) (by omega), g1 14 sh (by omega), nI_1]
      refine ⟨t0, hsh, vp_in_nI (by omega) (by omega), ?_⟩
      have nx : ∀ v, jrF (σ 14 sh) s = v → f_X6_judge_114 (nI sh) i K k167 (d + 1) (nI (s + 1)) (mset σ' 1 15 s v) := by
        intro v hv
        refine ih (s + 1) _ (by omega) (fun t x c => by rw [mset_ne (by omega)]; exact g1 t x c) (fun j hj => ?_)
        rw [mset_ap]
        by_cases c : j = s
        · subst c; rw [if_pos ⟨rfl, rfl, rfl⟩]; exact hv.symm
        · rw [if_neg (by omega)]; exact g2 j (by omega)
      by_cases c : σ 14 sh s = 8
      · rw [if_pos c]
        exact ⟨t8, _, rfl, nx (-1) (by unfold jrF; rw [if_pos c])⟩
      · rw [if_neg c]
        exact ⟨t8, _, rfl, nx _ (by unfold jrF; rw [if_neg c])⟩
  exact ⟨n + 1, main n 0 σ (by omega) (fun _ _ _ => rfl) (fun j hj => by omega)⟩
theorem jr_Y {sh n : Nat} {f : Nat → Int32} {μ : Mm} {K : Int32 → Mm → Prop} (hsh : sh < 4) (en : μ 0 0 7 = nI n) (h8 : n ≤ 8) (ef : ∀ k, k < 40 → μ 12 0 (40 * sh + k) = f k) (h : ∀ μ', (∀ t x, ¬ (t = 5 ∧ x = 0) → μ' t x = μ t x) → (∀ j, j < n → μ' 5 0 j = jrF f j) → f_X7_holdsNow μ' (fun b18 σ17 => (if b18 = true then (K (0 : Int32) σ17) else (K (42 : Int32) σ17)))) : ∃ m, f_X7_judge_159 (nI sh) K m (0 : Int32) μ := by
  have main : ∀ (d s : Nat) (μ' : Mm), s + d = n → (∀ t x, ¬ (t = 5 ∧ x = 0) → μ' t x = μ t x) → (∀ j, j < s → μ' 5 0 j = jrF f j) → f_X7_judge_159 (nI sh) K (d + 1) (nI s) μ' := by
    intro d
    induction d with
    | zero =>
      intro s μ' hs g1 g2
      have : s = n := by omega
      subst this
      rw [f_X7_judge_159, g1 0 0 (by omega), en, if_pos (nI_le (by omega) (by omega))]
      exact h μ' g1 g2
    | succ d ih =>
      intro s μ' hs g1 g2
      have t8 : vp_in (nI s) 8 := vp_in_nI (by omega) (by omega)
      have t160 : vp_in (nI (40 * sh + s)) 160 := vp_in_nI (by omega) (by omega)
      rw [f_X7_judge_159, g1 0 0 (by omega), en, if_neg (nI_ge (by omega) (by omega)), num_ix hsh (by omega), nI_clamp (n := 40 * sh + s) (by omega), nI_clamp (n := s) (by omega), g1 12 0 (by omega), ef s (by omega), nI_1]
      refine ⟨t160, ?_⟩
      have nx : ∀ v, jrF f s = v → f_X7_judge_159 (nI sh) K (d + 1) (nI (s + 1)) (mset μ' 5 0 s v) := by
        intro v hv
        refine ih (s + 1) _ (by omega) (fun t x c => by rw [mset_ne (by omega)]; exact g1 t x c) (fun j hj => ?_)
        rw [mset_ap]
        by_cases c : j = s
        · subst c; rw [if_pos ⟨rfl, rfl, rfl⟩]; exact hv.symm
        · rw [if_neg (by omega)]; exact g2 j (by omega)
      by_cases c : f s = 8
      · rw [if_pos c]
        exact ⟨t8, _, rfl, nx (-1) (by unfold jrF; rw [if_pos c])⟩
      · rw [if_neg c]
        exact ⟨t160, t8, _, rfl, nx _ (by unfold jrF; rw [if_neg c])⟩
  exact ⟨n + 1, main n 0 μ (by omega) (fun _ _ _ => rfl) (fun j hj => by omega)⟩
theorem E_judge (a x : Int32) {σ μ : Mm} (h : Rel σ μ) : f_X6_judge a x σ (fun r σ' => f_X7_judge a x μ (fun r' μ' => r' = r ∧ Rel σ' μ')) := by
  obtain ⟨nb, h5, hx, hy, hr⟩ := h.nbx
  unfold f_X6_judge
  rw [isSheet_X]
  cases e : inZ a 0 3 with
  | false =>
    rw [if_neg (by decide)]
    refine E_find0' h (fun r σ' hh => ?_)
    show f_X7_judge a x μ _
    unfold f_X7_judge
    rw [isSheet_Y, e, if_neg (by decide)]
    exact hh
  | true =>
    rw [if_pos rfl]
    obtain ⟨sh, -, hs, rfl⟩ := inZ_ex (lo := 0) (hi := 3) e (by omega)
    have hsh : sh < 4 := by omega
    obtain ⟨⟨x1, x2⟩, ⟨L, n1, n2, n3⟩, x3⟩ := h.2.2.2.2.1 sh hsh
    have t0 : vp_in (nI sh) 4 := vp_in_nI hsh (by omega)
    rw [nI_clamp (by omega), missing_X hsh]
    refine ⟨t0, hsh, ?_⟩
    by_cases c : σ 13 sh 0 = 0
    · rw [decide_eq_true c]
      refine itt (E_find' 5 (by decide) (-1000006 : Int32) rfl (by decide) h (fun r σ' hh => ?_))
      show f_X7_judge (nI sh) x μ _
      unfold f_X7_judge
      rw [isSheet_Y, e, if_pos rfl, nI_clamp (by omega), x1, if_pos c]
      exact ⟨t0, hh⟩
    · rw [decide_eq_false c]
      refine itf ?_
      rw [isBench_X hx h5]
      cases e2 : benchB x nb with
      | false =>
        rw [if_neg (by decide)]
        refine E_find0' h (fun r σ' hh => ?_)
        show f_X7_judge (nI sh) x μ _
        unfold f_X7_judge
        rw [isSheet_Y, e, if_pos rfl, nI_clamp (by omega), x1, if_neg c, isBench_Y hy h5, e2, if_neg (by decide)]
        exact ⟨t0, hh⟩
      | true =>
        rw [if_pos rfl]
        obtain ⟨b, hb, rfl⟩ := benchB_ex e2 (by omega)
        obtain ⟨k, n, hk, n1', n8, ek, en, fk, fn, z, zz⟩ := hr.ks hb
        have tb : vp_in (nI b) 5 := vp_in_nI (by omega) (by omega)
        have Y : ∀ {G : Int32 → Mm → Prop}, (match nsF (σ 14 sh) L 0 0 with
            | none => (if nI L = nI n then (f_X7_looksAt (nI b) μ (fun σ16 => (∃ m, f_X7_judge_159 (nI sh) G m (0 : Int32) σ16))) else (G (41 : Int32) μ))
            | some s => G ((1 : Int32) + nI s) μ) → f_X7_judge (nI sh) (nI b) μ G := by
          intro G hG
          unfold f_X7_judge
          rw [isSheet_Y, e, if_pos rfl, nI_clamp (by omega), x1, if_neg c, isBench_Y hy h5, e2, if_pos rfl]
          refine ⟨t0, ns_Y hsh n1 n3 x3 ?_⟩
          cases en' : nsF (σ 14 sh) L 0 0 with
          | some s => rw [en'] at hG; exact hG
          | none =>
            rw [en'] at hG
            refine ⟨t0, seatsOf_Y (by omega) ?_⟩
            rw [n3, en]; exact hG
        refine ⟨t0, ns_X hsh n1 n2 ?_⟩
        cases en' : nsF (σ 14 sh) L 0 0 with
        | some s =>
          have bd : ∀ (f : Nat → Int32) (d a : Nat) (x : Int32) (s : Nat), nsF f d a x = some s → s < a + d := by
            intro f d
            induction d with
            | zero => intro a x s hh; simp [nsF] at hh
            | succ d ih =>
              intro a x s hh
              unfold nsF at hh
              split at hh
              · have := ih _ _ _ hh; omega
              · split at hh
                · split at hh
                  · have := Option.some.inj hh; omega
                  · have := ih _ _ _ hh; omega
                · have := Option.some.inj hh; omega
          have hs' := bd _ _ _ _ _ en'
          rw [if_neg (show ¬ nsV (some s) < 0 from nI_pos (by omega))]
          refine Y ?_
          rw [en']
          exact ⟨rfl, h⟩
        | none =>
          rw [if_pos (show nsV none < 0 by decide), nI_clamp (by omega), n2, fk, fn]
          refine ⟨tb, by omega, t0, ?_⟩
          by_cases cl : nI L = nI n
          · rw [if_pos cl]
            have hLn : L = n := (nI_eq (by omega) (by omega)).mp cl
            subst hLn
            have hpv : pvs (jrF (σ 14 sh)) L := jrF_pv (fun j hj => nsF_ok L 0 0 en' j (by omega) (by omega))
            refine clear_X (by omega) (fun σ1 hc => ?_)
            obtain ⟨c0, c1, c2, c3⟩ := hc
            refine jr_X (n := L) hsh (by omega) (by rw [c3 0 _ (by omega)]; exact fn) n8 (fun σ2 g1 g2 => ?_)
            have o : O15 σ σ2 := fun t x cc => by rw [g1 t x (by omega), c3 t x cc]
            rw [c3 14 sh (by omega)] at g2
            have hv2 : pvs (σ2 1 15) L := fun j hj => by rw [g2 j hj]; exact hpv j hj
            refine holds_X (k := k) (n := L) (by omega) (by omega) hk (by rw [g1 0 15 (by omega)]; exact c0) (by rw [g1 0 15 (by omega)]; exact c1) n1' n8 hv2 (by rw [o 3 0 (by omega), o 2 0 (by omega), o 4 0 (by omega)]; exact hr.pp) ?_
            rw [o 3 0 (by omega), o 2 0 (by omega), o 4 0 (by omega), hoB_congr n1' (fun _ _ => rfl) (fun _ _ => rfl) hv2 g2]
            have W : ∀ {G : Int32 → Mm → Prop}, (∀ μ', ScrY μ μ' → if hoB (σ 3 0) (σ 2 0 2) (σ 4 0) (σ 2 0 3) (jrF (σ 14 sh)) k L = true then G (0 : Int32) μ' else G (42 : Int32) μ') → f_X7_judge (nI sh) (nI b) μ G := by
              intro G hG
              refine Y ?_
              rw [en']
              dsimp only
              rw [if_pos rfl]
              refine looksAt_Y (by omega) ek en n8 (fun μ1 hl => ?_)
              refine jr_Y (n := L) (f := σ 14 sh) hsh hl.2.1 n8 (fun j hj => by rw [hl.2.2.2.1 12 0 (by omega)]; exact x3 j hj) (fun μ2 k1 k2 => ?_)
              have sm : μ2 1 0 = μ 1 0 := (k1 1 0 (by omega)).trans hl.m
              refine holdsNow_Y (k := k) (n := L) hk (by rw [k1 0 0 (by omega)]; exact hl.1) (by rw [k1 0 0 (by omega)]; exact hl.2.1) n1' n8 (fun j hj => by rw [k2 j hj]; exact hpv j hj) (by rw [sm]; exact hr.2.pp) ?_
              rw [sm, ← ho_eq hr n1' hpv (fun j hj => (k2 j hj).symm)]
              exact hG μ2 (hl.scr.tr ⟨fun t ht => k1 t 0 (by omega), by rw [k1 0 0 (by omega)], by rw [k1 0 0 (by omega)]⟩)
            cases eH : hoB (σ 3 0) (σ 2 0 2) (σ 4 0) (σ 2 0 3) (jrF (σ 14 sh)) k L with
            | true =>
              refine itt (W (fun μ' hs' => ?_))
              rw [eH]
              exact itt ⟨rfl, h.scr (scr15 o) hs'⟩
            | false =>
              refine itf (W (fun μ' hs' => ?_))
              rw [eH]
              exact itf ⟨rfl, h.scr (scr15 o) hs'⟩
          · rw [if_neg cl]
            refine Y ?_
            rw [en']
            dsimp only
            rw [if_neg cl]
            exact ⟨rfl, h⟩
