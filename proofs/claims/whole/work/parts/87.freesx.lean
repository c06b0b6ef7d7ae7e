/-! PURE: frees, its loops -/
theorem frB_ok {D : Nat → Nat → Bool} {Q : Nat → Nat → Nat} (hQ : ∀ p q, Q p q ≤ 40320) {p : Nat} (hp : p < 8) : ∀ d q o, q + d = 8 → fbok o → fbok (frB D Q p d q o) := by
  intro d
  induction d with
  | zero => intro q o _ h; exact h
  | succ d ih =>
    intro q o hq h
    refine ih (q + 1) _ (by omega) ?_
    by_cases c : D p q = true
    · rw [if_pos c]
      cases o with
      | none =>
        intro z e
        cases e
        exact ⟨by show 10 * p + q < 100; omega, hQ p q⟩
      | some y =>
        show fbok (if y.2 < Q p q then some (10 * p + q, Q p q) else some (y.1, y.2))
        by_cases g : y.2 < Q p q
        · rw [if_pos g]
          intro z e
          cases e
          exact ⟨by show 10 * p + q < 100; omega, hQ p q⟩
        · rw [if_neg g]; exact h
    · rw [if_neg c]; exact h
theorem frN_same {B B' : Nat → Int32} {ov ov' : Int32} {p q : Nat} (e : B (8 * p + q) = B' (8 * p + q)) (e' : ov = ov') : frN B ov p q = frN B' ov' p q := by unfold frN; rw [e, e']
theorem ten_pq (p q : Nat) : ((10 : Int32) * nI p) + nI q = nI (10 * p + q) := by simp only [i32_lit, pk_mul, nI_add]
theorem E_frees (a x : Int32) {σ μ : Mm} (h : Rel σ μ) : f_X6_frees a x σ (fun r σ' => f_X7_frees a x μ (fun r' μ' => r' = r ∧ Rel σ' μ')) := by
  obtain ⟨nb, h5, hx, hy, hr⟩ := h.nbx
  have bad : (benchB a nb = false ∨ inZ x 0 255 = false) → f_X6_finding (0 : Int32) σ (fun r σ' => f_X7_frees a x μ (fun r' μ' => r' = r ∧ Rel σ' μ')) := by
    intro hc
    refine E_find0' h (fun r σ' hh => ?_)
    show f_X7_frees a x μ _
    unfold f_X7_frees
    refine wrongSet_bad hy h5 (by rcases hc with hc | hc; exact Or.inl hc; exact Or.inr (Or.inl hc)) ?_
    rw [if_neg (by decide)]
    exact hh
  unfold f_X6_frees
  rw [isBench_X hx h5]
  cases e2 : benchB a nb with
  | false => exact itf (bad (Or.inl e2))
  | true =>
    refine itt ?_
    rw [isSet_X]
    cases ex : inZ x 0 255 with
    | false => exact itf (bad (Or.inr ex))
    | true =>
      refine itt ?_
      obtain ⟨b, hb, rfl⟩ := benchB_ex e2 (by omega)
      obtain ⟨X, -, hX, rfl⟩ := inZ_ex (lo := 0) (hi := 255) ex (by omega)
      obtain ⟨k, n, hk, n1, n8, ek, en, fk, fn, z, zz⟩ := hr.ks hb
      refine fitsOn_X (n := n) (by omega) fn n8 (by omega) ?_
      by_cases c : coF (fun j => bt (nI X) j) 8 ≤ n ∧ coF (fun j => bt (nI X) j) 8 ≤ 6
      · rw [decide_eq_true c]
        refine itt ?_
        obtain ⟨D, eD⟩ : ∃ D : Nat → Nat → Bool, D = fun p q => bt (nI X) p && (bt (nI X) q && frN (σ 3 0) (σ 2 0 2) p q) := ⟨_, rfl⟩
        obtain ⟨Q, eQ⟩ : ∃ Q : Nat → Nat → Nat, Q = fun p q => quN (μ 1 0) k n (nI X) p q := ⟨_, rfl⟩
        have hQ : ∀ p q, Q p q ≤ 40320 := fun p q => by rw [eQ]; exact GN_len n8
        -- the class, one person's partners
        have X58 : ∀ (p : Nat) (K : Int32 → Mm → Prop) (k138 : Int32 → Int32 → Mm → Prop), p < 8 → ∀ (d q : Nat) (o : Option (Nat × Nat)) (σ' : Mm), q + d = 8 → p < q → fbok o → Scr σ σ' → (∀ σ2, Scr σ σ2 → k138 (fb1 (frB D Q p d q o)) (fb2 (frB D Q p d q o)) σ2) → f_X6_frees_58 (nI b) (nI X) (nI p) K k138 (d + 1) (fb1 o) (fb2 o) (nI q) σ' := by
          intro p K k138 hp d
          induction d with
          | zero =>
            intro q o σ' hq hpq ho hS hK
            have : q = 8 := by omega
            subst this
            rw [f_X6_frees_58, if_pos (by decide)]
            exact hK σ' hS
          | succ d ih =>
            intro q o σ' hq hpq ho hS hK
            rw [f_X6_frees_58, if_neg (show ¬ (8 : Int32) ≤ nI q from nI_ge (a := q) (b := 8) (by omega) (by omega)), nI_1]
            unfold frB at hK
            have skip : D p q = false → f_X6_frees_58 (nI b) (nI X) (nI p) K k138 (d + 1) (fb1 o) (fb2 o) (nI (q + 1)) σ' := by
              intro g
              rw [if_neg (by rw [g]; decide)] at hK
              exact ih (q + 1) o σ' (by omega) (by omega) ho hS hK
            have eDpq : D p q = (bt (nI X) p && (bt (nI X) q && frN (σ 3 0) (σ 2 0 2) p q)) := by rw [eD]
            refine has_X (by omega) ?_
            cases g1 : bt (nI X) p with
            | false => exact itf (skip (by rw [eDpq, g1]; rfl))
            | true =>
              refine itt (has_X (by omega) ?_)
              cases g2 : bt (nI X) q with
              | false => exact itf (skip (by rw [eDpq, g1, g2]; rfl))
              | true =>
                refine itt (frN_X (by omega) hp (by omega) (by rw [hS.2.1 2 0 (by omega) (by omega)]; exact hr.pp.2.1) ?_)
                rw [hS.2.1 2 0 (by omega) (by omega), hS.2.1 3 0 (by omega) (by omega)]
                cases g3 : frN (σ 3 0) (σ 2 0 2) p q with
                | false => exact itf (skip (by rw [eDpq, g1, g2, g3]; rfl))
                | true =>
                  refine itt ?_
                  have hr' : RI σ' 0 (μ 1 0) nb := ⟨hr.1.scr (by omega) h5 hS, hr.2⟩
                  refine quar_X (k := k) (n := n) hr' (hS.2.2.2.1.trans h.2.2.2.2.2.1) (hS.2.2.2.2.trans h.2.2.2.2.2.2) hb hk n1 n8 (by rw [hS.1 0 _ (by omega) (by omega)]; exact fk) (by rw [hS.1 0 _ (by omega) (by omega)]; exact fn) (by omega) hp (by omega) (by omega) (fun σ2 S2 => ?_)
                  have qq : quN (μ 1 0) k n (nI X) p q = Q p q := by rw [eQ]
                  rw [qq, ten_pq]
                  have hl := hQ p q
                  rw [if_pos (by rw [eDpq, g1, g2, g3]; rfl)] at hK
                  have S3 := hS.tr S2
                  cases o with
                  | none =>
                    rw [if_neg (show ¬ nI (Q p q) ≤ fb2 none from m1_not_le (by omega))]
                    exact ih (q + 1) (some (10 * p + q, Q p q)) σ2 (by omega) (by omega) (fun z e => by cases e; exact ⟨by show 10 * p + q < 100; omega, hl⟩) S3 hK
                  | some y =>
                    have y2 := (ho y rfl).2
                    have hK : ∀ σ2, Scr σ σ2 → k138 (fb1 (frB D Q p d (q + 1) (if y.2 < Q p q then some (10 * p + q, Q p q) else some (y.1, y.2)))) (fb2 (frB D Q p d (q + 1) (if y.2 < Q p q then some (10 * p + q, Q p q) else some (y.1, y.2)))) σ2 := hK
                    by_cases g : y.2 < Q p q
                    · rw [if_neg (show ¬ nI (Q p q) ≤ fb2 (some y) from nI_ge g (by omega))]
                      rw [if_pos g] at hK
                      exact ih (q + 1) (some (10 * p + q, Q p q)) σ2 (by omega) (by omega) (fun z e => by cases e; exact ⟨by show 10 * p + q < 100; omega, hl⟩) S3 hK
                    · rw [if_pos (show nI (Q p q) ≤ fb2 (some y) from nI_le (by omega) (by omega))]
                      rw [if_neg g] at hK
                      exact ih (q + 1) (some y) σ2 (by omega) (by omega) ho S3 hK
        have X45 : ∀ (K : Int32 → Mm → Prop) (d p : Nat) (o : Option (Nat × Nat)) (σ' : Mm), p + d = 8 → fbok o → Scr σ σ' → (∀ σ2, Scr σ σ2 → if fb1 (frA D Q d p o) = (-1 : Int32) then (f_X6_finding (3 : Int32) σ2 (fun r10 σ9 => (K r10 σ9))) else K (fb1 (frA D Q d p o)) σ2) → f_X6_frees_45 (nI b) (nI X) K (d + 1) (fb1 o) (fb2 o) (nI p) σ' := by
          intro K d
          induction d with
          | zero =>
            intro p o σ' hp ho hS hK
            have : p = 8 := by omega
            subst this
            rw [f_X6_frees_45, if_pos (by decide)]
            exact hK σ' hS
          | succ d ih =>
            intro p o σ' hp ho hS hK
            rw [f_X6_frees_45, if_neg (show ¬ (8 : Int32) ≤ nI p from nI_ge (a := p) (b := 8) (by omega) (by omega)), nI_1]
            refine ⟨7 - p + 1, X58 p K _ (by omega) (7 - p) (p + 1) o σ' (by omega) (by omega) ho hS (fun σ2 S2 => ?_)⟩
            exact ih (p + 1) _ σ2 (by omega) (frB_ok hQ (by omega) (7 - p) (p + 1) o (by omega) ho) S2 hK
        -- the reference, one person's partners
        have Y45 : ∀ (p : Nat) (K : Int32 → Mm → Prop) (k156 : Int32 → Int32 → Mm → Prop), p < 8 → ∀ (d q : Nat) (o : Option (Nat × Nat)) (μ' : Mm), q + d = 8 → p < q → fbok o → YU μ μ' → μ' 0 0 6 = nI k → μ' 0 0 7 = nI n → (∀ μ2, YU μ μ2 → μ2 0 0 6 = nI k → μ2 0 0 7 = nI n → k156 (fb1 (frB D Q p d q o)) (fb3 (frB D Q p d q o)) μ2) → f_X7_frees_45 (nI X) (nI p) K k156 (d + 1) (fb1 o) (fb3 o) (nI q) μ' := by
          intro p K k156 hp d
          induction d with
          | zero =>
            intro q o μ' hq hpq ho hS e6 e7 hK
            have : q = 8 := by omega
            subst this
            rw [f_X7_frees_45, if_pos (by decide)]
            exact hK μ' hS e6 e7
          | succ d ih =>
            intro q o μ' hq hpq ho hS e6 e7 hK
            rw [f_X7_frees_45, if_neg (show ¬ (8 : Int32) ≤ nI q from nI_ge (a := q) (b := 8) (by omega) (by omega)), nI_1]
            unfold frB at hK
            have skip : D p q = false → f_X7_frees_45 (nI X) (nI p) K k156 (d + 1) (fb1 o) (fb3 o) (nI (q + 1)) μ' := by
              intro g
              rw [if_neg (by rw [g]; decide)] at hK
              exact ih (q + 1) o μ' (by omega) (by omega) ho hS e6 e7 hK
            have eDpq : D p q = (bt (nI X) p && (bt (nI X) q && frN (σ 3 0) (σ 2 0 2) p q)) := by rw [eD]
            have efr : frN (fun j => μ' 1 0 (4 + j)) (μ' 1 0 0) p q = frN (σ 3 0) (σ 2 0 2) p q := by
              refine frN_same ?_ ?_
              · show μ' 1 0 (4 + (8 * p + q)) = _
                rw [hS.m]; exact hr.1.2.1 (8 * p + q) (by omega)
              · rw [hS.m]; exact hr.1.1.1
            refine has_Y (by omega) ?_
            cases g1 : bt (nI X) p with
            | false => exact itf (skip (by rw [eDpq, g1]; rfl))
            | true =>
              refine itt (has_Y (by omega) ?_)
              cases g2 : bt (nI X) q with
              | false => exact itf (skip (by rw [eDpq, g1, g2]; rfl))
              | true =>
                refine itt (frN_Y hp (by omega) ?_)
                rw [efr]
                cases g3 : frN (σ 3 0) (σ 2 0 2) p q with
                | false => exact itf (skip (by rw [eDpq, g1, g2, g3]; rfl))
                | true =>
                  refine itt ?_
                  refine quar_Y (σ := σ) (nb := nb) (k := k) (n := n) (by rw [hS.m]; exact hr) hk n1 n8 e6 e7 hp (by omega) (by omega) (K := fun r16 σ17 => (if fb1 o < 0 then (f_X7_frees_136 (nI X) (nI p) (nI q) r16 K (f_X7_frees_45 (nI X) (nI p) K k156 (d + 1)) σ17) else (if fb3 o < r16 then (f_X7_frees_136 (nI X) (nI p) (nI q) r16 K (f_X7_frees_45 (nI X) (nI p) K k156 (d + 1)) σ17) else (f_X7_frees_45 (nI X) (nI p) K k156 (d + 1) (fb1 o) (fb3 o) (nI (q + 1)) σ17)))) (fun μ2 U2 f6 f7 => ?_)
                  have qq : quN (μ' 1 0) k n (nI X) p q = Q p q := by rw [eQ, hS.m]
                  show (if fb1 o < 0 then _ else _)
                  rw [qq]
                  unfold f_X7_frees_136
                  rw [ten_pq, nI_1]
                  have hl := hQ p q
                  rw [if_pos (by rw [eDpq, g1, g2, g3]; rfl)] at hK
                  have S3 := hS.tr U2
                  cases o with
                  | none =>
                    rw [if_pos (show fb1 none < 0 from m1_lt0)]
                    exact ih (q + 1) (some (10 * p + q, Q p q)) μ2 (by omega) (by omega) (fun z e => by cases e; exact ⟨by show 10 * p + q < 100; omega, hl⟩) S3 f6 f7 hK
                  | some y =>
                    have y2 := (ho y rfl).2
                    have y1 := (ho y rfl).1
                    rw [if_neg (show ¬ fb1 (some y) < 0 from nI_pos (by omega))]
                    have hK : ∀ μ2, YU μ μ2 → μ2 0 0 6 = nI k → μ2 0 0 7 = nI n → k156 (fb1 (frB D Q p d (q + 1) (if y.2 < Q p q then some (10 * p + q, Q p q) else some (y.1, y.2)))) (fb3 (frB D Q p d (q + 1) (if y.2 < Q p q then some (10 * p + q, Q p q) else some (y.1, y.2)))) μ2 := hK
                    by_cases g : y.2 < Q p q
                    · rw [if_pos (show fb3 (some y) < nI (Q p q) from nI_lt g (by omega))]
                      rw [if_pos g] at hK
                      exact ih (q + 1) (some (10 * p + q, Q p q)) μ2 (by omega) (by omega) (fun z e => by cases e; exact ⟨by show 10 * p + q < 100; omega, hl⟩) S3 f6 f7 hK
                    · rw [if_neg (show ¬ fb3 (some y) < nI (Q p q) from nI_nlt (by omega) (by omega))]
                      rw [if_neg g] at hK
                      exact ih (q + 1) (some y) μ2 (by omega) (by omega) ho S3 f6 f7 hK
        have Y32 : ∀ (K : Int32 → Mm → Prop) (d p : Nat) (o : Option (Nat × Nat)) (μ' : Mm), p + d = 8 → fbok o → YU μ μ' → μ' 0 0 6 = nI k → μ' 0 0 7 = nI n → (∀ μ2, YU μ μ2 → f_X7_orNone (fb1 (frA D Q d p o)) μ2 (fun r5 σ4 => (K r5 σ4))) → f_X7_frees_32 (nI X) K (d + 1) (fb1 o) (fb3 o) (nI p) μ' := by
          intro K d
          induction d with
          | zero =>
            intro p o μ' hp ho hS e6 e7 hK
            have : p = 8 := by omega
            subst this
            rw [f_X7_frees_32, if_pos (by decide)]
            exact hK μ' hS
          | succ d ih =>
            intro p o μ' hp ho hS e6 e7 hK
            rw [f_X7_frees_32, if_neg (show ¬ (8 : Int32) ≤ nI p from nI_ge (a := p) (b := 8) (by omega) (by omega)), nI_1]
            refine ⟨7 - p + 1, Y45 p K _ (by omega) (7 - p) (p + 1) o μ' (by omega) (by omega) ho hS e6 e7 (fun μ2 S2 f6 f7 => ?_)⟩
            exact ih (p + 1) _ μ2 (by omega) (frB_ok hQ (by omega) (7 - p) (p + 1) o (by omega) ho) S2 f6 f7 hK
        have nok : fbok none := fun z e => nomatch e
        have Y : ∀ (K : Int32 → Mm → Prop), (∀ μ2, YU μ μ2 → f_X7_orNone (fb1 (frA D Q 8 0 none)) μ2 (fun r5 σ4 => (K r5 σ4))) → f_X7_frees (nI b) (nI X) μ K := by
          intro K hK
          unfold f_X7_frees
          refine wrongSet_ok (n := n) hy h5 hb e2 ex (by decide) en n8 ?_
          rw [if_pos c, if_pos (by decide)]
          refine looksAt_Y (by omega) ek en n8 (fun μ1 L => ?_)
          exact ⟨9, Y32 K 8 0 none μ1 rfl nok L.yu L.1 L.2.1 hK⟩
        refine ⟨9, X45 _ 8 0 none σ rfl nok Scr.rf (fun σ2 S2 => ?_)⟩
        cases eo : frA D Q 8 0 none with
        | none =>
          rw [if_pos (show fb1 none = (-1 : Int32) from rfl)]
          refine find_X (w := 3) (by decide) rfl ?_
          refine Y _ (fun μ2 U2 => ?_)
          rw [eo]
          unfold f_X7_orNone
          rw [if_neg (show ¬ (0 : Int32) ≤ fb1 none by decide)]
          exact find_Y (w := 3) (by decide) (by decide) ⟨rfl, (h.scr S2 U2.scr).find (by decide)⟩
        | some y =>
          have ok : ∀ d p o, p + d = 8 → fbok o → fbok (frA D Q d p o) := by
            intro d
            induction d with
            | zero => intro p o _ ho; exact ho
            | succ d ih => intro p o hp ho; exact ih (p + 1) _ (by omega) (frB_ok hQ (by omega) (7 - p) (p + 1) o (by omega) ho)
          have y1 := (ok 8 0 none rfl nok y eo).1
          rw [if_neg (show ¬ fb1 (some y) = (-1 : Int32) from nI_ne_m1 (by omega))]
          refine Y _ (fun μ2 U2 => ?_)
          rw [eo]
          unfold f_X7_orNone
          rw [if_pos (show (0 : Int32) ≤ fb1 (some y) from nI_pos' (by omega))]
          exact ⟨rfl, h.scr S2 U2.scr⟩
      · rw [decide_eq_false c]
        refine itf (E_find' 6 (by decide) (-1000007) rfl (by decide) h (fun r σ' hh => ?_))
        show f_X7_frees (nI b) (nI X) μ _
        unfold f_X7_frees
        refine wrongSet_ok (n := n) hy h5 hb e2 ex (by decide) en n8 ?_
        rw [if_neg c, if_neg (by decide)]
        exact hh
