/-! PURE: most -/
/-- the subsets that can sit -/
def goS (H : Nat → Bool) (x t : Nat) : Bool := decide ((nI t &&& (nI x ^^^ (-1 : Int32))) = 0) && H t
/-- the reference's choice so far -/
def moB (H : Nat → Bool) (c : Nat → Nat) (x : Nat) : Nat → Nat
  | 0 => 0
  | t + 1 => if goS H x (t + 1) = true ∧ c (moB H c x t) < c (t + 1) then t + 1 else moB H c x t
theorem moB_spec {H : Nat → Bool} {c : Nat → Nat} {x : Nat} (c0 : c 0 = 0) : ∀ t, moB H c x t ≤ t ∧ (∀ q, 1 ≤ q → q ≤ t → goS H x q = true → c q ≤ c (moB H c x t)) ∧ (moB H c x t = 0 ∨ (goS H x (moB H c x t) = true ∧ 1 ≤ moB H c x t ∧ 0 < c (moB H c x t) ∧ ∀ q, 1 ≤ q → q < moB H c x t → goS H x q = true → c q < c (moB H c x t))) := by
  intro t
  induction t with
  | zero => exact ⟨Nat.le_refl 0, fun q a b => absurd b (by omega), Or.inl rfl⟩
  | succ t ih =>
    obtain ⟨i1, i2, i3⟩ := ih
    by_cases g : goS H x (t + 1) = true ∧ c (moB H c x t) < c (t + 1)
    · have e : moB H c x (t + 1) = t + 1 := by rw [moB, if_pos g]
      rw [e]
      refine ⟨Nat.le_refl _, fun q a b hq => ?_, Or.inr ⟨g.1, by omega, by omega, fun q a b hq => ?_⟩⟩
      · by_cases d : q = t + 1
        · subst d; exact Nat.le_refl _
        · have := i2 q a (by omega) hq
          omega
      · have := i2 q a (by omega) hq
        omega
    · have e : moB H c x (t + 1) = moB H c x t := by rw [moB, if_neg g]
      rw [e]
      refine ⟨by omega, fun q a b hq => ?_, i3⟩
      by_cases d : q = t + 1
      · subst d
        exact Nat.le_of_not_lt (fun l => g ⟨hq, l⟩)
      · exact i2 q a (by omega) hq
theorem E_most (a x : Int32) {σ μ : Mm} (h : Rel σ μ) : f_X6_most a x σ (fun r σ' => f_X7_most a x μ (fun r' μ' => r' = r ∧ Rel σ' μ')) := by
  obtain ⟨nb, h5, hx, hy, hr⟩ := h.nbx
  unfold f_X6_most
  rw [isBench_X hx h5]
  cases e2 : benchB a nb with
  | false =>
    refine itf (E_find0' h (fun r σ' hh => ?_))
    show f_X7_most a x μ _
    unfold f_X7_most
    rw [isBench_Y hy h5, e2]
    exact itf hh
  | true =>
    refine itt ?_
    rw [isSet_X]
    cases ex : inZ x 0 255 with
    | false =>
      refine itf (E_find0' h (fun r σ' hh => ?_))
      show f_X7_most a x μ _
      unfold f_X7_most
      rw [isBench_Y hy h5, e2]
      refine itt ?_
      rw [isSet_Y, ex]
      exact itf hh
    | true =>
      refine itt ?_
      obtain ⟨b, hb, rfl⟩ := benchB_ex e2 (by omega)
      obtain ⟨X, -, hX, rfl⟩ := inZ_ex (lo := 0) (hi := 255) ex (by omega)
      obtain ⟨k, n, hk, n1, n8, ek, en, fk, fn, z, zz⟩ := hr.ks hb
      have l8 : ∀ t, coF (fun j => bt (nI t) j) 8 ≤ 8 := fun t => coF_le (fun j => bt (nI t) j) 8
      have l8X := l8 X
      refine bc_X ?_
      rw [bcV_8 X (by omega)]
      by_cases c6 : coF (fun j => bt (nI X) j) 8 ≤ 6
      · rw [if_pos (show nI _ ≤ (6 : Int32) from nI_le (b := 6) c6 (by omega))]
        refine bc_X ?_
        rw [bcV_8 X (by omega)]
        let H : Nat → Bool := fun t => decide (0 < (GN (μ 1 0) k n (nI t)).length)
        let c : Nat → Nat := fun t => coF (fun j => bt (nI t) j) 8
        have c0 : c 0 = 0 := by decide
        have cl8 : ∀ t, c t ≤ 8 := l8
        -- no subset of more than so many
        have cle : ∀ t, goS H X t = true → c t ≤ c X := by
          intro t ht
          have h1 := of_decide_eq_true ((Bool.and_eq_true _ _).mp ht).1
          have key : ∀ j, j ≤ 8 → coF (fun i => bt (nI t) i) j ≤ coF (fun i => bt (nI X) i) j := by
            intro j
            induction j with
            | zero => intro _; exact Nat.le_refl 0
            | succ j ih =>
              intro hj
              have ih := ih (by omega)
              unfold coF
              have hb : bt (nI t &&& (nI X ^^^ (-1 : Int32))) j = bt 0 j := congrArg (fun v => bt v j) h1
              rw [b_and, b_xor, b_m1 j (by omega), b_0, Bool.xor_true] at hb
              cases g1 : bt (nI t) j with
              | false => rw [if_neg (by decide)]; split <;> omega
              | true =>
                rw [g1, Bool.true_and] at hb
                cases g2 : bt (nI X) j with
                | false => rw [g2] at hb; exact Bool.noConfusion hb
                | true => rw [if_pos rfl, if_pos rfl]; omega
          exact key 8 (Nat.le_refl 8)
        -- one round of the class
        have X49 : ∀ (mny d t : Nat) (σ' : Mm) (K : Int32 → Mm → Prop) (k104 : Mm → Prop), mny ≤ 8 → t + d = X + 1 → 1 ≤ t → Scr σ σ' → (∀ σ2, Scr σ σ2 → (∀ q, t ≤ q → q ≤ X → c q = mny → goS H X q = false) → k104 σ2) → (∀ q σ2, Scr σ σ2 → t ≤ q → q ≤ X → c q = mny → goS H X q = true → (∀ r, t ≤ r → r < q → c r = mny → goS H X r = false) → K (nI q) σ2) → f_X6_most_49 (nI b) (nI X) (nI mny) K k104 (d + 1) (nI t) σ' := by
          intro mny d
          induction d with
          | zero =>
            intro t σ' K k104 hm ht t1 hS h1 h2
            rw [f_X6_most_49, if_pos (nI_lt (by omega) (by omega))]
            exact h1 σ' hS (fun q a b => absurd b (by omega))
          | succ d ih =>
            intro t σ' K k104 hm ht t1 hS h1 h2
            rw [f_X6_most_49, if_neg (nI_nlt (by omega) (by omega)), nI_1]
            -- passed over
            have skip : ∀ σ2, Scr σ σ2 → (c t = mny → goS H X t = false) → f_X6_most_49 (nI b) (nI X) (nI mny) K k104 (d + 1) (nI (t + 1)) σ2 := by
              intro σ2 S2 hno
              refine ih (t + 1) σ2 K k104 hm (by omega) (by omega) S2 (fun σ3 S3 g => h1 σ3 S3 (fun q a b e => ?_)) (fun q σ3 S3 a b e g g' => h2 q σ3 S3 (by omega) b e g (fun r r1 r2 r3 => ?_))
              · by_cases cc : q = t
                · subst cc; exact hno e
                · exact g q (by omega) b e
              · by_cases cc : r = t
                · subst cc; exact hno r3
                · exact g' r (by omega) r2 r3
            by_cases g1 : (nI t &&& (nI X ^^^ (-1 : Int32))) = 0
            · rw [if_pos g1]
              refine bc_X ?_
              rw [bcV_8 t (by omega)]
              have := cl8 t
              by_cases g2 : c t = mny
              · rw [if_pos (show nI (c t) = nI mny by rw [g2])]
                rw [nI_clamp (by omega)]
                have q3 : σ' 3 0 = σ 3 0 := hS.2.1 3 0 (by omega) (by omega)
                have q2 : σ' 2 0 = σ 2 0 := hS.2.1 2 0 (by omega) (by omega)
                have q4 : σ' 4 0 = σ 4 0 := hS.2.1 4 0 (by omega) (by omega)
                have q0 : σ' 0 (5 * 0 + b) = σ 0 (5 * 0 + b) := hS.1 0 _ (by omega) (by omega)
                have eg : GC (σ' 3 0) (σ' 2 0 2) (σ' 4 0) (σ' 2 0 3) k n none (nI t) = GN (μ 1 0) k n (nI t) := by rw [q3, q2, q4]; exact GC_GN hr n1
                refine ⟨vp_in_nI (by omega) (by omega), by omega, finds_X (k := k) (n := n) (e := 0) (by omega) hk (by rw [q0]; exact fk) (by rw [q0]; exact fn) n1 n8 (by omega) (by omega) (by rw [q3, q2, q4]; exact hr.pp) (hS.2.2.2.1.trans h.2.2.2.2.2.1) (hS.2.2.2.2.trans h.2.2.2.2.2.2) (by rw [eg]; exact GN_len n8) (fun σ3 C3 _ => ?_)⟩
                rw [eg]
                have S3 := hS.tr C3.scr
                cases g3 : H t with
                | true =>
                  rw [show decide (0 < (GN (μ 1 0) k n (nI t)).length) = true from g3]
                  refine itt (h2 t σ3 S3 (Nat.le_refl t) (by omega) g2 ?_ (fun r a b => absurd b (by omega)))
                  unfold goS
                  rw [decide_eq_true g1, g3]; rfl
                | false =>
                  rw [show decide (0 < (GN (μ 1 0) k n (nI t)).length) = false from g3]
                  refine itf (skip σ3 S3 (fun _ => ?_))
                  unfold goS
                  rw [g3, Bool.and_false]
              · rw [if_neg (show ¬ nI (c t) = nI mny from fun e => g2 ((nI_eq (by omega) (by omega)).mp e))]
                exact skip σ' hS (fun e => absurd e g2)
            · rw [if_neg g1]
              refine skip σ' hS (fun _ => ?_)
              unfold goS
              rw [decide_eq_false g1, Bool.false_and]
        -- all rounds
        have X42 : ∀ (mny : Nat) (σ' : Mm) (K : Int32 → Mm → Prop), mny ≤ 8 → Scr σ σ' → (∀ q, 1 ≤ q → q ≤ X → goS H X q = true → c q ≤ mny) → (∀ σ2, Scr σ σ2 → K (nI (moB H c X X)) σ2) → f_X6_most_42 (nI b) (nI X) K (mny + 1) (nI mny) σ' := by
          intro mny
          induction mny with
          | zero =>
            intro σ' K hm hS hq hK
            rw [f_X6_most_42, if_pos (by decide)]
            have sp := moB_spec (H := H) (c := c) (x := X) c0 X
            have : moB H c X X = 0 := by
              rcases sp.2.2 with g | ⟨g1, g2, g3, g4⟩
              · exact g
              · have := hq _ g2 sp.1 g1
                omega
            have hK := hK σ' hS
            rw [this] at hK
            exact hK
          | succ mny ih =>
            intro σ' K hm hS hq hK
            rw [f_X6_most_42, if_neg (show ¬ nI (mny + 1) ≤ (0 : Int32) from nI_ge (a := 0) (by omega) (by omega)), nI_m1]
            refine ⟨X + 1, X49 (mny + 1) X 1 σ' _ _ (by omega) (by omega) (Nat.le_refl 1) hS (fun σ2 S2 g => ih σ2 K (by omega) S2 (fun q a b hq' => ?_) hK) (fun q σ2 S2 a b e g g' => ?_)⟩
            · have := hq q a b hq'
              by_cases cc : c q = mny + 1
              · have := g q a b cc
                rw [this] at hq'; exact Bool.noConfusion hq'
              · omega
            · have sp := moB_spec (H := H) (c := c) (x := X) c0 X
              have hle := sp.2.1 q a b g
              have : moB H c X X = q := by
                rcases sp.2.2 with s | ⟨s1, s2, s3, s4⟩
                · rw [s, c0] at hle; omega
                · have u1 := hq _ s2 sp.1 s1
                  rcases Nat.lt_trichotomy (moB H c X X) q with l | l | l
                  · have := g' _ s2 l (by omega)
                    rw [this] at s1; exact Bool.noConfusion s1
                  · exact l
                  · have := s4 q a l g
                    omega
              have hK := hK σ2 S2
              rw [this] at hK
              exact hK
        refine ⟨_, X42 (c X) σ _ (l8 X) Scr.rf (fun q _ _ hq => cle q hq) (fun σ2 S2 => ?_)⟩
        show f_X7_most (nI b) (nI X) μ _
        unfold f_X7_most
        rw [isBench_Y hy h5, e2]
        refine itt ?_
        rw [isSet_Y, ex]
        refine itt (many_Y ?_)
        rw [if_pos (show nI _ ≤ (6 : Int32) from nI_le (b := 6) c6 (by omega))]
        refine looksAt_Y (by omega) ek en n8 (fun μ1 L => ?_)
        have Y : ∀ (d t : Nat) (μ' : Mm) (K : Int32 → Mm → Prop), t + d = X → YU μ μ' → μ' 0 0 6 = nI k → μ' 0 0 7 = nI n → (∀ μ2, YU μ μ2 → K (nI (moB H c X X)) μ2) → f_X7_most_48 (nI X) K (d + 1) (nI (moB H c X t)) (nI (t + 1)) μ' := by
          intro d
          induction d with
          | zero =>
            intro t μ' K ht hS e6 e7 hK
            have : t = X := by omega
            subst this
            rw [f_X7_most_48, if_pos (nI_lt (by omega) (by omega))]
            exact hK μ' hS
          | succ d ih =>
            intro t μ' K ht hS e6 e7 hK
            have mle := (moB_spec (H := H) (c := c) (x := X) c0 t).1
            rw [f_X7_most_48, if_neg (nI_nlt (by omega) (by omega)), nI_1]
            have keep : ∀ μ2, YU μ μ2 → μ2 0 0 6 = nI k → μ2 0 0 7 = nI n → ¬ (goS H X (t + 1) = true ∧ c (moB H c X t) < c (t + 1)) → f_X7_most_48 (nI X) K (d + 1) (nI (moB H c X t)) (nI (t + 1 + 1)) μ2 := by
              intro μ2 S2 f6 f7 g
              have := ih (t + 1) μ2 K (by omega) S2 f6 f7 hK
              rw [moB, if_neg g] at this
              exact this
            by_cases g1 : (nI (t + 1) &&& (nI X ^^^ (-1 : Int32))) = 0
            · rw [if_pos g1]
              refine many_Y (many_Y ?_)
              have u1 := cl8 (t + 1)
              have u2 := cl8 (moB H c X t)
              by_cases g2 : c (moB H c X t) < c (t + 1)
              · rw [if_pos (show nI (c (moB H c X t)) < nI (c (t + 1)) from nI_lt g2 (by omega))]
                refine seatingsN_Y (m := μ 1 0) hk n1 n8 hr.2.pp ⟨hS.m, e6, e7⟩ (fun μ2 q1 q2 q3 => ?_)
                have l1 := GN_len (m := μ 1 0) (k := k) (U := nI (t + 1)) n8
                have S2 := hS.tr (YU.of q1)
                have f7 : μ2 0 0 7 = nI n := by rw [q1 0 0 (by omega)]; exact e7
                have f6 : μ2 0 0 6 = nI k := by rw [q1 0 0 (by omega)]; exact e6
                by_cases g3 : 0 < (GN (μ 1 0) k n (nI (t + 1))).length
                · rw [if_neg (show ¬ nI _ ≤ (0 : Int32) from nI_ge (a := 0) g3 (by omega))]
                  have := ih (t + 1) μ2 K (by omega) S2 f6 f7 hK
                  rw [moB, if_pos ⟨by unfold goS; rw [decide_eq_true g1, Bool.true_and]; exact decide_eq_true g3, g2⟩] at this
                  exact this
                · rw [if_pos (show nI _ ≤ (0 : Int32) from nI_le (b := 0) (by omega) (by omega))]
                  refine keep μ2 S2 f6 f7 (fun g => ?_)
                  have g := ((Bool.and_eq_true _ _).mp g.1).2
                  exact g3 (of_decide_eq_true g)
              · rw [if_neg (show ¬ nI (c (moB H c X t)) < nI (c (t + 1)) from nI_nlt (by omega) (by omega))]
                exact keep μ' hS e6 e7 (fun g => g2 g.2)
            · rw [if_neg g1]
              refine keep μ' hS e6 e7 (fun g => ?_)
              exact g1 (of_decide_eq_true ((Bool.and_eq_true _ _).mp g.1).1)
        exact ⟨X + 1, Y X 0 μ1 _ (by omega) L.yu L.1 L.2.1 (fun μ2 U2 => ⟨rfl, h.scr S2 U2.scr⟩)⟩
      · rw [if_neg (show ¬ nI _ ≤ (6 : Int32) from nI_ge (a := 6) (by omega) (by omega))]
        refine E_find' 6 (by decide) (-1000007) rfl (by decide) h (fun r σ' hh => ?_)
        show f_X7_most (nI b) (nI X) μ _
        unfold f_X7_most
        rw [isBench_Y hy h5, e2]
        refine itt ?_
        rw [isSet_Y, ex]
        refine itt (many_Y ?_)
        rw [if_neg (show ¬ nI _ ≤ (6 : Int32) from nI_ge (a := 6) (by omega) (by omega))]
        exact hh
