/-! PURE: come -/
/-- the least of a set of seats; 8: none -/
def leF (M : Int32) : Nat → Nat → Nat
  | 0, s => s
  | d + 1, s => if bt M s = true then s else leF M d (s + 1)
theorem leF_spec (M : Int32) : ∀ d s, s + d = 8 → (leF M d s = 8 ∨ (leF M d s < 8 ∧ bt M (leF M d s) = true)) := by
  intro d
  induction d with
  | zero => intro s h; left; unfold leF; omega
  | succ d ih =>
    intro s h
    unfold leF
    by_cases c : bt M s = true
    · rw [if_pos c]; exact Or.inr ⟨by omega, c⟩
    · rw [if_neg c]; exact ih (s + 1) (by omega)
theorem least_X {M : Int32} {σ : Mm} {K : Int32 → Mm → Prop} (h : if leF M 8 0 = 8 then K (-1 : Int32) σ else K (nI (leF M 8 0)) σ) : f_X6_leastOf M σ K := by
  have main : ∀ (d s : Nat), s + d = 8 → (if leF M d s = 8 then K (-1 : Int32) σ else K (nI (leF M d s)) σ) → f_X6_leastOf_2 M K (d + 1) (nI s) σ := by
    intro d
    induction d with
    | zero =>
      intro s hs hk
      have : s = 8 := by omega
      subst this
      rw [f_X6_leastOf_2, if_pos (by decide)]
      unfold leF at hk
      rw [if_pos rfl] at hk
      exact hk
    | succ d ih =>
      intro s hs hk
      rw [f_X6_leastOf_2, if_neg (show ¬ (8 : Int32) ≤ nI s from nI_ge (a := s) (b := 8) (by omega) (by omega))]
      refine has_X (by omega) ?_
      unfold leF at hk
      cases eb : bt M s with
      | true =>
        rw [eb, if_pos rfl] at hk
        rw [if_neg (by omega)] at hk
        exact itt hk
      | false =>
        rw [eb, if_neg (show ¬ (false = true) by decide)] at hk
        refine itf ?_
        rw [nI_1]
        exact ih (s + 1) (by omega) hk
  exact ⟨9, main 8 0 (by omega) h⟩
theorem least_Y {a1 a2 a3 a4 a5 M : Int32} {K : Int32 → Mm → Prop} {k95 : Int32 → Mm → Prop} {μ : Mm} (h : k95 (nI (leF M 8 0)) μ) : ∃ m, f_X7_come_72 a1 a2 a3 a4 a5 M K k95 m (0 : Int32) μ := by
  have main : ∀ (d s : Nat), s + d = 8 → k95 (nI (leF M d s)) μ → f_X7_come_72 a1 a2 a3 a4 a5 M K k95 (d + 1) (nI s) μ := by
    intro d
    induction d with
    | zero =>
      intro s hs hk
      have : s = 8 := by omega
      subst this
      rw [f_X7_come_72, if_pos (by decide)]
      exact hk
    | succ d ih =>
      intro s hs hk
      rw [f_X7_come_72, if_neg (show ¬ (8 : Int32) ≤ nI s from nI_ge (a := s) (b := 8) (by omega) (by omega))]
      refine has_Y (by omega) ?_
      unfold leF at hk
      cases eb : bt M s with
      | true =>
        rw [eb, if_pos rfl] at hk
        exact itt hk
      | false =>
        rw [eb, if_neg (by decide)] at hk
        refine itf ?_
        rw [nI_1]
        exact ih (s + 1) (by omega) hk
  exact ⟨9, main 8 0 (by omega) h⟩
theorem leF_0 : leF 0 8 0 = 8 := by
  rcases leF_spec 0 8 0 (by omega) with h | ⟨-, h⟩
  · exact h
  · rw [b_0] at h; exact absurd h (by decide)
def zed' (z : Int32) : Int32 := (z * (1103515245 : Int32)) + (12345 : Int32)
def zedr (z : Int32) : Int32 := (z.toUInt32 >>> (((8 : Int32)).toUInt32 &&& Int32.toUInt32 31)).toInt32
theorem zedr_ex (z : Int32) : ∃ q, q < 8 ∧ zedr z - zedr z / (8 : Int32) * (8 : Int32) = nI q := by
  have hlt : (zedr z).toBitVec.toNat < 2 ^ 24 := by
    refine Nat.lt_pow_two_of_testBit _ (fun i hi => ?_)
    show bt (zedr z) i = false
    rw [show bt (zedr z) i = bt z (8 + i) from b_ushr 8 (by omega) z i]
    exact b_big (by omega)
  have e : zedr z = nI (zedr z).toBitVec.toNat := Int32.toBitVec_inj.mp (by show _ = BitVec.ofNat 32 _; simp)
  generalize (zedr z).toBitVec.toNat = N at e hlt
  rw [e]
  exact ⟨N % 8, Nat.mod_lt _ (by omega), pk_rem (d := 8) (by omega) (by omega) (by omega)⟩
theorem draw_X {σ : Mm} {K : Int32 → Mm → Prop} (h : K (zedr (zed' (σ 5 0 4))) (mset σ 5 0 4 (zed' (σ 5 0 4)))) : f_X2_draw 0 σ K := by
  refine ⟨by omega, _, rfl, ?_⟩
  rw [mset_ap, if_pos ⟨rfl, rfl, rfl⟩]
  exact h
theorem draw_Y {μ : Mm} {K : Int32 → Mm → Prop} (h : K (zedr (zed' (μ 1 0 2))) (mset μ 1 0 2 (zed' (μ 1 0 2)))) : f_X7_draw μ K := by
  refine ⟨_, rfl, ?_⟩
  rw [mset_ap, if_pos ⟨rfl, rfl, rfl⟩]
  exact h
theorem Rel.draw {σ μ : Mm} {nb : Nat} (h : Rel σ μ) (hr : RI σ 0 (μ 1 0) nb) (x : Int32) : Rel (mset σ 5 0 4 x) (mset μ 1 0 2 x) ∧ RI (mset σ 5 0 4 x) 0 (mset μ 1 0 2 x 1 0) nb := by
  have e : RI (mset σ 5 0 4 x) 0 (mset μ 1 0 2 x 1 0) nb := by rw [mset_eq]; exact hr.zed x
  exact ⟨h.out (Out.set (by omega)) (OutY.set (by omega)) e, e⟩
theorem RI.same {σ : Mm} {m m' : Nat → Int32} {nb nb' : Nat} (h : RI σ 0 m nb) (h' : RI σ 0 m' nb') : nb = nb' ∧ ∀ b s, b < nb → s < 8 → m (78 + 10 * b + s) = m' (78 + 10 * b + s) := by
  have e : nb = nb' := by
    have h5 := h.2.nb
    have h5' := h'.2.nb
    exact (nI_eq (by omega) (by omega)).mp (h.nb2.symm.trans h'.nb2)
  subst e
  exact ⟨rfl, fun b s hb hs => ((h.1.2.2.2.1 b hb).2.2 s hs).trans ((h'.1.2.2.2.1 b hb).2.2 s hs).symm⟩
theorem At.same {m m' : Nat → Int32} {nb p b s : Nat} (h : At m nb p b s) (e : ∀ b s, b < nb → s < 8 → m (78 + 10 * b + s) = m' (78 + 10 * b + s)) : At m' nb p b s := ⟨h.1, h.2.1, by rw [← e b s h.1 h.2.1]; exact h.2.2⟩
theorem Nowh.same {m m' : Nat → Int32} {nb p : Nat} (h : Nowh m nb p) (e : ∀ b s, b < nb → s < 8 → m (78 + 10 * b + s) = m' (78 + 10 * b + s)) : Nowh m' nb p := fun b s hb hs g => h b s hb hs (by rw [e b s hb hs]; exact g)
theorem come_X {b N : Nat} (hN : N ≤ 20) : ∀ (d i c : Nat) (σ μ0 : Mm) (nb : Nat), i + d = N → c ≤ i → Rel σ μ0 → RI σ 0 (μ0 1 0) nb → b < nb → ∀ K : Int32 → Mm → Prop, (∀ c' σ', (∀ μ, Rel σ μ → ∀ G : Int32 → Mm → Prop, (∀ μ', Rel σ' μ' → G (nI c') μ') → f_X7_come_32 (nI b) (nI N) G (d + 1) (nI c) (nI i) μ) → K (nI c') σ') → f_X6_come_30 (nI b) (nI N) K (d + 1) (nI c) (nI i) σ := by
  intro d
  induction d with
  | zero =>
    intro i c σ μ0 nb hi hc h hr hb K hK
    have : i = N := by omega
    subst this
    rw [f_X6_come_30, if_pos (nI_le (by omega) (by omega))]
    refine hK c σ (fun μ hμ G hG => ?_)
    rw [f_X7_come_32, if_pos (nI_le (by omega) (by omega))]
    exact hG μ hμ
  | succ d ih =>
    intro i c σ μ0 nb hi hc h hr hb K hK
    have h5 := hr.2.nb
    rw [f_X6_come_30, if_neg (nI_ge (by omega) (by omega))]
    refine draw_X ?_
    obtain ⟨q, hq, eq⟩ := zedr_ex (zed' (σ 5 0 4))
    rw [eq]
    generalize ex : zed' (σ 5 0 4) = x at *
    obtain ⟨h1, hr1⟩ := h.draw hr x
    generalize es1 : mset σ 5 0 4 x = σ1 at *
    generalize em1 : mset μ0 1 0 2 x = μ1 at *
    -- the reference's beginning of a step
    have Y : ∀ (μ : Mm), Rel σ μ → ∀ G : Int32 → Mm → Prop, (∀ μ2 nb2, Rel σ1 μ2 → RI σ1 0 (μ2 1 0) nb2 → nb2 = nb → (∀ b s, b < nb → s < 8 → μ1 1 0 (78 + 10 * b + s) = μ2 1 0 (78 + 10 * b + s)) → f_X7_whereIs (nI q) μ2 (fun r10 σ9 => (if 0 ≤ r10 then (f_X7_come_67 (nI b) (nI N) (nI c) (nI i) (nI q) (0 : Int32) G (f_X7_come_32 (nI b) (nI N) G (d + 1)) σ9) else (f_X7_mayOn (nI q) (nI b) σ9 (fun r19 σ18 => (f_X7_come_67 (nI b) (nI N) (nI c) (nI i) (nI q) r19 G (f_X7_come_32 (nI b) (nI N) G (d + 1)) σ18)))))) → f_X7_come_32 (nI b) (nI N) G (d + 1 + 1) (nI c) (nI i) μ := by
      intro μ hμ G hG
      obtain ⟨nb2, h52, -, -, hr2⟩ := hμ.nbx
      rw [f_X7_come_32, if_neg (nI_ge (by omega) (by omega))]
      refine draw_Y ?_
      have ez : μ 1 0 2 = σ 5 0 4 := hr2.1.1.2.2.1
      rw [ez, ex, eq]
      obtain ⟨h2, hr3⟩ := hμ.draw hr2 x
      rw [es1] at h2 hr3
      obtain ⟨e1, e2⟩ := hr1.same hr3
      exact hG _ nb2 h2 hr3 e1.symm e2
    have Z : ∀ {M : Int32} {μ : Mm} {G : Int32 → Mm → Prop}, (if leF M 8 0 = 8 then f_X7_come_32 (nI b) (nI N) G (d + 1) (nI c) (nI (i + 1)) μ else f_X7_come_32 (nI b) (nI N) G (d + 1) (nI (c + 1)) (nI (i + 1)) (mset μ 1 0 (78 + 10 * b + leF M 8 0) (nI q))) → f_X7_come_67 (nI b) (nI N) (nI c) (nI i) (nI q) M G (f_X7_come_32 (nI b) (nI N) G (d + 1)) μ := by
      intro M μ G hG
      refine least_Y ?_
      unfold f_X7_come_95
      rw [nI_1, nI_1]
      rcases leF_spec M 8 0 (by omega) with g | ⟨g, -⟩
      · rw [if_pos g] at hG
        rw [g, if_pos (by decide)]
        exact hG
      · rw [if_neg (by omega)] at hG
        rw [if_neg (fun e => by have := (lit_eq (leF M 8 0) 8 (by omega) (by omega)).mp e; omega), at_Y (by omega) g, nI_clamp (by omega)]
        exact ⟨vp_in_nI (by omega) (by omega), _, rfl, hG⟩
    rcases at_or (μ1 1 0) nb q with ⟨b', s, ha⟩ | hn
    · have hb' := ha.1
      have hs' := ha.2.1
      refine ⟨by omega, with_at hr1 (by omega) hq ha ?_⟩
      rw [if_neg (nI_ne_m1 (by omega))]
      refine itt ?_
      rw [nI_1]
      refine ih (i + 1) c σ1 μ1 nb (by omega) (by omega) h1 hr1 hb K (fun c' σ' H => hK c' σ' (fun μ hμ G hG => Y μ hμ G (fun μ2 nb2 g1 g2 g3 g4 => ?_)))
      subst g3
      refine where_at g2.2 hq (ha.same g4) ?_
      rw [if_pos (nI_pos' (by omega))]
      refine Z ?_
      rw [if_pos leF_0]
      exact H μ2 g1 G hG
    · refine ⟨by omega, with_no hr1 (by omega) hn ?_⟩
      rw [if_pos rfl]
      refine itf ?_
      obtain ⟨k, n, hk, n1, n8, ek, en, fk, fn, z, zz⟩ := hr1.ks hb
      refine ask_X hr1 hq hb hk fk fn n1 n8 (fun σ2 g1 g2 g3 g4 => least_X ?_)
      have s2 := scr15 g1
      have h2 : Rel σ2 μ1 := h1.scr s2 ScrY.rf
      have hr2 : RI σ2 0 (μ1 1 0) nb := hr1.scr (by omega) s2
      have W : ∀ {M : Int32} (μ : Mm), Rel σ μ → ∀ G : Int32 → Mm → Prop, M = mayS σ1 b k n q → (∀ μ3, Rel σ2 μ3 → RI σ2 0 (μ3 1 0) nb → Nowh (μ3 1 0) nb q → (if leF M 8 0 = 8 then f_X7_come_32 (nI b) (nI N) G (d + 1) (nI c) (nI (i + 1)) μ3 else f_X7_come_32 (nI b) (nI N) G (d + 1) (nI (c + 1)) (nI (i + 1)) (mset μ3 1 0 (78 + 10 * b + leF M 8 0) (nI q)))) → f_X7_come_32 (nI b) (nI N) G (d + 1 + 1) (nI c) (nI i) μ := by
        intro M μ hμ G eM hG
        refine Y μ hμ G (fun μ2 nb2 g1' g2' g3' g4' => ?_)
        subst g3'
        have hn2 := hn.same g4'
        refine where_no g2'.2 hn2 ?_
        rw [if_neg (by decide)]
        obtain ⟨k', n', hk', n1', n8', ek', en', fk', fn', -, -⟩ := g2'.ks hb
        have e1 : k = k' := (nI_eq (by omega) (by omega)).mp (fk.symm.trans fk')
        have e2 : n = n' := (nI_eq (by omega) (by omega)).mp (fn.symm.trans fn')
        subst e1 e2
        refine mayOn_Y g2' hq hb hk ek' en' n1 n8 (fun μ3 hy3 => ?_)
        rw [← eM]
        refine Z (hG μ3 (g1'.scr s2 hy3.scr) (by rw [hy3.m]; exact g2'.scr (by omega) s2) (by rw [hy3.m]; exact hn2))
      by_cases c8 : leF (mayS σ1 b k n q) 8 0 = 8
      · rw [if_pos c8, if_pos rfl, nI_1]
        refine ih (i + 1) c σ2 μ1 nb (by omega) (by omega) h2 hr2 hb K (fun c' σ' H => hK c' σ' (fun μ hμ G hG => W μ hμ G rfl (fun μ3 k1 k2 k3 => ?_)))
        rw [if_pos c8]
        exact H μ3 k1 G hG
      · have l8 := (leF_spec (mayS σ1 b k n q) 8 0 (by omega)).resolve_left c8
        have fr := mayF_free n8 (show leF (mayS σ1 b k n q) 8 0 < 32 by omega) l8.2
        rw [if_neg c8, if_neg (nI_ne_m1 (by omega)), nI_1, nI_1]
        obtain ⟨s, es⟩ : ∃ s, s = leF (mayS σ1 b k n q) 8 0 := ⟨_, rfl⟩
        rw [← es] at l8 fr c8 ⊢
        refine ⟨by omega, lift_no hr2 (by omega) hn ?_⟩
        rw [nI_clamp (n := b) (by omega), nI_clamp (n := s) (by omega)]
        refine ⟨vp_in_nI (by omega) (by omega), by omega, vp_in_nI (by omega) (by omega), _, rfl, ?_⟩
        have step : ∀ μ3, Rel σ2 μ3 → RI σ2 0 (μ3 1 0) nb → Nowh (μ3 1 0) nb q → Rel (mset σ2 1 (5 * 0 + b) s (nI q)) (mset μ3 1 0 (78 + 10 * b + s) (nI q)) ∧ RI (mset σ2 1 (5 * 0 + b) s (nI q)) 0 (mset μ3 1 0 (78 + 10 * b + s) (nI q) 1 0) nb := by
          intro μ3 k1 k2 k3
          obtain ⟨k', n', -, n1', n8', -, en', -, fn', -, -⟩ := k2.ks hb
          have e2 : n = n' := by
            have : σ2 0 (5 * 0 + b) 1 = nI n := by rw [g1 0 _ (by omega)]; exact fn
            exact (nI_eq (by omega) (by omega)).mp (this.symm.trans fn')
          subst e2
          have hI : RI (mset σ2 1 (5 * 0 + b) s (nI q)) 0 (mset μ3 1 0 (78 + 10 * b + s) (nI q) 1 0) nb := by
            rw [mset_eq]
            exact k2.seat hb en' n8 fr.1 (pv_nI hq) (Or.inr (fun b' s' g1 g2 g3 => absurd g3 (k3 b' s' g1 g2)))
          exact ⟨k1.out (Out.set (by omega)) (OutY.set (by omega)) hI, hI⟩
        obtain ⟨h4, hr4⟩ := step μ1 h2 hr2 hn
        refine ih (i + 1) (c + 1) _ _ nb (by omega) (by omega) h4 hr4 hb K (fun c' σ' H => hK c' σ' (fun μ hμ G hG => W μ hμ G rfl (fun μ3 k1 k2 k3 => ?_)))
        rw [← es, if_neg c8]
        exact H _ (step μ3 k1 k2 k3).1 G hG
theorem E_come (x c : Int32) {σ μ : Mm} (h : Rel σ μ) : f_X6_come x c σ (fun r σ' => f_X7_come x c μ (fun r' μ' => r' = r ∧ Rel σ' μ')) := by
  obtain ⟨nb, h5, hx, hy, hr⟩ := h.nbx
  unfold f_X6_come
  rw [isBench_X hx h5]
  cases e2 : benchB x nb with
  | false =>
    rw [if_neg (by decide)]
    refine E_find0' h (fun r σ' hh => ?_)
    show f_X7_come x c μ _
    unfold f_X7_come
    rw [isBench_Y hy h5, e2, if_neg (by decide)]
    exact hh
  | true =>
    rw [if_pos rfl, ite_inZ]
    obtain ⟨b, hb, rfl⟩ := benchB_ex e2 (by omega)
    cases e : inZ c (1 : Int32).toInt (20 : Int32).toInt with
    | false =>
      rw [if_neg (by decide)]
      refine E_find0' h (fun r σ' hh => ?_)
      show f_X7_come (nI b) c μ _
      unfold f_X7_come
      rw [isBench_Y hy h5, e2, if_pos rfl, in_inZ, show inZ c (1 : Int64).toInt (20 : Int64).toInt = false from e, if_neg (by decide)]
      exact hh
    | true =>
      rw [if_pos rfl]
      obtain ⟨N, hN1, hN, rfl⟩ := inZ_ex (lo := 1) (hi := 20) e (by omega)
      refine ⟨N + 1, come_X hN N 0 0 σ μ nb (by omega) (by omega) h hr hb _ (fun c' σ' H => ?_)⟩
      show f_X7_come (nI b) (nI N) μ _
      unfold f_X7_come
      rw [isBench_Y hy h5, e2, if_pos rfl, in_inZ, show inZ (nI N) (1 : Int64).toInt (20 : Int64).toInt = true from e, if_pos rfl]
      exact ⟨N + 1, H μ h _ (fun μ' hR => ⟨rfl, hR⟩)⟩
