/-! PURE: exchange, the reference -/
def SV (σ μ : Mm) (b k n : Nat) (μ' : Mm) : Prop := SY μ μ' ∧ μ' 0 0 6 = nI k ∧ μ' 0 0 7 = nI n ∧ ∀ j, j < n → μ' 5 0 j = σ 1 (5 * 0 + b) j
theorem seatOf_Y {n p : Nat} {v : Nat → Int32} {μ : Mm} {K : Int32 → Mm → Prop} (en : μ 0 0 7 = nI n) (h8 : n ≤ 8) (ev : ∀ j, j < n → μ 5 0 j = v j) (h : K (match posF v p n with
    | some s => nI s
    | none => -1) μ) : f_X7_seatOf (nI p) μ K := by
  cases e : posF v p n with
  | none =>
    rw [e] at h
    have un := posF_none n e
    have main : ∀ (d q : Nat), q + d = n → f_X7_seatOf_2 (nI p) K (d + 1) (nI q) μ := by
      intro d
      induction d with
      | zero => intro q hq; rw [f_X7_seatOf_2, en, if_pos (nI_le (by omega) (by omega))]; exact h
      | succ d ih =>
        intro q hq
        rw [f_X7_seatOf_2, en, if_neg (nI_ge (by omega) (by omega)), nI_clamp (by omega), ev q (by omega), if_neg (un q (by omega)), nI_1]
        exact ⟨vp_in_nI (by omega) (by omega), ih (q + 1) (by omega)⟩
    exact ⟨n + 1, main n 0 (by omega)⟩
  | some s =>
    rw [e] at h
    obtain ⟨hs, es, fs⟩ := posF_some n e
    have main : ∀ (d q : Nat), q + d = s → f_X7_seatOf_2 (nI p) K (d + 1) (nI q) μ := by
      intro d
      induction d with
      | zero =>
        intro q hq
        have : q = s := by omega
        subst this
        rw [f_X7_seatOf_2, en, if_neg (nI_ge (by omega) (by omega)), nI_clamp (by omega), ev q (by omega), if_pos es]
        exact ⟨vp_in_nI (by omega) (by omega), h⟩
      | succ d ih =>
        intro q hq
        rw [f_X7_seatOf_2, en, if_neg (nI_ge (by omega) (by omega)), nI_clamp (by omega), ev q (by omega), if_neg (fs q (by omega)), nI_1]
        exact ⟨vp_in_nI (by omega) (by omega), ih (q + 1) (by omega)⟩
    exact ⟨s + 1, main s 0 (by omega)⟩
theorem changes_Y {s t : Nat} {μ : Mm} {K : Mm → Prop} (hs : s < 8) (ht : t < 8) (h : ∀ μ', SY μ μ' → μ' 0 0 = μ 0 0 → μ' 5 0 = swF (μ 5 0) s t → K μ') : f_X7_changes (nI s) (nI t) μ K := by
  have t1 : vp_in (nI s) 8 := vp_in_nI (by omega) (by omega)
  have t2 : vp_in (nI t) 8 := vp_in_nI (by omega) (by omega)
  unfold f_X7_changes
  rw [nI_clamp (n := s) (by omega), nI_clamp (n := t) (by omega)]
  refine ⟨t1, t2, t1, _, rfl, t2, _, rfl, h _ ⟨fun t' i c => ?_, fun j _ _ => ?_⟩ ?_ ?_⟩
  · rw [mset_ne (by omega), mset_ne (by omega)]
  · rw [mset_ne (by omega), mset_ne (by omega)]
  · rw [mset_ne (by omega), mset_ne (by omega)]
  · rw [mset_eq, mset_eq]; rfl
theorem gnV {σ μ μ' : Mm} {nb n x y : Nat} {w : Nat → Int32} (hr : RI σ 0 (μ 1 0) nb) (hm : μ' 1 0 = μ 1 0) (hx : x < n) (hy : y < 8) (hv : pvs w n) (e : ∀ j, j < n → μ' 5 0 j = w j) : gnF (fun j => μ' 1 0 (4 + j)) (μ' 5 0) n x y = gnF (σ 3 0) w n x y := by
  refine (gnF_congr hy hx hv (fun j hj => ?_) (fun j hj => (e j hj).symm)).symm
  rw [hm]; exact (hr.1.2.1 j hj).symm
theorem would_Y {σ μ μ' : Mm} {nb b k n p q s t : Nat} {K : Bool → Mm → Prop} (hr : RI σ 0 (μ 1 0) nb) (hb : b < nb) (hk : k < 7) (h1 : 1 ≤ n) (h8 : n ≤ 8) (hp : p < 8) (hq : q < 8) (hst : s ≠ t) (hs : s < n) (ht : t < n) (es : σ 1 (5 * 0 + b) s = nI p) (et : σ 1 (5 * 0 + b) t = nI q) (hS : SV σ μ b k n μ') (h : ∀ μ2, SV σ μ b k n μ2 → K (exB (σ 3 0) (σ 2 0 2) (σ 4 0) (σ 2 0 3) (σ 1 (5 * 0 + b)) k n p q s t) μ2) : f_X7_wouldChange (nI s) (nI t) μ' K := by
  obtain ⟨y1, y2, y3, y4⟩ := hS
  have hv : pvs (σ 1 (5 * 0 + b)) n := hr.pvs hb h8
  have hv' : pvs (μ' 5 0) n := fun j hj => by rw [y4 j hj]; exact hv j hj
  have ib : IB (μ' 1 0) := by rw [y1.m]; exact hr.2.2.1
  refine gainOn_Y hp hs h8 (by rw [y4 s hs]; exact es) hv' ib y3 ?_
  refine gainOn_Y hq ht h8 (by rw [y4 t ht]; exact et) hv' ib y3 ?_
  rw [gnV hr y1.m hs hp hv y4, gnV hr y1.m ht hq hv y4]
  refine changes_Y (by omega) (by omega) (fun μ3 c1 c2 c3 => ?_)
  have z1 : SY μ μ3 := y1.tr c1
  have z3 : μ3 0 0 7 = nI n := by rw [c2]; exact y3
  have z2 : μ3 0 0 6 = nI k := by rw [c2]; exact y2
  have z4 : ∀ j, j < n → μ3 5 0 j = swF (σ 1 (5 * 0 + b)) s t j := fun j hj => by rw [c3]; exact swF_congr hs ht hst y4 j hj
  have hw := swF_pv hs ht hst hv
  have hv3 : pvs (μ3 5 0) n := fun j hj => by rw [z4 j hj]; exact hw j hj
  have ib3 : IB (μ3 1 0) := by rw [z1.m]; exact hr.2.2.1
  have back : ∀ {as0 : Int32} {b0 : Bool}, as0 = b2i b0 → (∀ μ2, SV σ μ b k n μ2 → K b0 μ2) → f_X7_wouldChange_50 (nI s) (nI t) as0 K μ3 := by
    intro as0 b0 e g
    refine changes_Y (by omega) (by omega) (fun μ4 d1 d2 d3 => ⟨b0, e, g μ4 ⟨z1.tr d1, by rw [d2]; exact z2, by rw [d2]; exact z3, fun j hj => ?_⟩⟩)
    rw [d3, swF_congr hs ht hst z4 j hj, swF_sw hst]
  refine gainOn_Y hp ht h8 (by rw [z4 t ht, swF_t]; exact es) hv3 ib3 z3 ?_
  rw [gnV hr z1.m ht hp hw z4]
  unfold exB at h
  by_cases a1 : gnF (σ 3 0) (swF (σ 1 (5 * 0 + b)) s t) n t p ≤ gnF (σ 3 0) (σ 1 (5 * 0 + b)) n s p
  · rw [if_pos a1]
    rw [decide_eq_true a1] at h
    exact back rfl h
  · rw [if_neg a1]
    rw [decide_eq_false a1, Bool.not_false, Bool.true_and] at h
    refine gainOn_Y hq hs h8 (by rw [z4 s hs, swF_s hst]; exact et) hv3 ib3 z3 ?_
    rw [gnV hr z1.m hs hq hw z4]
    by_cases a2 : gnF (σ 3 0) (swF (σ 1 (5 * 0 + b)) s t) n s q ≤ gnF (σ 3 0) (σ 1 (5 * 0 + b)) n t q
    · rw [if_pos a2]
      rw [decide_eq_true a2] at h
      exact back rfl h
    · rw [if_neg a2]
      rw [decide_eq_false a2, Bool.not_false, Bool.true_and] at h
      refine holdsNow_Y (k := k) (n := n) hk z2 z3 h1 h8 hv3 (by rw [z1.m]; exact hr.2.pp) ?_
      rw [z1.m, ← ho_eq hr h1 hw (fun j hj => (z4 j hj).symm)]
      cases eH : hoB (σ 3 0) (σ 2 0 2) (σ 4 0) (σ 2 0 3) (swF (σ 1 (5 * 0 + b)) s t) k n with
      | true => rw [eH] at h; exact itt (back rfl h)
      | false => rw [eH] at h; exact itf (back rfl h)
theorem fi_Y {σ μ : Mm} {nb b k n p : Nat} {K : Int32 → Mm → Prop} {k76 : Int32 → Int32 → Int32 → Int32 → Mm → Prop} {k102 : Mm → Prop} (hr : RI σ 0 (μ 1 0) nb) (hb : b < nb) (hk : k < 7) (h1 : 1 ≤ n) (h8 : n ≤ 8) (hp : p < 8) : ∀ (d q : Nat) (μ' : Mm), q + d = 8 → p < q → SV σ μ b k n μ' → (match fiF (EV σ b k n p) d q with
    | none => ∀ μ2, SV σ μ b k n μ2 → k102 μ2
    | some q' => ∀ μ2 s t, SV σ μ b k n μ2 → posF (σ 1 (5 * 0 + b)) p n = some s → posF (σ 1 (5 * 0 + b)) q' n = some t → k76 (nI p) (nI q') (nI s) (nI t) μ2) → f_X7_exchange_32 (nI b) (nI p) K k76 k102 (d + 1) (nI q) μ' := by
  intro d
  induction d with
  | zero =>
    intro q μ' hq hpq o hK
    have : q = 8 := by omega
    subst this
    rw [f_X7_exchange_32, if_pos (by decide)]
    exact hK μ' o
  | succ d ih =>
    intro q μ' hq hpq o hK
    rw [f_X7_exchange_32, if_neg (show ¬ (8 : Int32) ≤ nI q from nI_ge (a := q) (b := 8) (by omega) (by omega)), nI_1]
    unfold fiF at hK
    refine seatOf_Y o.2.2.1 h8 o.2.2.2 (seatOf_Y o.2.2.1 h8 o.2.2.2 ?_)
    cases ep : posF (σ 1 (5 * 0 + b)) p n with
    | none =>
      have ef : EV σ b k n p q = false := by unfold EV exE; rw [ep]
      rw [ef, if_neg (by decide)] at hK
      dsimp only
      rw [if_pos (by decide)]
      exact ih (q + 1) μ' (by omega) (by omega) o hK
    | some s =>
      obtain ⟨hs, es, fs⟩ := posF_some n ep
      dsimp only
      rw [if_neg (nI_pos (by omega))]
      cases eq : posF (σ 1 (5 * 0 + b)) q n with
      | none =>
        have ef : EV σ b k n p q = false := by unfold EV exE; rw [ep, eq]
        rw [ef, if_neg (by decide)] at hK
        dsimp only
        rw [if_pos (by decide)]
        exact ih (q + 1) μ' (by omega) (by omega) o hK
      | some t =>
        obtain ⟨ht, et, ft⟩ := posF_some n eq
        have eE : EV σ b k n p q = exB (σ 3 0) (σ 2 0 2) (σ 4 0) (σ 2 0 3) (σ 1 (5 * 0 + b)) k n p q s t := by unfold EV exE; rw [ep, eq]
        dsimp only
        rw [if_neg (nI_pos (by omega))]
        have hst : s ≠ t := fun e => by
          subst e
          have := (nI_eq (by omega) (by omega)).mp (es.symm.trans et)
          omega
        refine would_Y hr hb hk h1 h8 hp (by omega) hst hs ht es et o (fun μ2 o2 => ?_)
        rw [← eE]
        cases eV : EV σ b k n p q with
        | true =>
          rw [eV, if_pos rfl] at hK
          exact itt (hK μ2 s t o2 ep eq)
        | false =>
          rw [eV, if_neg (by decide)] at hK
          exact itf (ih (q + 1) μ2 (by omega) (by omega) o2 hK)
theorem fo_Y {σ μ : Mm} {nb b k n : Nat} {K : Int32 → Mm → Prop} {k76 : Int32 → Int32 → Int32 → Int32 → Mm → Prop} (hr : RI σ 0 (μ 1 0) nb) (hb : b < nb) (hk : k < 7) (h1 : 1 ≤ n) (h8 : n ≤ 8) : ∀ (d p : Nat) (μ' : Mm), p + d = 8 → SV σ μ b k n μ' → (match foF (EV σ b k n) d p with
    | none => ∀ μ2, SV σ μ b k n μ2 → f_X7_finds (-1000004 : Int32) μ2 (fun r4 σ3 => K r4 σ3)
    | some x => ∀ μ2 s t, SV σ μ b k n μ2 → posF (σ 1 (5 * 0 + b)) x.1 n = some s → posF (σ 1 (5 * 0 + b)) x.2 n = some t → k76 (nI x.1) (nI x.2) (nI s) (nI t) μ2) → f_X7_exchange_22 (nI b) K k76 (d + 1) (nI p) μ' := by
  intro d
  induction d with
  | zero =>
    intro p μ' hp o hK
    have : p = 8 := by omega
    subst this
    rw [f_X7_exchange_22, if_pos (by decide)]
    exact hK μ' o
  | succ d ih =>
    intro p μ' hp o hK
    rw [f_X7_exchange_22, if_neg (show ¬ (8 : Int32) ≤ nI p from nI_ge (a := p) (b := 8) (by omega) (by omega)), nI_1]
    refine ⟨d + 1, fi_Y hr hb hk h1 h8 (by omega) d (p + 1) μ' (by omega) (by omega) o ?_⟩
    unfold foF at hK
    cases e : fiF (EV σ b k n p) d (p + 1) with
    | none =>
      rw [e] at hK
      exact fun μ2 o2 => ih (p + 1) μ2 (by omega) o2 hK
    | some q =>
      rw [e] at hK
      exact hK
theorem E_exchange (x : Int32) {σ μ : Mm} (h : Rel σ μ) : f_X6_exchange x σ (fun r σ' => f_X7_exchange x μ (fun r' μ' => r' = r ∧ Rel σ' μ')) := by
  obtain ⟨nb, h5, hx, hy, hr⟩ := h.nbx
  unfold f_X6_exchange
  rw [isBench_X hx h5]
  cases e2 : benchB x nb with
  | false =>
    rw [if_neg (by decide)]
    refine E_find0' h (fun r σ' hh => ?_)
    show f_X7_exchange x μ _
    unfold f_X7_exchange
    rw [isBench_Y hy h5, e2, if_neg (by decide)]
    exact hh
  | true =>
    rw [if_pos rfl]
    obtain ⟨b, hb, rfl⟩ := benchB_ex e2 (by omega)
    obtain ⟨k, n, hk, n1, n8, ek, en, fk, fn, z, zz⟩ := hr.ks hb
    have hv : pvs (σ 1 (5 * 0 + b)) n := hr.pvs hb n8
    rw [nI_clamp (by omega)]
    refine ⟨9, fo_X hr hb hk fk fn n1 n8 8 0 σ (by omega) (fun _ _ _ => rfl) ?_⟩
    have Y : ∀ {G : Int32 → Mm → Prop}, (match foF (EV σ b k n) 8 0 with
        | none => ∀ μ2, SV σ μ b k n μ2 → f_X7_finds (-1000004 : Int32) μ2 (fun r4 σ3 => G r4 σ3)
        | some x => ∀ μ2 s t, SV σ μ b k n μ2 → posF (σ 1 (5 * 0 + b)) x.1 n = some s → posF (σ 1 (5 * 0 + b)) x.2 n = some t → f_X7_changes (nI s) (nI t) μ2 (fun σ14 => (f_X7_laysDown (nI b) σ14 (fun σ15 => (G (((10 : Int32) * nI x.1) + nI x.2) σ15))))) → f_X7_exchange (nI b) μ G := by
      intro G hG
      unfold f_X7_exchange
      rw [isBench_Y hy h5, e2, if_pos rfl]
      refine looksAt_Y (by omega) ek en n8 (fun μ' hl => ?_)
      exact ⟨9, fo_Y hr hb hk n1 n8 8 0 μ' (by omega) ⟨hl.sy, hl.1, hl.2.1, fun j hj => by rw [hl.2.2.1 j hj]; exact (z j (by omega)).1⟩ hG⟩
    cases ef : foF (EV σ b k n) 8 0 with
    | none =>
      intro σ2 o2
      refine find_X (w := 3) (by decide) rfl (Y ?_)
      rw [ef]
      exact fun μ2 s2 => find_Y (w := 3) (by decide) (by decide) ⟨rfl, (h.scr (scr15 o2) s2.1.scr).find (by decide)⟩
    | some x =>
      intro σ2 o2 hx1 hx2 hx12 t2
      obtain ⟨s, t, ps, pt, t3, t4, t5⟩ := t2
      obtain ⟨hs, es, fs⟩ := posF_some n ps
      obtain ⟨ht, et, ft⟩ := posF_some n pt
      have hst : s ≠ t := fun e => by
        subst e
        exact hx12 ((nI_eq (by omega) (by omega)).mp (es.symm.trans et))
      refine ⟨vp_in_nI (by omega) (by omega), by omega, become_X (by omega) (by omega) (by omega) (Y ?_)⟩
      rw [ef]
      intro μ2 s' t' sv ps' pt'
      have e1 : s = s' := Option.some.inj (ps.symm.trans ps')
      have e3 : t = t' := Option.some.inj (pt.symm.trans pt')
      subst e1 e3
      refine changes_Y (by omega) (by omega) (fun μ3 c1 c2 c3 => lays_Y (n := n) (by omega) (by rw [c2]; exact sv.2.2.1) n8 (fun μ4 l1 l2 l3 => ⟨rfl, ?_⟩))
      have z1 : SY μ μ3 := sv.1.tr c1
      have z4 : ∀ j, j < n → μ3 5 0 j = swF (σ 1 (5 * 0 + b)) s t j := fun j hj => by rw [c3]; exact swF_congr hs ht hst sv.2.2.2 j hj
      have bo : ∀ t' i, ¬ ((t' = 0 ∨ t' = 1) ∧ i = 5 * 0 + b) → ¬ ((t' = 0 ∨ t' = 1) ∧ i = 15) → bcp σ2 (5 * 0 + b) 15 t' i = σ t' i := fun t' i c1 c2 => by rw [bcp_ne c1, o2 t' i c2]
      have hI : RI (bcp σ2 (5 * 0 + b) 15) 0 (μ4 1 0) nb := by
        refine hr.row (b := b) (n := n) (w := swF (σ 1 (5 * 0 + b)) s t) hb en n8 (swF_pv hs ht hst hv) ?_ ?_ ?_ ?_ ?_ ?_ ?_ ?_ ?_
        · intro j j' hj hj' hne e1
          obtain ⟨i, hi, ei, ii⟩ := swF_src (σ 1 (5 * 0 + b)) s t n hs ht hst j hj
          obtain ⟨i', hi', ei', ii'⟩ := swF_src (σ 1 (5 * 0 + b)) s t n hs ht hst j' hj'
          rw [ei] at hne e1
          rw [ei'] at e1
          rw [← (z i (by omega)).1] at hne e1
          rw [← (z i' (by omega)).1] at e1
          have := (hr.2.2.2.2.2.1 b i b i' hb (by omega) hb (by omega) hne e1).2
          rw [ii, ii'] at this
          by_cases d1 : j = s
          · rw [if_pos d1] at this
            by_cases d2 : j' = s
            · omega
            · rw [if_neg d2] at this
              by_cases d3 : j' = t
              · rw [if_pos d3] at this; omega
              · rw [if_neg d3] at this; omega
          · rw [if_neg d1] at this
            by_cases d0 : j = t
            · rw [if_pos d0] at this
              by_cases d2 : j' = s
              · rw [if_pos d2] at this; omega
              · rw [if_neg d2] at this
                by_cases d3 : j' = t
                · omega
                · rw [if_neg d3] at this; omega
            · rw [if_neg d0] at this
              by_cases d2 : j' = s
              · rw [if_pos d2] at this; omega
              · rw [if_neg d2] at this
                by_cases d3 : j' = t
                · rw [if_pos d3] at this; omega
                · rw [if_neg d3] at this; omega
        · intro j b' s' hj hne hb' hs' hnb e1
          obtain ⟨i, hi, ei, -⟩ := swF_src (σ 1 (5 * 0 + b)) s t n hs ht hst j hj
          rw [ei, ← (z i (by omega)).1] at hne e1
          exact hnb (hr.2.2.2.2.2.1 b i b' s' hb (by omega) hb' hs' hne e1.symm).1.symm
        · intro j hj
          rw [l2 j hj, z1.m]
        · intro j hj
          rw [l1 j hj, z4 j hj]
        · intro t' i c1 c2
          exact bo t' i c1 (by unfold inR at c2; omega)
        · rw [(bcp_0 (σ := σ2) (i := 5 * 0 + b) (j := 15)).1, t3, fk]
        · rw [(bcp_0 (σ := σ2) (i := 5 * 0 + b) (j := 15)).2, t4, fn]
        · intro j hj
          rw [bcp_1 (by omega), t5 j (by omega)]
        · intro j hj hj8
          rw [bcp_1 hj8, t5 j hj8, swF_o (by omega) (by omega), ← (z j hj8).1]
          exact zz j hj hj8
      exact h.out (nb := nb) ⟨fun t' i c1 c2 c3 => bo t' i (by omega) (by omega), fun t' c1 => bo t' 1 (by omega) (by omega), fun t' i c1 => bo t' i (by omega) (by omega), by rw [bo 8 0 (by omega) (by omega)], by rw [bo 9 0 (by omega) (by omega)]⟩ ⟨fun t' c1 => by rw [l3 t' 0 (by omega), z1.1 t' 0 (by omega)], by rw [l3 0 0 (by omega), z1.2 3 (by omega) (by omega)], by rw [l3 0 0 (by omega), z1.2 12 (by omega) (by omega)]⟩ hI
