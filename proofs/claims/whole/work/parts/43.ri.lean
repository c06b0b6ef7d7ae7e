/-! PURE: the rooms' changes, one by one; r: which room of the class -/
def RI (σ : Mm) (r : Nat) (m : Nat → Int32) (nb : Nat) : Prop := RRow σ r m nb ∧ Inv m nb
def Out (σ σ' : Mm) : Prop := (∀ t i, (t = 0 ∨ t = 1) → 5 ≤ i → i < 10 → σ' t i = σ t i) ∧ (∀ t, (t = 2 ∨ t = 3 ∨ t = 4 ∨ t = 5 ∨ t = 7) → σ' t 1 = σ t 1) ∧ (∀ t i, (t = 10 ∨ t = 13 ∨ t = 14 ∨ t = 15 ∨ t = 16) → σ' t i = σ t i) ∧ σ' 8 0 8 = σ 8 0 8 ∧ σ' 9 0 0 = σ 9 0 0
def OutY (μ μ' : Mm) : Prop := (∀ t, (t = 2 ∨ t = 4 ∨ t = 9 ∨ t = 10 ∨ t = 11 ∨ t = 12) → μ' t 0 = μ t 0) ∧ μ' 0 0 3 = μ 0 0 3 ∧ μ' 0 0 12 = μ 0 0 12
theorem Out.rf {σ : Mm} : Out σ σ := ⟨fun _ _ _ _ _ => rfl, fun _ _ => rfl, fun _ _ _ => rfl, rfl, rfl⟩
theorem Out.tr {a b c : Mm} (h : Out a b) (k : Out b c) : Out a c := ⟨fun t i x y z => (k.1 t i x y z).trans (h.1 t i x y z), fun t x => (k.2.1 t x).trans (h.2.1 t x), fun t i x => (k.2.2.1 t i x).trans (h.2.2.1 t i x), k.2.2.2.1.trans h.2.2.2.1, k.2.2.2.2.trans h.2.2.2.2⟩
theorem OutY.rf {σ : Mm} : OutY σ σ := ⟨fun _ _ => rfl, rfl, rfl⟩
theorem OutY.tr {a b c : Mm} (h : OutY a b) (k : OutY b c) : OutY a c := ⟨fun t x => (k.1 t x).trans (h.1 t x), k.2.1.trans h.2.1, k.2.2.trans h.2.2⟩
theorem Out.scr {a b : Mm} (h : Scr a b) : Out a b := ⟨fun t i x _ z => h.1 t i x z, fun t x => h.2.1 t 1 x (by omega), h.2.2.1, h.2.2.2.1, h.2.2.2.2⟩
theorem OutY.scr {a b : Mm} (h : ScrY a b) : OutY a b := ⟨fun t x => h.1 t (Or.inr x), h.2.1, h.2.2⟩
theorem Out.set {σ : Mm} {t i j : Nat} {v : Int32} (h : ((t = 0 ∨ t = 1) ∧ (i < 5 ∨ 10 ≤ i)) ∨ ((t = 2 ∨ t = 3 ∨ t = 4 ∨ t = 5 ∨ t = 7) ∧ (i = 0 ∨ i = 2)) ∨ t = 11 ∨ (t = 8 ∧ j ≠ 8) ∨ (t = 9 ∧ j ≠ 0)) : Out σ (mset σ t i j v) := by
  refine ⟨fun t' i' a b c => mset_ne (by omega), fun t' a => mset_ne (by omega), fun t' i' a => mset_ne (by omega), ?_, ?_⟩
  · rw [mset_ap, if_neg (by omega)]
  · rw [mset_ap, if_neg (by omega)]
theorem OutY.set {μ : Mm} {t i j : Nat} {v : Int32} (h : t = 1 ∨ t = 3 ∨ t = 5 ∨ t = 6 ∨ t = 7 ∨ t = 8 ∨ (t = 0 ∧ j ≠ 3 ∧ j ≠ 12)) : OutY μ (mset μ t i j v) := by
  refine ⟨fun t' a => mset_ne (by omega), ?_, ?_⟩
  · rw [mset_ap, if_neg (by omega)]
  · rw [mset_ap, if_neg (by omega)]
theorem Scr.set {σ : Mm} {t i j : Nat} {v : Int32} (h : ((t = 0 ∨ t = 1) ∧ 10 ≤ i) ∨ ((t = 2 ∨ t = 3 ∨ t = 4 ∨ t = 5 ∨ t = 7) ∧ i = 2) ∨ t = 11 ∨ (t = 8 ∧ j ≠ 8) ∨ (t = 9 ∧ j ≠ 0)) : Scr σ (mset σ t i j v) := by
  refine ⟨fun t' i' a b => mset_ne (by omega), fun t' i' a b => mset_ne (by omega), fun t' i' a => mset_ne (by omega), ?_, ?_⟩
  · rw [mset_ap, if_neg (by omega)]
  · rw [mset_ap, if_neg (by omega)]
theorem ScrY.set {μ : Mm} {t i j : Nat} {v : Int32} (h : t = 3 ∨ t = 5 ∨ t = 6 ∨ t = 7 ∨ t = 8 ∨ (t = 0 ∧ j ≠ 3 ∧ j ≠ 12)) : ScrY μ (mset μ t i j v) := by
  refine ⟨fun t' a => mset_ne (by omega), ?_, ?_⟩
  · rw [mset_ap, if_neg (by omega)]
  · rw [mset_ap, if_neg (by omega)]
theorem Scr.row {σ : Mm} {t i : Nat} {f : Nat → Int32} (h : ((t = 0 ∨ t = 1) ∧ 10 ≤ i) ∨ ((t = 2 ∨ t = 3 ∨ t = 4 ∨ t = 5 ∨ t = 7) ∧ i = 2) ∨ t = 11) : Scr σ (mrow σ t i f) := by
  refine ⟨fun t' i' a b => mrow_ne _ _ (by omega), fun t' i' a b => mrow_ne _ _ (by omega), fun t' i' a => mrow_ne _ _ (by omega), ?_, ?_⟩
  · rw [mrow_ap, if_neg (by omega)]
  · rw [mrow_ap, if_neg (by omega)]
theorem Out.row {σ : Mm} {t i : Nat} {f : Nat → Int32} (h : ((t = 0 ∨ t = 1) ∧ (i < 5 ∨ 10 ≤ i)) ∨ ((t = 2 ∨ t = 3 ∨ t = 4 ∨ t = 5 ∨ t = 7) ∧ (i = 0 ∨ i = 2)) ∨ t = 11) : Out σ (mrow σ t i f) := by
  refine ⟨fun t' i' a b c => mrow_ne _ _ (by omega), fun t' a => mrow_ne _ _ (by omega), fun t' i' a => mrow_ne _ _ (by omega), ?_, ?_⟩
  · rw [mrow_ap, if_neg (by omega)]
  · rw [mrow_ap, if_neg (by omega)]
theorem Rel.out {σ σ' μ μ' : Mm} (h : Rel σ μ) (k : Out σ σ') (k' : OutY μ μ') {nb : Nat} (hr : RI σ' 0 (μ' 1 0) nb) : Rel σ' μ' :=
  h.main nb hr.1 hr.2 k.1 k.2.1 k.2.2.1 k.2.2.2.1 k.2.2.2.2 k'.1 k'.2.1 k'.2.2
theorem Rel.ri {σ μ : Mm} (h : Rel σ μ) : ∃ nb, RI σ 0 (μ 1 0) nb := h.1
theorem upd_ne {f : Nat → Int32} {k j : Nat} {x : Int32} (h : j ≠ k) : upd f k x j = f j := pk_un h
theorem upd_eq {f : Nat → Int32} {k : Nat} {x : Int32} : upd f k x k = x := pk_us
/-- the parts of the invariant hang on these places alone -/
theorem I0.to {m m' : Nat → Int32} {nb : Nat} (h : I0 m nb) (e : ∀ j, j < 4 → j ≠ 2 → m' j = m j) : I0 m' nb := by
  obtain ⟨z1, z2, z3, z4⟩ := h
  exact ⟨z1, by rw [e 3 (by omega) (by omega)]; exact z2, by rw [e 0 (by omega) (by omega)]; exact z3, by rw [e 1 (by omega) (by omega)]; exact z4⟩
theorem IB.to {m m' : Nat → Int32} (h : IB m) (e : ∀ j, 4 ≤ j → j < 68 → m' j = m j) : IB m' := by
  refine ⟨fun a b ha hb => ?_, fun a ha => ?_⟩
  · rw [e _ (by omega) (by omega), e _ (by omega) (by omega)]; exact h.1 a b ha hb
  · rw [e _ (by omega) (by omega)]; exact h.2 a ha
theorem IW.to {m m' : Nat → Int32} (h : IW m) (e : ∀ j, 68 ≤ j → j < 76 → m' j = m j) : IW m' := fun k hk => by rw [e _ (by omega) (by omega)]; exact h k hk
theorem IS.to {m m' : Nat → Int32} {nb : Nat} (h : IS m nb) (hn : nb ≤ 5) (e : ∀ j, 76 ≤ j → j < 126 → m' j = m j) : IS m' nb := by
  intro b hb
  obtain ⟨z1, ⟨n, n1, n2, n3, n4⟩, z3⟩ := h b hb
  exact ⟨by rw [e _ (by omega) (by omega)]; exact z1, ⟨n, n1, n2, by rw [e _ (by omega) (by omega)]; exact n3, fun s h1 h2 => by rw [e _ (by omega) (by omega)]; exact n4 s h1 h2⟩, fun s hs => by rw [e _ (by omega) (by omega)]; exact z3 s hs⟩
theorem IU.to {m m' : Nat → Int32} {nb : Nat} (h : IU m nb) (hn : nb ≤ 5) (e : ∀ j, 76 ≤ j → j < 126 → m' j = m j) : IU m' nb := by
  intro b s b' s' h1 h2 h3 h4
  rw [e _ (by omega) (by omega), e _ (by omega) (by omega)]
  exact h b s b' s' h1 h2 h3 h4
theorem IP.to {m m' : Nat → Int32} {nb : Nat} (h : IP m nb) (e : ∀ j, 126 ≤ j → j < 136 → m' j = m j) : IP m' nb := fun k hk => by rw [e _ (by omega) (by omega)]; exact h k hk
theorem R0.to {σ σ' : Mm} {r : Nat} {m m' : Nat → Int32} (h : R0 σ r m) (e : ∀ j, j < 4 → m' j = m j) (e2 : σ' 2 r = σ 2 r) (e5 : σ' 5 r = σ 5 r) : R0 σ' r m' := by
  obtain ⟨a, b, c, d⟩ := h
  exact ⟨by rw [e _ (by omega), e2]; exact a, by rw [e _ (by omega), e2]; exact b, by rw [e _ (by omega), e5]; exact c, by rw [e _ (by omega), e5]; exact d⟩
theorem RB.to {σ σ' : Mm} {r : Nat} {m m' : Nat → Int32} (h : RB σ r m) (e : ∀ j, 4 ≤ j → j < 68 → m' j = m j) (e3 : σ' 3 r = σ 3 r) : RB σ' r m' := fun k hk => by rw [e _ (by omega) (by omega), e3]; exact h k hk
theorem RW.to {σ σ' : Mm} {r : Nat} {m m' : Nat → Int32} (h : RW σ r m) (e : ∀ j, 68 ≤ j → j < 76 → m' j = m j) (e3 : σ' 4 r = σ 4 r) : RW σ' r m' := fun k hk => by rw [e _ (by omega) (by omega), e3]; exact h k hk
theorem RS.to {σ σ' : Mm} {r : Nat} {m m' : Nat → Int32} {nb : Nat} (h : RS σ r m nb) (hn : nb ≤ 5) (e : ∀ j, 76 ≤ j → j < 126 → m' j = m j) (e0 : ∀ b, b < 5 → σ' 0 (5 * r + b) = σ 0 (5 * r + b)) (e1 : ∀ b, b < 5 → σ' 1 (5 * r + b) = σ 1 (5 * r + b)) : RS σ' r m' nb := by
  intro b hb
  obtain ⟨z1, z2, z3⟩ := h b hb
  exact ⟨by rw [e _ (by omega) (by omega), e0 b (by omega)]; exact z1, by rw [e _ (by omega) (by omega), e0 b (by omega)]; exact z2, fun s hs => by rw [e _ (by omega) (by omega), e1 b (by omega)]; exact z3 s hs⟩
theorem RP.to {σ σ' : Mm} {r : Nat} {m m' : Nat → Int32} (h : RP σ r m) (e : ∀ j, 126 ≤ j → j < 136 → m' j = m j) (e3 : σ' 7 r = σ 7 r) : RP σ' r m' := fun k hk => by rw [e _ (by omega) (by omega), e3]; exact h k hk
theorem RI.scr {σ σ' : Mm} {r : Nat} {m : Nat → Int32} {nb : Nat} (h : RI σ r m nb) (hr : r < 2) (k : Scr σ σ') : RI σ' r m nb := ⟨h.1.scr hr h.2.nb k, h.2⟩
theorem RI.weight {σ : Mm} {r : Nat} {m : Nat → Int32} {nb : Nat} (h : RI σ r m nb) {p w : Nat} (hp : p < 8) (h1 : 1 ≤ w) (h2 : w ≤ 99) : RI (mset σ 4 r p (nI w)) r (upd m (68 + p) (nI w)) nb := by
  obtain ⟨⟨a0, aB, aW, aS, aP⟩, i0, iB, iW, iS, iU, iP⟩ := h
  refine ⟨⟨a0.to (fun j hj => upd_ne (by omega)) (mset_ne (by omega)) (mset_ne (by omega)), aB.to (fun j _ _ => upd_ne (by omega)) (mset_ne (by omega)), fun k hk => ?_, aS.to i0.1 (fun j _ _ => upd_ne (by omega)) (fun b _ => mset_ne (by omega)) (fun b _ => mset_ne (by omega)), aP.to (fun j _ _ => upd_ne (by omega)) (mset_ne (by omega))⟩, i0.to (fun j hj _ => upd_ne (by omega)), iB.to (fun j _ _ => upd_ne (by omega)), fun k hk => ?_, iS.to i0.1 (fun j _ _ => upd_ne (by omega)), iU.to i0.1 (fun j _ _ => upd_ne (by omega)), iP.to (fun j _ _ => upd_ne (by omega))⟩
  · rw [mset_ap]
    by_cases e : k = p
    · subst e; rw [upd_eq]; simp
    · rw [upd_ne (by omega), if_neg (by omega)]; exact aW k hk
  · by_cases e : k = p
    · subst e; rw [upd_eq]; exact ⟨w, h1, h2, rfl⟩
    · rw [upd_ne (by omega)]; exact iW k hk
theorem RI.over {σ : Mm} {r : Nat} {m : Nat → Int32} {nb : Nat} (h : RI σ r m nb) (b : Bool) : RI (mset σ 2 r 2 (b2i b)) r (upd m 0 (b2i b)) nb := by
  obtain ⟨⟨⟨z1, z2, z3, z4⟩, aB, aW, aS, aP⟩, ⟨y1, y2, y3, y4⟩, iB, iW, iS, iU, iP⟩ := h
  refine ⟨⟨⟨?_, ?_, ?_, ?_⟩, aB.to (fun j _ _ => upd_ne (by omega)) (mset_ne (by omega)), aW.to (fun j _ _ => upd_ne (by omega)) (mset_ne (by omega)), aS.to y1 (fun j _ _ => upd_ne (by omega)) (fun b _ => mset_ne (by omega)) (fun b _ => mset_ne (by omega)), aP.to (fun j _ _ => upd_ne (by omega)) (mset_ne (by omega))⟩, ⟨y1, ?_, ?_, ?_⟩, iB.to (fun j _ _ => upd_ne (by omega)), iW.to (fun j _ _ => upd_ne (by omega)), iS.to y1 (fun j _ _ => upd_ne (by omega)), iU.to y1 (fun j _ _ => upd_ne (by omega)), iP.to (fun j _ _ => upd_ne (by omega))⟩
  · rw [upd_eq, mset_ap]; simp
  · rw [upd_ne (by omega), mset_ap, if_neg (by omega)]; exact z2
  · rw [upd_ne (by omega), mset_ap, if_neg (by omega)]; exact z3
  · rw [upd_ne (by omega), mset_ap, if_neg (by omega)]; exact z4
  · rw [upd_ne (by omega)]; exact y2
  · rw [upd_eq]; exact ⟨b, rfl⟩
  · rw [upd_ne (by omega)]; exact y4
theorem RI.held {σ : Mm} {r : Nat} {m : Nat → Int32} {nb : Nat} (h : RI σ r m nb) {x : Nat} (hx : x ≤ 999) : RI (mset σ 2 r 3 (nI x)) r (upd m 1 (nI x)) nb := by
  obtain ⟨⟨⟨z1, z2, z3, z4⟩, aB, aW, aS, aP⟩, ⟨y1, y2, y3, y4⟩, iB, iW, iS, iU, iP⟩ := h
  refine ⟨⟨⟨?_, ?_, ?_, ?_⟩, aB.to (fun j _ _ => upd_ne (by omega)) (mset_ne (by omega)), aW.to (fun j _ _ => upd_ne (by omega)) (mset_ne (by omega)), aS.to y1 (fun j _ _ => upd_ne (by omega)) (fun b _ => mset_ne (by omega)) (fun b _ => mset_ne (by omega)), aP.to (fun j _ _ => upd_ne (by omega)) (mset_ne (by omega))⟩, ⟨y1, ?_, ?_, ?_⟩, iB.to (fun j _ _ => upd_ne (by omega)), iW.to (fun j _ _ => upd_ne (by omega)), iS.to y1 (fun j _ _ => upd_ne (by omega)), iU.to y1 (fun j _ _ => upd_ne (by omega)), iP.to (fun j _ _ => upd_ne (by omega))⟩
  · rw [upd_ne (by omega), mset_ap, if_neg (by omega)]; exact z1
  · rw [upd_eq, mset_ap]; simp
  · rw [upd_ne (by omega), mset_ap, if_neg (by omega)]; exact z3
  · rw [upd_ne (by omega), mset_ap, if_neg (by omega)]; exact z4
  · rw [upd_ne (by omega)]; exact y2
  · rw [upd_ne (by omega)]; exact y3
  · rw [upd_eq]; exact ⟨x, hx, rfl⟩
theorem RI.zed {σ : Mm} {r : Nat} {m : Nat → Int32} {nb : Nat} (h : RI σ r m nb) (x : Int32) : RI (mset σ 5 r 4 x) r (upd m 2 x) nb := by
  obtain ⟨⟨⟨z1, z2, z3, z4⟩, aB, aW, aS, aP⟩, i0, iB, iW, iS, iU, iP⟩ := h
  refine ⟨⟨⟨?_, ?_, ?_, ?_⟩, aB.to (fun j _ _ => upd_ne (by omega)) (mset_ne (by omega)), aW.to (fun j _ _ => upd_ne (by omega)) (mset_ne (by omega)), aS.to i0.1 (fun j _ _ => upd_ne (by omega)) (fun b _ => mset_ne (by omega)) (fun b _ => mset_ne (by omega)), aP.to (fun j _ _ => upd_ne (by omega)) (mset_ne (by omega))⟩, i0.to (fun j _ _ => upd_ne (by omega)), iB.to (fun j _ _ => upd_ne (by omega)), iW.to (fun j _ _ => upd_ne (by omega)), iS.to i0.1 (fun j _ _ => upd_ne (by omega)), iU.to i0.1 (fun j _ _ => upd_ne (by omega)), iP.to (fun j _ _ => upd_ne (by omega))⟩
  · rw [upd_ne (by omega), mset_ap, if_neg (by omega)]; exact z1
  · rw [upd_ne (by omega), mset_ap, if_neg (by omega)]; exact z2
  · rw [upd_eq, mset_ap]; simp
  · rw [upd_ne (by omega), mset_ap, if_neg (by omega)]; exact z4
theorem RI.spot {σ : Mm} {r : Nat} {m : Nat → Int32} {nb : Nat} (h : RI σ r m nb) {k : Nat} (hk : k < 10) {x : Int32} (hx : x = -1 ∨ ∃ b, b < nb ∧ x = nI b) : RI (mset σ 7 r k x) r (upd m (126 + k) x) nb := by
  obtain ⟨⟨a0, aB, aW, aS, aP⟩, i0, iB, iW, iS, iU, iP⟩ := h
  refine ⟨⟨a0.to (fun j hj => upd_ne (by omega)) (mset_ne (by omega)) (mset_ne (by omega)), aB.to (fun j _ _ => upd_ne (by omega)) (mset_ne (by omega)), aW.to (fun j _ _ => upd_ne (by omega)) (mset_ne (by omega)), aS.to i0.1 (fun j _ _ => upd_ne (by omega)) (fun b _ => mset_ne (by omega)) (fun b _ => mset_ne (by omega)), fun q hq => ?_⟩, i0.to (fun j hj _ => upd_ne (by omega)), iB.to (fun j _ _ => upd_ne (by omega)), iW.to (fun j _ _ => upd_ne (by omega)), iS.to i0.1 (fun j _ _ => upd_ne (by omega)), iU.to i0.1 (fun j _ _ => upd_ne (by omega)), fun q hq => ?_⟩
  · rw [mset_ap]
    by_cases e : q = k
    · subst e; rw [upd_eq]; simp
    · rw [upd_ne (by omega), if_neg (by omega)]; exact aP q hq
  · by_cases e : q = k
    · subst e; rw [upd_eq]; exact hx
    · rw [upd_ne (by omega)]; exact iP q hq
theorem RI.kind {σ : Mm} {r : Nat} {m : Nat → Int32} {nb : Nat} (h : RI σ r m nb) {b k : Nat} (hb : b < nb) (hk : k < 7) : RI (mset σ 0 (5 * r + b) 0 (nI k)) r (upd m (76 + 10 * b) (nI k)) nb := by
  obtain ⟨⟨a0, aB, aW, aS, aP⟩, i0, iB, iW, iS, iU, iP⟩ := h
  have hn := i0.1
  refine ⟨⟨a0.to (fun j hj => upd_ne (by omega)) (mset_ne (by omega)) (mset_ne (by omega)), aB.to (fun j _ _ => upd_ne (by omega)) (mset_ne (by omega)), aW.to (fun j _ _ => upd_ne (by omega)) (mset_ne (by omega)), fun q hq => ?_, aP.to (fun j _ _ => upd_ne (by omega)) (mset_ne (by omega))⟩, i0.to (fun j hj _ => upd_ne (by omega)), iB.to (fun j _ _ => upd_ne (by omega)), iW.to (fun j _ _ => upd_ne (by omega)), fun q hq => ?_, fun b1 s1 b2 s2 c1 c2 c3 c4 => ?_, iP.to (fun j _ _ => upd_ne (by omega))⟩
  · obtain ⟨z1, z2, z3⟩ := aS q hq
    refine ⟨?_, ?_, fun s hs => ?_⟩
    · by_cases e : q = b
      · subst e; rw [upd_eq, mset_ap]; simp
      · rw [upd_ne (by omega), mset_ap, if_neg (by omega)]; exact z1
    · rw [upd_ne (by omega), mset_ap, if_neg (by omega)]; exact z2
    · rw [upd_ne (by omega), mset_ap, if_neg (by omega)]; exact z3 s hs
  · obtain ⟨z1, ⟨n, n1, n2, n3, n4⟩, z3⟩ := iS q hq
    refine ⟨?_, ⟨n, n1, n2, by rw [upd_ne (by omega)]; exact n3, fun s h1 h2 => by rw [upd_ne (by omega)]; exact n4 s h1 h2⟩, fun s hs => by rw [upd_ne (by omega)]; exact z3 s hs⟩
    by_cases e : q = b
    · subst e; rw [upd_eq]; exact ⟨k, hk, rfl⟩
    · rw [upd_ne (by omega)]; exact z1
  · rw [upd_ne (by omega), upd_ne (by omega)]; exact iU b1 s1 b2 s2 c1 c2 c3 c4
/-- a seat gets a new sitter: nobody, or one who sits nowhere else -/
theorem RI.seat {σ : Mm} {r : Nat} {m : Nat → Int32} {nb : Nat} (h : RI σ r m nb) {b s n : Nat} (hb : b < nb) (hn : m (77 + 10 * b) = nI n) (hn8 : n ≤ 8) (hs : s < n) {x : Int32} (hx : pv x) (hu : x = -1 ∨ ∀ b' s', b' < nb → s' < 8 → m (78 + 10 * b' + s') = x → b' = b ∧ s' = s) : RI (mset σ 1 (5 * r + b) s x) r (upd m (78 + 10 * b + s) x) nb := by
  obtain ⟨⟨a0, aB, aW, aS, aP⟩, i0, iB, iW, iS, iU, iP⟩ := h
  have h5 := i0.1
  refine ⟨⟨a0.to (fun j hj => upd_ne (by omega)) (mset_ne (by omega)) (mset_ne (by omega)), aB.to (fun j _ _ => upd_ne (by omega)) (mset_ne (by omega)), aW.to (fun j _ _ => upd_ne (by omega)) (mset_ne (by omega)), fun q hq => ?_, aP.to (fun j _ _ => upd_ne (by omega)) (mset_ne (by omega))⟩, i0.to (fun j hj _ => upd_ne (by omega)), iB.to (fun j _ _ => upd_ne (by omega)), iW.to (fun j _ _ => upd_ne (by omega)), fun q hq => ?_, fun b1 s1 b2 s2 c1 c2 c3 c4 => ?_, iP.to (fun j _ _ => upd_ne (by omega))⟩
  · obtain ⟨z1, z2, z3⟩ := aS q hq
    refine ⟨?_, ?_, fun s' hs' => ?_⟩
    · rw [upd_ne (by omega), mset_ap, if_neg (by omega)]; exact z1
    · rw [upd_ne (by omega), mset_ap, if_neg (by omega)]; exact z2
    · by_cases e : q = b ∧ s' = s
      · obtain ⟨rfl, rfl⟩ := e; rw [upd_eq, mset_ap]; simp
      · rw [upd_ne (by omega), mset_ap, if_neg (by omega)]; exact z3 s' hs'
  · obtain ⟨z1, ⟨n', n1, n2, n3, n4⟩, z3⟩ := iS q hq
    have hne : ∀ s', n' ≤ s' → s' < 8 → 78 + 10 * q + s' ≠ 78 + 10 * b + s := by
      intro s' g1 g2 e
      have eq : q = b := by omega
      subst eq
      rw [hn] at n3
      have := (nI_eq (by omega) (by omega)).mp n3
      omega
    refine ⟨by rw [upd_ne (by omega)]; exact z1, ⟨n', n1, n2, by rw [upd_ne (by omega)]; exact n3, fun s' h1 h2 => by rw [upd_ne (hne s' h1 h2)]; exact n4 s' h1 h2⟩, fun s' hs' => ?_⟩
    by_cases e : q = b ∧ s' = s
    · obtain ⟨rfl, rfl⟩ := e; rw [upd_eq]; exact hx
    · rw [upd_ne (by omega)]; exact z3 s' hs'
  · by_cases e1 : b1 = b ∧ s1 = s
    · obtain ⟨rfl, rfl⟩ := e1
      rw [upd_eq]
      by_cases e2 : b2 = b1 ∧ s2 = s1
      · intro _ _; exact ⟨e2.1.symm, e2.2.symm⟩
      · rw [upd_ne (by omega)]
        intro g1 g2
        rcases hu with hu | hu
        · exact absurd hu g1
        · have := hu b2 s2 c3 c4 g2.symm
          exact ⟨this.1.symm, this.2.symm⟩
    · rw [upd_ne (by omega)]
      by_cases e2 : b2 = b ∧ s2 = s
      · obtain ⟨rfl, rfl⟩ := e2
        rw [upd_eq]
        intro g1 g2
        rcases hu with hu | hu
        · exact absurd (g2.trans hu) g1
        · exact hu b1 s1 c1 c2 g2
      · rw [upd_ne (by omega)]; exact iU b1 s1 b2 s2 c1 c2 c3 c4
/-- a new bench -/
theorem RI.bench {σ σ' : Mm} {r : Nat} {m m' : Nat → Int32} {nb k n : Nat} (h : RI σ r m nb) (hnb : nb < 5) (hk : k < 7) (h1 : 1 ≤ n) (h8 : n ≤ 8)
    (em : ∀ j, j ≠ 3 → ¬ (76 + 10 * nb ≤ j ∧ j < 86 + 10 * nb) → m' j = m j) (em3 : m' 3 = nI (nb + 1)) (emk : m' (76 + 10 * nb) = nI k) (emn : m' (77 + 10 * nb) = nI n) (ems : ∀ s, s < 8 → m' (78 + 10 * nb + s) = -1)
    (e2 : σ' 2 r = σ 2 r) (e3 : σ' 3 r = σ 3 r) (e4 : σ' 4 r = σ 4 r) (e7 : σ' 7 r = σ 7 r) (e52 : σ' 5 r 2 = nI (nb + 1)) (e54 : σ' 5 r 4 = σ 5 r 4)
    (e0 : ∀ b, b < nb → σ' 0 (5 * r + b) = σ 0 (5 * r + b)) (e1 : ∀ b, b < nb → σ' 1 (5 * r + b) = σ 1 (5 * r + b)) (ek : σ' 0 (5 * r + nb) 0 = nI k) (en : σ' 0 (5 * r + nb) 1 = nI n) (es : ∀ s, s < 8 → σ' 1 (5 * r + nb) s = -1) : RI σ' r m' (nb + 1) := by
  obtain ⟨⟨⟨z1, z2, z3, z4⟩, aB, aW, aS, aP⟩, i0, iB, iW, iS, iU, iP⟩ := h
  have old : ∀ b s, b < nb + 1 → ¬ b = nb → s < 8 → m' (78 + 10 * b + s) = m (78 + 10 * b + s) := fun b s hb hne hs => em _ (by omega) (by omega)
  refine ⟨⟨⟨?_, ?_, ?_, ?_⟩, aB.to (fun j _ _ => em _ (by omega) (by omega)) e3, aW.to (fun j _ _ => em _ (by omega) (by omega)) e4, fun q hq => ?_, aP.to (fun j _ _ => em _ (by omega) (by omega)) e7⟩, ⟨by omega, em3, ?_, ?_⟩, iB.to (fun j _ _ => em _ (by omega) (by omega)), iW.to (fun j _ _ => em _ (by omega) (by omega)), fun q hq => ?_, fun b1 s1 b2 s2 c1 c2 c3 c4 => ?_, fun q hq => ?_⟩
  · rw [em 0 (by omega) (by omega), e2]; exact z1
  · rw [em 1 (by omega) (by omega), e2]; exact z2
  · rw [em 2 (by omega) (by omega), e54]; exact z3
  · rw [em3, e52]
  · by_cases e : q = nb
    · subst e; exact ⟨by rw [emk, ek], by rw [emn, en], fun s hs => by rw [ems s hs, es s hs]⟩
    · obtain ⟨y1, y2, y3⟩ := aS q (by omega)
      exact ⟨by rw [em _ (by omega) (by omega), e0 q (by omega)]; exact y1, by rw [em _ (by omega) (by omega), e0 q (by omega)]; exact y2, fun s hs => by rw [em _ (by omega) (by omega), e1 q (by omega)]; exact y3 s hs⟩
  · rw [em 0 (by omega) (by omega)]; exact i0.2.2.1
  · rw [em 1 (by omega) (by omega)]; exact i0.2.2.2
  · by_cases e : q = nb
    · subst e; exact ⟨⟨k, hk, emk⟩, ⟨n, h1, h8, emn, fun s _ hs => ems s hs⟩, fun s hs => Or.inl (ems s hs)⟩
    · obtain ⟨y1, ⟨n', n1, n2, n3, n4⟩, y3⟩ := iS q (by omega)
      exact ⟨by rw [em _ (by omega) (by omega)]; exact y1, ⟨n', n1, n2, by rw [em _ (by omega) (by omega)]; exact n3, fun s h1 h2 => by rw [em _ (by omega) (by omega)]; exact n4 s h1 h2⟩, fun s hs => by rw [em _ (by omega) (by omega)]; exact y3 s hs⟩
  · intro g1 g2
    by_cases e1 : b1 = nb
    · subst e1; exact absurd (ems s1 c2) g1
    · by_cases e2 : b2 = nb
      · subst e2; rw [ems s2 c4] at g2; exact absurd g2 g1
      · rw [old b1 s1 c1 e1 c2] at g1 g2
        rw [old b2 s2 c3 e2 c4] at g2
        exact iU b1 s1 b2 s2 (by omega) c2 (by omega) c4 g1 g2
  · rw [em _ (by omega) (by omega)]
    rcases iP q hq with g | ⟨b, g1, g2⟩
    · exact Or.inl g
    · exact Or.inr ⟨b, by omega, g2⟩
/-- a pair's bond, both ways -/
theorem RI.tie {σ : Mm} {r : Nat} {m : Nat → Int32} {nb : Nat} (h : RI σ r m nb) {p q x : Nat} (hp : p < 8) (hq : q < 8) (hne : p ≠ q) (hx : x ≤ 2) : RI (mset (mset σ 3 r (8 * p + q) (nI x)) 3 r (8 * q + p) (nI x)) r (upd (upd m (4 + 8 * p + q) (nI x)) (4 + 8 * q + p) (nI x)) nb := by
  obtain ⟨⟨a0, aB, aW, aS, aP⟩, i0, iB, iW, iS, iU, iP⟩ := h
  have key : ∀ a b, a < 8 → b < 8 → upd (upd m (4 + 8 * p + q) (nI x)) (4 + 8 * q + p) (nI x) (4 + 8 * a + b) = if (a = p ∧ b = q) ∨ (a = q ∧ b = p) then nI x else m (4 + 8 * a + b) := by
    intro a b ha hb
    by_cases e1 : a = q ∧ b = p
    · obtain ⟨rfl, rfl⟩ := e1; rw [upd_eq, if_pos (Or.inr ⟨rfl, rfl⟩)]
    · rw [upd_ne (by omega)]
      by_cases e2 : a = p ∧ b = q
      · obtain ⟨rfl, rfl⟩ := e2; rw [upd_eq, if_pos (Or.inl ⟨rfl, rfl⟩)]
      · rw [upd_ne (by omega), if_neg (by omega)]
  have oth : ∀ j, (j < 4 ∨ 68 ≤ j) → upd (upd m (4 + 8 * p + q) (nI x)) (4 + 8 * q + p) (nI x) j = m j := fun j hj => by rw [upd_ne (by omega), upd_ne (by omega)]
  have so : ∀ t i, ¬ (t = 3 ∧ i = r) → mset (mset σ 3 r (8 * p + q) (nI x)) 3 r (8 * q + p) (nI x) t i = σ t i := fun t i e => by rw [mset_ne e, mset_ne e]
  refine ⟨⟨a0.to (fun j hj => oth j (by omega)) (so _ _ (by omega)) (so _ _ (by omega)), fun k hk => ?_, aW.to (fun j _ _ => oth j (by omega)) (so _ _ (by omega)), aS.to i0.1 (fun j _ _ => oth j (by omega)) (fun b _ => so _ _ (by omega)) (fun b _ => so _ _ (by omega)), aP.to (fun j _ _ => oth j (by omega)) (so _ _ (by omega))⟩, i0.to (fun j _ _ => oth j (by omega)), ⟨fun a b ha hb => ⟨?_, ?_⟩, fun a ha => ?_⟩, iW.to (fun j _ _ => oth j (by omega)), iS.to i0.1 (fun j _ _ => oth j (by omega)), iU.to i0.1 (fun j _ _ => oth j (by omega)), iP.to (fun j _ _ => oth j (by omega))⟩
  · rw [mset_ap, mset_ap]
    simp only [true_and]
    by_cases e1 : k = 8 * q + p
    · rw [show 4 + k = 4 + 8 * q + p by omega, upd_eq, if_pos e1]
    · by_cases e2 : k = 8 * p + q
      · rw [if_neg e1, if_pos e2, upd_ne (by omega), show 4 + k = 4 + 8 * p + q by omega, upd_eq]
      · rw [if_neg e1, if_neg e2, upd_ne (by omega), upd_ne (by omega)]; exact aB k hk
  · rw [key a b ha hb]
    split
    · exact ⟨x, hx, rfl⟩
    · exact (iB.1 a b ha hb).1
  · rw [key a b ha hb, key b a hb ha]
    by_cases e : (a = p ∧ b = q) ∨ (a = q ∧ b = p)
    · rw [if_pos e, if_pos (by omega)]
    · rw [if_neg e, if_neg (by omega)]; exact (iB.1 a b ha hb).2
  · rw [key a a ha ha, if_neg (by omega)]; exact iB.2 a ha
