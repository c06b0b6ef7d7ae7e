/-! PURE: a bench looked at -/
def fX (σ : Mm) (w : Nat) : Mm := mset σ 15 0 w (σ 15 0 w + 1)
def fY (μ : Mm) (w : Nat) : Mm := mset μ 4 0 w (μ 4 0 w + 1)
theorem find_X {w : Nat} (hw : w < 7) {a : Int32} (ha : a = nI w) {σ : Mm} {K : Int32 → Mm → Prop} (hk : K ((-1000001 : Int32) - nI w) (fX σ w)) : f_X6_finding a σ K := by
  subst ha
  have v : vp_in (nI w) 7 := vp_in_nI hw (by omega)
  unfold f_X6_finding
  rw [nI_clamp (by omega)]
  exact ⟨v, v, _, rfl, hk⟩
theorem find_Y {w : Nat} (hw : w < 7) {f : Int32} (hf : f = (-1000001 : Int32) - nI w) {μ : Mm} {K : Int32 → Mm → Prop} (hk : K ((-1000001 : Int32) - nI w) (fY μ w)) : f_X7_finds f μ K := by
  subst hf
  have v : vp_in (nI w) 7 := vp_in_nI hw (by omega)
  unfold f_X7_finds
  rw [lowsub w hw, nI_clamp (by omega)]
  exact ⟨v, v, _, rfl, hk⟩
theorem Rel.find {σ μ : Mm} (h : Rel σ μ) {w : Nat} (hw : w < 7) : Rel (fX σ w) (fY μ w) := by
  obtain ⟨-, -, σ', e, hh⟩ := E_find w hw (nI w) _ rfl rfl h
  unfold f_X7_finds at hh
  rw [lowsub w hw] at hh
  obtain ⟨-, -, μ', e', -, R⟩ := hh
  rw [nI_clamp (by omega)] at e e'
  rw [e, e'] at R
  exact R
/-- the reference has looked at bench b -/
def Look (μ : Mm) (b k n : Nat) (μ' : Mm) : Prop := μ' 0 0 6 = nI k ∧ μ' 0 0 7 = nI n ∧ (∀ s, s < n → μ' 5 0 s = μ 1 0 (78 + 10 * b + s)) ∧ (∀ t i, ¬ ((t = 0 ∨ t = 5) ∧ i = 0) → μ' t i = μ t i) ∧ ∀ j, j ≠ 6 → j ≠ 7 → μ' 0 0 j = μ 0 0 j
theorem Look.scr {μ μ' : Mm} {b k n : Nat} (h : Look μ b k n μ') : ScrY μ μ' := ⟨fun t ht => h.2.2.2.1 t 0 (by omega), h.2.2.2.2 3 (by omega) (by omega), h.2.2.2.2 12 (by omega) (by omega)⟩
theorem Look.m {μ μ' : Mm} {b k n : Nat} (h : Look μ b k n μ') : μ' 1 0 = μ 1 0 := h.2.2.2.1 1 0 (by omega)
theorem looksAt_Y {b k n : Nat} {μ : Mm} {K : Mm → Prop} (hb : b < 5) (ek : μ 1 0 (76 + 10 * b) = nI k) (en : μ 1 0 (77 + 10 * b) = nI n) (h8 : n ≤ 8) (h : ∀ μ', Look μ b k n μ' → K μ') : f_X7_looksAt (nI b) μ K := by
  refine kindOf_Y hb ⟨_, rfl, seatsOf_Y hb ⟨_, rfl, ?_⟩⟩
  rw [mset_ne (by omega), ek, en]
  have main : ∀ (d s : Nat) (ν : Mm), s + d = n → ν 0 0 6 = nI k → ν 0 0 7 = nI n → (∀ q, q < s → ν 5 0 q = μ 1 0 (78 + 10 * b + q)) → (∀ t i, ¬ ((t = 0 ∨ t = 5) ∧ i = 0) → ν t i = μ t i) → (∀ j, j ≠ 6 → j ≠ 7 → ν 0 0 j = μ 0 0 j) → f_X7_looksAt_20 (nI b) K (d + 1) (nI s) ν := by
    intro d
    induction d with
    | zero =>
      intro s ν hs h1 h2 h3 h4 h5
      have : s = n := by omega
      subst this
      rw [f_X7_looksAt_20, h2, if_pos (nI_le (Nat.le_refl s) (by omega))]
      exact h ν ⟨h1, h2, h3, h4, h5⟩
    | succ d ih =>
      intro s ν hs h1 h2 h3 h4 h5
      rw [f_X7_looksAt_20, h2, if_neg (nI_ge (by omega) (by omega)), at_Y hb (by omega), nI_clamp (by omega), nI_clamp (by omega), nI_1]
      refine ⟨vp_in_nI (by omega) (by omega), vp_in_nI (by omega) (by omega), _, rfl, ih (s + 1) _ (by omega) ?_ ?_ (fun q hq => ?_) (fun t i hne => ?_) (fun j a b => ?_)⟩
      · rw [mset_ne (by omega)]; exact h1
      · rw [mset_ne (by omega)]; exact h2
      · rw [mset_ap]
        by_cases e : q = s
        · rw [if_pos ⟨rfl, rfl, e⟩, h4 _ _ (by omega), e]
        · rw [if_neg (by omega)]; exact h3 q (by omega)
      · rw [mset_ne (by omega)]; exact h4 t i hne
      · rw [mset_ne (by omega)]; exact h5 j a b
  refine ⟨n + 1, main n 0 _ (by omega) ?_ ?_ (fun q hq => absurd hq (by omega)) (fun t i hne => ?_) (fun j a b => ?_)⟩
  · rw [mset_ap, if_neg (by omega), mset_ap, if_pos ⟨rfl, rfl, rfl⟩]
  · rw [mset_ap, if_pos ⟨rfl, rfl, rfl⟩]
  · rw [mset_ne (by omega), mset_ne (by omega)]
  · rw [mset_ap, if_neg (by omega), mset_ap, if_neg (by omega)]
theorem RI.pvs {σ : Mm} {r : Nat} {m : Nat → Int32} {nb b n : Nat} (h : RI σ r m nb) (hb : b < nb) (h8 : n ≤ 8) : pvs (σ 1 (5 * r + b)) n := fun s hs => by
  obtain ⟨k, n', -, -, -, -, -, -, -, z, -⟩ := h.ks hb
  rw [← (z s (by omega)).1]; exact (z s (by omega)).2
/-- both sides' bench b holds, or neither's -/
theorem Look.ho {σ μ μ' : Mm} {nb b k n : Nat} (hr : RI σ 0 (μ 1 0) nb) (hb : b < nb) (h1 : 1 ≤ n) (h8 : n ≤ 8) (hl : Look μ b k n μ') : hoB (fun j => μ' 1 0 (4 + j)) (μ' 1 0 0) (fun p => μ' 1 0 (68 + p)) (μ' 1 0 1) (μ' 5 0) k n = hoB (σ 3 0) (σ 2 0 2) (σ 4 0) (σ 2 0 3) (σ 1 (5 * 0 + b)) k n := by
  rw [hl.m, hr.1.1.1, hr.1.1.2.1]
  obtain ⟨k', n', -, -, -, -, -, -, -, z, -⟩ := hr.ks hb
  refine hoB_congr h1 (fun j hj => hr.1.2.1 j hj) (fun p hp => hr.1.2.2.1 p hp) (fun s hs => ?_) (fun s hs => ?_)
  · rw [hl.2.2.1 s hs]; exact (z s (by omega)).2
  · rw [hl.2.2.1 s hs]; exact (z s (by omega)).1
theorem Look.pvs {σ μ μ' : Mm} {nb b k n : Nat} (hr : RI σ 0 (μ 1 0) nb) (hb : b < nb) (h8 : n ≤ 8) (hl : Look μ b k n μ') : pvs (μ' 5 0) n := fun s hs => by
  obtain ⟨k', n', -, -, -, -, -, -, -, z, -⟩ := hr.ks hb
  rw [hl.2.2.1 s hs]; exact (z s (by omega)).2
theorem Look.pp {μ μ' : Mm} {nb b k n : Nat} (hi : Inv (μ 1 0) nb) (hl : Look μ b k n μ') : PP (fun j => μ' 1 0 (4 + j)) (μ' 1 0 0) (fun p => μ' 1 0 (68 + p)) (μ' 1 0 1) := by
  rw [hl.m]; exact hi.pp
theorem m1_find (w : Nat) : ∀ w, w < 7 → (-1000001 : Int32) - nI w < 0 := by decide
/-- how many of the first s seats are taken -/
def cntF (v : Nat → Int32) : Nat → Nat
  | 0 => 0
  | s + 1 => cntF v s + (if v s = -1 then 0 else 1)
theorem cntF_le (v : Nat → Int32) : ∀ s, cntF v s ≤ s := by
  intro s
  induction s with
  | zero => exact Nat.le_refl 0
  | succ s ih => unfold cntF; split <;> omega
theorem cntF_congr {v w : Nat → Int32} : ∀ n, (∀ j, j < n → v j = w j) → cntF v n = cntF w n := by
  intro n
  induction n with
  | zero => intro _; rfl
  | succ n ih => intro h; rw [cntF, cntF, ih (fun j hj => h j (by omega)), h n (by omega)]
theorem many_X {i n : Nat} {σ : Mm} {K : Int32 → Mm → Prop} (hi : i < 17) (en : σ 0 i 1 = nI n) (h8 : n ≤ 8) (h : K (nI (cntF (σ 1 i) n)) σ) : f_X0_howManySit i σ K := by
  have main : ∀ (d s : Nat), s + d = n → f_X0_howManySit_4 i K (d + 1) (nI (cntF (σ 1 i) s)) (nI s) σ := by
    intro d
    induction d with
    | zero =>
      intro s hs
      have : s = n := by omega
      subst this
      rw [f_X0_howManySit_4, en, if_pos (nI_le (Nat.le_refl s) (by omega))]; exact h
    | succ d ih =>
      intro s hs
      have step := ih (s + 1) (by omega)
      rw [f_X0_howManySit_4, en, if_neg (nI_ge (by omega) (by omega)), nI_clamp (by omega), nI_1, nI_1]
      refine ⟨vp_in_nI (by omega) (by omega), ?_⟩
      unfold cntF at step
      by_cases c : σ 1 i s = -1
      · rw [if_pos c]; rw [if_pos c] at step; exact step
      · rw [if_neg c]; rw [if_neg c] at step; exact step
  exact ⟨hi, n + 1, main n 0 (by omega)⟩
theorem sitting_Y {b n : Nat} {μ : Mm} {K : Int32 → Mm → Prop} (hb : b < 5) (en : μ 1 0 (77 + 10 * b) = nI n) (h8 : n ≤ 8) (hv : ∀ s, s < n → pv (μ 1 0 (78 + 10 * b + s))) (h : K (nI (cntF (fun s => μ 1 0 (78 + 10 * b + s)) n)) μ) : f_X7_sitting (nI b) μ K := by
  have main : ∀ (d s : Nat), s + d = n → f_X7_sitting_4 (nI b) K (d + 1) (nI (cntF (fun s => μ 1 0 (78 + 10 * b + s)) s)) (nI s) μ := by
    intro d
    induction d with
    | zero =>
      intro s hs
      have : s = n := by omega
      subst this
      rw [f_X7_sitting_4]
      refine seatsOf_Y hb ?_
      rw [en, if_pos (nI_le (Nat.le_refl s) (by omega))]; exact h
    | succ d ih =>
      intro s hs
      have step := ih (s + 1) (by omega)
      rw [f_X7_sitting_4]
      refine seatsOf_Y hb ?_
      rw [en, if_neg (nI_ge (by omega) (by omega)), at_Y hb (by omega), nI_clamp (by omega), nI_1, nI_1, i32_add0]
      refine ⟨vp_in_nI (by omega) (by omega), ?_⟩
      unfold cntF at step
      have pn := (pv_neg (hv s (by omega))).2
      by_cases c : μ 1 0 (78 + 10 * b + s) = -1
      · rw [if_neg (fun z => pn.mp z c)]; rw [if_pos c] at step; exact step
      · rw [if_pos (pn.mpr c)]; rw [if_neg c] at step; exact step
  exact ⟨n + 1, main n 0 (by omega)⟩
theorem lit_eq (j : Nat) (n : Nat) (hj : j < 2 ^ 31) (hn : n < 2 ^ 31) : (nI j = (OfNat.ofNat n : Int32)) ↔ j = n := nI_eq hj hn
/-- calls on no such bench: the same finding on both sides -/
theorem E_benchOf (a x : Int32) {σ μ : Mm} (h : Rel σ μ) : f_X6_benchOf a x σ (fun r σ' => f_X7_benchOf a x μ (fun r' μ' => r' = r ∧ Rel σ' μ')) := by
  obtain ⟨nb, h5, hx, hy, hr⟩ := h.nbx
  unfold f_X6_benchOf
  rw [isBench_X hx h5]
  cases e : benchB a nb with
  | false =>
    rw [if_neg (by decide)]
    refine E_find0' h (fun r σ' hh => ?_)
    show f_X7_benchOf a x μ _
    unfold f_X7_benchOf
    rw [isBench_Y hy h5, e, if_neg (by decide)]
    exact hh
  | true =>
    rw [if_pos rfl]
    obtain ⟨b, hb, rfl⟩ := benchB_ex e (by omega)
    obtain ⟨k, n, hk, n1, n8, ek, en, fk, fn, z, -⟩ := hr.ks hb
    rw [nI_clamp (show b < 2 ^ 31 by omega)]
    refine ⟨vp_in_nI (by omega) (by omega), by omega, ?_⟩
    have hv := hr.pvs hb n8
    have Y0 : ∀ {G : Int32 → Mm → Prop}, inZ x 0 4 = false → f_X7_finds (-1000001 : Int32) μ G → f_X7_benchOf (nI b) x μ G := by
      intro G e2 hG
      unfold f_X7_benchOf
      rw [isBench_Y hy h5, e, if_pos rfl, in_inZ, show inZ x (0 : Int64).toInt (4 : Int64).toInt = inZ x 0 4 from rfl, e2, if_neg (by decide)]
      exact hG
    have Y1 : ∀ {G : Int32 → Mm → Prop}, inZ x 0 4 = true → (∀ μ', Look μ b k n μ' → (if x = 0 then G (μ' 0 0 6) μ' else if x = (1 : Int32) then G (μ' 0 0 7) μ' else if x = (2 : Int32) then f_X7_sitting (nI b) μ' (fun r13 σ12 => G r13 σ12) else if x = (3 : Int32) then f_X7_listsNow μ' (fun r11 σ10 => G r11 σ10) else f_X7_holdsNow μ' (fun b9 σ8 => if b9 = true then G (1 : Int32) σ8 else G (0 : Int32) σ8))) → f_X7_benchOf (nI b) x μ G := by
      intro G e2 hG
      unfold f_X7_benchOf
      rw [isBench_Y hy h5, e, if_pos rfl, in_inZ, show inZ x (0 : Int64).toInt (4 : Int64).toInt = inZ x 0 4 from rfl, e2, if_pos rfl]
      exact looksAt_Y (by omega) ek en n8 hG
    cases e2 : inZ x 0 4 with
    | false =>
      have ne : ∀ j : Nat, j ≤ 4 → ¬ x = nI j := fun j hj z => by
        have t : inZ x 0 4 = true := by rw [z]; exact inZ_nI (lo := 0) (hi := 4) (by omega) hj (by omega)
        rw [t] at e2
        exact absurd e2 (by decide)
      rw [if_neg (show ¬ x = (0 : Int32) from ne 0 (by omega)), if_neg (show ¬ x = (1 : Int32) from ne 1 (by omega)), if_neg (show ¬ x = (2 : Int32) from ne 2 (by omega)), if_neg (show ¬ x = (3 : Int32) from ne 3 (by omega)), if_neg (show ¬ x = (4 : Int32) from ne 4 (by omega))]
      exact E_find0' h (fun r σ' hh => Y0 e2 hh)
    | true =>
      obtain ⟨j, -, hj, rfl⟩ := inZ_ex (lo := 0) (hi := 4) e2 (by omega)
      have : j = 0 ∨ j = 1 ∨ j = 2 ∨ j = 3 ∨ j = 4 := by omega
      rcases this with rfl | rfl | rfl | rfl | rfl
      · rw [if_pos (by decide)]
        refine Y1 e2 (fun μ' hl => ?_)
        rw [if_pos (by decide)]
        exact ⟨by rw [hl.1, fk], h.scr Scr.rf hl.scr⟩
      · rw [if_neg (by decide), if_pos (by decide)]
        refine Y1 e2 (fun μ' hl => ?_)
        rw [if_neg (by decide), if_pos (by decide)]
        exact ⟨by rw [hl.2.1, fn], h.scr Scr.rf hl.scr⟩
      · rw [if_neg (by decide), if_neg (by decide), if_pos (by decide)]
        refine many_X (by omega) fn n8 (Y1 e2 (fun μ' hl => ?_))
        rw [if_neg (by decide), if_neg (by decide), if_pos (by decide)]
        refine sitting_Y (n := n) (by omega) (by rw [hl.m]; exact en) n8 (fun s hs => by rw [hl.m]; exact (z s (by omega)).2) ⟨?_, h.scr Scr.rf hl.scr⟩
        rw [hl.m]
        congr 1
        exact cntF_congr n (fun s hs => (z s (by omega)).1)
      · rw [if_neg (by decide), if_neg (by decide), if_neg (by decide), if_pos (by decide)]
        refine li_X (by omega) (by omega) fn n8 hv (Y1 e2 (fun μ' hl => ?_))
        rw [if_neg (by decide), if_neg (by decide), if_neg (by decide), if_pos (by decide)]
        have hv' := hl.pvs hr hb n8
        refine li_Y hl.2.1 n8 hv' ⟨?_, h.scr Scr.rf hl.scr⟩
        rw [hl.m]
        have key : ∀ s, s ≤ n → liF (fun p => μ 1 0 (68 + p)) (μ' 5 0) n s = liF (σ 4 0) (σ 1 (5 * 0 + b)) n s := by
          intro s
          induction s with
          | zero => intro _; rfl
          | succ s ih =>
            intro hs
            unfold liF
            have e3 : μ' 5 0 s = σ 1 (5 * 0 + b) s := (hl.2.2.1 s (by omega)).trans (z s (by omega)).1
            rw [ih (by omega), e3]
            by_cases c : σ 1 (5 * 0 + b) s = -1
            · rw [if_pos c, if_pos c]
            · rw [if_neg c, if_neg c]
              obtain ⟨p, hp, ep⟩ := pv_in (hv s (by omega)) c
              rw [ep, nI_clamp (by omega), hr.1.2.2.1 p hp]
        exact key n (Nat.le_refl n)
      · rw [if_neg (by decide), if_neg (by decide), if_neg (by decide), if_neg (by decide), if_pos (by decide)]
        refine holds_X (by omega) (by omega) hk fk fn n1 n8 hv hr.pp ?_
        have fin : ∀ x : Int32, x = b2i (hoB (σ 3 0) (σ 2 0 2) (σ 4 0) (σ 2 0 3) (σ 1 (5 * 0 + b)) k n) → f_X7_benchOf (nI b) (nI 4) μ (fun r' μ' => r' = x ∧ Rel σ μ') := by
          intro x hx
          refine Y1 e2 (fun μ' hl => ?_)
          rw [if_neg (by decide), if_neg (by decide), if_neg (by decide), if_neg (by decide)]
          refine holdsNow_Y hk hl.1 hl.2.1 n1 n8 (hl.pvs hr hb n8) (hl.pp hr.2) ?_
          rw [hl.ho hr hb n1 n8]
          cases e4 : hoB (σ 3 0) (σ 2 0 2) (σ 4 0) (σ 2 0 3) (σ 1 (5 * 0 + b)) k n with
          | true => rw [if_pos rfl]; rw [e4] at hx; exact ⟨by rw [hx]; rfl, h.scr Scr.rf hl.scr⟩
          | false => rw [if_neg (by decide)]; rw [e4] at hx; exact ⟨by rw [hx]; rfl, h.scr Scr.rf hl.scr⟩
        cases e4 : hoB (σ 3 0) (σ 2 0 2) (σ 4 0) (σ 2 0 3) (σ 1 (5 * 0 + b)) k n with
        | true => rw [if_pos rfl]; exact fin 1 (by rw [e4]; rfl)
        | false => rw [if_neg (by decide)]; exact fin 0 (by rw [e4]; rfl)
theorem E_wrong (a : Int32) {σ μ : Mm} (h : Rel σ μ) : f_X6_wrong a σ (fun r σ' => f_X7_wrong a μ (fun r' μ' => r' = r ∧ Rel σ' μ')) := by
  obtain ⟨nb, h5, hx, hy, hr⟩ := h.nbx
  unfold f_X6_wrong
  rw [isBench_X hx h5]
  cases e : benchB a nb with
  | false =>
    rw [if_neg (by decide)]
    refine E_find0' h (fun r σ' hh => ?_)
    show f_X7_wrong a μ _
    unfold f_X7_wrong
    rw [isBench_Y hy h5, e, if_neg (by decide)]
    exact hh
  | true =>
    rw [if_pos rfl]
    obtain ⟨b, hb, rfl⟩ := benchB_ex e (by omega)
    obtain ⟨k, n, hk, n1, n8, ek, en, fk, fn, z, -⟩ := hr.ks hb
    rw [nI_clamp (show b < 2 ^ 31 by omega), fn]
    refine ⟨vp_in_nI (by omega) (by omega), by omega, ?_⟩
    have hv := hr.pvs hb n8
    have hpp := hr.pp
    refine fw_X (a := 0) (b := n) (by omega) (by omega) hk fk fn n1 n8 hv hpp.2.1 (by omega) (Nat.le_refl n) ?_
    rw [Nat.sub_zero]
    have Y : ∀ {G : Int32 → Mm → Prop}, (∀ μ', Look μ b k n μ' → f_X7_orNone (fwF (σ 3 0) (σ 2 0 2) (σ 1 (5 * 0 + b)) k n n 0) μ' (fun r7 σ6 => G r7 σ6)) → f_X7_wrong (nI b) μ G := by
      intro G hG
      unfold f_X7_wrong
      rw [isBench_Y hy h5, e, if_pos rfl]
      refine looksAt_Y (by omega) ek en n8 (fun μ' hl => ?_)
      have hpY := hl.pp hr.2
      refine fw_Y hk hl.1 hl.2.1 n1 n8 (hl.pvs hr hb n8) hpY.1 ?_
      have := hG μ' hl
      have e5 : fwF (fun j => μ' 1 0 (4 + j)) (μ' 1 0 0) (μ' 5 0) k n n 0 = fwF (σ 3 0) (σ 2 0 2) (σ 1 (5 * 0 + b)) k n n 0 := by
        rw [hl.m, hr.1.1.1]
        exact fwF_congr n1 (fun j hj => hr.1.2.1 j hj) (hl.pvs hr hb n8) (fun s hs => (hl.2.2.1 s hs).trans (z s (by omega)).1) n 0 (by omega)
      rw [e5]
      exact this
    rcases fw_neg (B := σ 3 0) (ov := σ 2 0 2) (v := σ 1 (5 * 0 + b)) (k := k) n8 n 0 (by omega) with w | ⟨q, -, q2, w⟩
    · rw [w] at Y ⊢
      rw [if_pos rfl]
      refine find_X (w := 3) (by decide) rfl (Y (fun μ' hl => ?_))
      unfold f_X7_orNone
      rw [if_neg (by decide)]
      exact find_Y (w := 3) (by decide) (by decide) ⟨rfl, (h.scr Scr.rf hl.scr).find (by decide)⟩
    · rw [w] at Y ⊢
      rw [if_neg (nI_ne_m1 (by omega))]
      refine Y (fun μ' hl => ?_)
      unfold f_X7_orNone
      rw [if_pos (nI_pos' (by omega))]
      exact ⟨rfl, h.scr Scr.rf hl.scr⟩
theorem E_beside (a s x : Int32) {σ μ : Mm} (h : Rel σ μ) : f_X6_beside a s x σ (fun r σ' => f_X7_beside a s x μ (fun r' μ' => r' = r ∧ Rel σ' μ')) := by
  obtain ⟨nb, h5, hx, hy, hr⟩ := h.nbx
  unfold f_X6_beside
  have hsz : ∀ b, b < nb → ∃ n, n ≤ 8 ∧ μ 1 0 (77 + 10 * b) = nI n := fun b hb => by
    obtain ⟨k, n, -, -, n8, -, e, -⟩ := hr.ks hb
    exact ⟨n, n8, e⟩
  have cg : seatB a s nb (fun b => σ 0 (5 * 0 + b) 1) = seatB a s nb (fun b => μ 1 0 (77 + 10 * b)) := seatB_congr (by omega) (fun b hb => ((hr.1.2.2.2.1 b hb).2.1).symm)
  refine isSeat_X hx h5 ?_
  rw [cg]
  cases e : seatB a s nb (fun b => μ 1 0 (77 + 10 * b)) with
  | false =>
    rw [if_neg (by decide)]
    exact E_find0' h fun r σ' hf => isSeat_Y hy h5 hsz (by rw [e]; exact hf)
  | true =>
    rw [if_pos rfl]
    obtain ⟨b, t, n, hb, n8, ht, en, rfl, rfl⟩ := seatB_ex e (by omega) hsz
    obtain ⟨k, n', hk, n1, n8', ek, en', fk, fn, z, -⟩ := hr.ks hb
    have en : μ 1 0 (77 + 10 * b) = nI n := en
    have enn : n' = n := (nI_eq (by omega) (by omega)).mp (en'.symm.trans en)
    subst enn
    show (if x < (0 : Int32) then _ else if x ≤ (1 : Int32) then _ else _)
    rw [ite_inZ, nI_clamp (show b < 2 ^ 31 by omega)]
    have e01 : inZ x (0 : Int32).toInt (1 : Int32).toInt = inZ x 0 1 := rfl
    have e01' : inZ x (0 : Int64).toInt (1 : Int64).toInt = inZ x 0 1 := rfl
    rw [e01]
    cases e2 : inZ x 0 1 with
    | false =>
      rw [if_neg (by decide)]
      refine E_find0' h fun r σ' hf => isSeat_Y hy h5 hsz ?_
      rw [e, if_pos rfl, in_inZ, e01', e2, if_neg (by decide)]
      exact hf
    | true =>
      rw [if_pos rfl]
      have hv := hr.pvs hb n8
      refine ⟨vp_in_nI (by omega) (by omega), by omega, ?_⟩
      have Y : ∀ (left : Bool) {G : Int32 → Mm → Prop}, (∀ μ', Look μ b k n' μ' → (if x = 0 then f_X7_besideOf (nI t) (-1 : Int32) μ' (fun r11 σ10 => G r11 σ10) else f_X7_besideOf (nI t) (1 : Int32) μ' (fun r9 σ8 => G r9 σ8))) → f_X7_beside (nI b) (nI t) x μ G := by
        intro left G hG
        refine isSeat_Y hy h5 hsz ?_
        rw [e, if_pos rfl, in_inZ, e01', e2, if_pos rfl]
        exact looksAt_Y (by omega) ek en n8 hG
      have cgn : ∀ (left : Bool) (μ' : Mm), Look μ b k n' μ' → nbK (μ' 5 0) k n' t left = nbK (σ 1 (5 * 0 + b)) k n' t left := fun left μ' hl => nbK_congr n1 ht (fun s hs => (hl.2.2.1 s hs).trans (z s (by omega)).1)
      by_cases c : x = 0
      · rw [if_pos c]
        refine nb_X (left := true) (by omega) hk fk fn n1 n8 ht (Y true (fun μ' hl => ?_))
        rw [if_pos c]
        exact besideOf_Y (left := true) hk hl.1 hl.2.1 n1 n8 ht (hl.pvs hr hb n8) ⟨cgn true μ' hl, h.scr Scr.rf hl.scr⟩
      · rw [if_neg c]
        refine nb_X (left := false) (by omega) hk fk fn n1 n8 ht (Y false (fun μ' hl => ?_))
        rw [if_neg c]
        exact besideOf_Y (left := false) hk hl.1 hl.2.1 n1 n8 ht (hl.pvs hr hb n8) ⟨cgn false μ' hl, h.scr Scr.rf hl.scr⟩
