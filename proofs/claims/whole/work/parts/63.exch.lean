/-! PURE: exchange -/
def swF (v : Nat → Int32) (s t : Nat) : Nat → Int32 := upd (upd v s (v t)) t (v s)
theorem swF_s {v : Nat → Int32} {s t : Nat} (h : s ≠ t) : swF v s t s = v t := by unfold swF; rw [upd_ne h, upd_eq]
theorem swF_t {v : Nat → Int32} {s t : Nat} : swF v s t t = v s := by unfold swF; rw [upd_eq]
theorem swF_o {v : Nat → Int32} {s t j : Nat} (h1 : j ≠ s) (h2 : j ≠ t) : swF v s t j = v j := by unfold swF; rw [upd_ne h2, upd_ne h1]
theorem swF_src (v : Nat → Int32) (s t n : Nat) (hs : s < n) (ht : t < n) (hne : s ≠ t) (j : Nat) (hj : j < n) : ∃ i, i < n ∧ swF v s t j = v i ∧ i = (if j = s then t else if j = t then s else j) := by
  by_cases c1 : j = s
  · subst c1; exact ⟨t, ht, swF_s hne, by rw [if_pos rfl]⟩
  · by_cases c2 : j = t
    · subst c2; exact ⟨s, hs, swF_t, by rw [if_neg c1, if_pos rfl]⟩
    · exact ⟨j, hj, swF_o c1 c2, by rw [if_neg c1, if_neg c2]⟩
theorem swF_congr {v v' : Nat → Int32} {s t n : Nat} (hs : s < n) (ht : t < n) (hne : s ≠ t) (e : ∀ j, j < n → v j = v' j) : ∀ j, j < n → swF v s t j = swF v' s t j := by
  intro j hj
  by_cases c1 : j = s
  · subst c1; rw [swF_s hne, swF_s hne]; exact e t ht
  · by_cases c2 : j = t
    · subst c2; rw [swF_t, swF_t]; exact e s hs
    · rw [swF_o c1 c2, swF_o c1 c2]; exact e j hj
theorem swF_sw {v : Nat → Int32} {s t : Nat} (hne : s ≠ t) (j : Nat) : swF (swF v s t) s t j = v j := by
  by_cases c1 : j = s
  · subst c1; rw [swF_s hne, swF_t]
  · by_cases c2 : j = t
    · subst c2; rw [swF_t, swF_s hne]
    · rw [swF_o c1 c2, swF_o c1 c2]
theorem swF_pv {v : Nat → Int32} {s t n : Nat} (hs : s < n) (ht : t < n) (hne : s ≠ t) (hv : pvs v n) : pvs (swF v s t) n := by
  intro j hj
  obtain ⟨i, hi, e, -⟩ := swF_src v s t n hs ht hne j hj
  rw [e]; exact hv i hi
/-- where on a bench one sits -/
def posF (v : Nat → Int32) (p : Nat) : Nat → Option Nat
  | 0 => none
  | k + 1 => match posF v p k with
    | some s => some s
    | none => if v k = nI p then some k else none
theorem posF_some {v : Nat → Int32} {p s : Nat} : ∀ n, posF v p n = some s → s < n ∧ v s = nI p ∧ ∀ q, q < s → ¬ v q = nI p := by
  have both : ∀ n, (∀ s, posF v p n = some s → s < n ∧ v s = nI p ∧ ∀ q, q < s → ¬ v q = nI p) ∧ (posF v p n = none → ∀ q, q < n → ¬ v q = nI p) := by
    intro n
    induction n with
    | zero => exact ⟨fun s h => by simp [posF] at h, fun _ q h => by omega⟩
    | succ n ih =>
      unfold posF
      cases e : posF v p n with
      | some x =>
        refine ⟨fun s h => ?_, fun h => by simp at h⟩
        have := Option.some.inj h
        subst this
        obtain ⟨a, b, c⟩ := ih.1 x e
        exact ⟨by omega, b, c⟩
      | none =>
        have un := ih.2 e
        dsimp only
        by_cases c : v n = nI p
        · rw [if_pos c]
          refine ⟨fun s h => ?_, fun h => by simp at h⟩
          have := Option.some.inj h
          subst this
          exact ⟨by omega, c, un⟩
        · rw [if_neg c]
          refine ⟨fun s h => by simp at h, fun _ q hq => ?_⟩
          by_cases d : q = n
          · subst d; exact c
          · exact un q (by omega)
  intro n h
  exact (both n).1 s h
theorem posF_none {v : Nat → Int32} {p : Nat} : ∀ n, posF v p n = none → ∀ q, q < n → ¬ v q = nI p := by
  intro n
  induction n with
  | zero => intro _ q h; omega
  | succ n ih =>
    intro h q hq
    unfold posF at h
    cases e : posF v p n with
    | some x => rw [e] at h; simp at h
    | none =>
      rw [e] at h
      dsimp only at h
      by_cases c : v n = nI p
      · rw [if_pos c] at h; simp at h
      · by_cases d : q = n
        · subst d; exact c
        · exact ih e q (by omega)
def exB (B : Nat → Int32) (ov : Int32) (w : Nat → Int32) (h : Int32) (v : Nat → Int32) (k n p q s t : Nat) : Bool := !decide (gnF B (swF v s t) n t p ≤ gnF B v n s p) && (!decide (gnF B (swF v s t) n s q ≤ gnF B v n t q) && hoB B ov w h (swF v s t) k n)
def exE (B : Nat → Int32) (ov : Int32) (w : Nat → Int32) (h : Int32) (v : Nat → Int32) (k n p q : Nat) : Bool := match posF v p n, posF v q n with
  | some s, some t => exB B ov w h v k n p q s t
  | _, _ => false
def fiF (E : Nat → Bool) : Nat → Nat → Option Nat
  | 0, _ => none
  | d + 1, q => if E q = true then some q else fiF E d (q + 1)
def foF (E : Nat → Nat → Bool) : Nat → Nat → Option (Nat × Nat)
  | 0, _ => none
  | d + 1, p => match fiF (E p) d (p + 1) with
    | some q => some (p, q)
    | none => foF E d (p + 1)
/-- the bench as both see it -/
def EV (σ : Mm) (b k n : Nat) (p q : Nat) : Bool := exE (σ 3 0) (σ 2 0 2) (σ 4 0) (σ 2 0 3) (σ 1 (5 * 0 + b)) k n p q
def O15 (σ σ' : Mm) : Prop := ∀ t x, ¬ ((t = 0 ∨ t = 1) ∧ x = 15) → σ' t x = σ t x
def Tr15 (σ : Mm) (b k n p q : Nat) (σ' : Mm) : Prop := ∃ s t, posF (σ 1 (5 * 0 + b)) p n = some s ∧ posF (σ 1 (5 * 0 + b)) q n = some t ∧ σ' 0 15 0 = nI k ∧ σ' 0 15 1 = nI n ∧ ∀ j, j < 8 → σ' 1 15 j = swF (σ 1 (5 * 0 + b)) s t j
theorem both_X {σ σ' : Mm} {m : Nat → Int32} {nb b k n p q : Nat} {K : Bool → Mm → Prop} (hr : RI σ 0 m nb) (hb : b < nb) (hk : k < 7) (fk : σ 0 (5 * 0 + b) 0 = nI k) (fn : σ 0 (5 * 0 + b) 1 = nI n) (h1 : 1 ≤ n) (h8 : n ≤ 8) (hp : p < 8) (hq : q < 8) (hpq : p ≠ q) (o : O15 σ σ') (hF : EV σ b k n p q = false → ∀ σ2, O15 σ σ2 → K false σ2) (hT : EV σ b k n p q = true → ∀ σ2, O15 σ σ2 → Tr15 σ b k n p q σ2 → K true σ2) : f_X6_bothGainByChange (5 * 0 + b) (nI p) (nI q) σ' K := by
  have h5 := hr.2.nb
  have ev : σ' 1 (5 * 0 + b) = σ 1 (5 * 0 + b) := o 1 _ (by omega)
  have e0 : σ' 0 (5 * 0 + b) = σ 0 (5 * 0 + b) := o 0 _ (by omega)
  have fn' : σ' 0 (5 * 0 + b) 1 = nI n := by rw [e0]; exact fn
  have hv : pvs (σ 1 (5 * 0 + b)) n := hr.pvs hb h8
  have hu : ∀ i j, i < n → j < n → ¬ σ 1 (5 * 0 + b) i = -1 → σ 1 (5 * 0 + b) i = σ 1 (5 * 0 + b) j → i = j := by
    intro i j hi hj g1 g2
    rw [← (hr.1.2.2.2.1 b hb).2.2 i (by omega)] at g1 g2
    rw [← (hr.1.2.2.2.1 b hb).2.2 j (by omega)] at g2
    exact (hr.2.2.2.2.2.1 b i b j hb (by omega) hb (by omega) g1 g2).2
  refine ⟨by omega, ?_⟩
  cases ep : posF (σ 1 (5 * 0 + b)) p n with
  | none =>
    have un := posF_none n ep
    have ef : EV σ b k n p q = false := by unfold EV exE; rw [ep]
    refine seatOf_no (n := n) (by omega) fn' h8 (by rw [ev]; exact un) ?_
    cases eq : posF (σ 1 (5 * 0 + b)) q n with
    | none =>
      refine seatOf_no (n := n) (by omega) fn' h8 (by rw [ev]; exact posF_none n eq) ?_
      rw [if_pos rfl]; exact hF ef σ' o
    | some t =>
      obtain ⟨ht, et, ft⟩ := posF_some n eq
      refine seatOf_at (n := n) (by omega) fn' h8 ht (by rw [ev]; exact et) (by rw [ev]; exact ft) ?_
      rw [if_pos rfl]; exact hF ef σ' o
  | some s =>
    obtain ⟨hs, es, fs⟩ := posF_some n ep
    refine seatOf_at (n := n) (by omega) fn' h8 hs (by rw [ev]; exact es) (by rw [ev]; exact fs) ?_
    cases eq : posF (σ 1 (5 * 0 + b)) q n with
    | none =>
      have ef : EV σ b k n p q = false := by unfold EV exE; rw [ep, eq]
      refine seatOf_no (n := n) (by omega) fn' h8 (by rw [ev]; exact posF_none n eq) ?_
      rw [if_neg (nI_ne_m1 (by omega)), if_pos rfl]; exact hF ef σ' o
    | some t =>
      obtain ⟨ht, et, ft⟩ := posF_some n eq
      have hst : s ≠ t := fun e => by
        subst e
        exact hpq ((nI_eq (by omega) (by omega)).mp (es.symm.trans et))
      refine seatOf_at (n := n) (by omega) fn' h8 ht (by rw [ev]; exact et) (by rw [ev]; exact ft) ?_
      rw [if_neg (nI_ne_m1 (by omega)), if_neg (nI_ne_m1 (by omega)), nI_clamp (n := s) (by omega), nI_clamp (n := t) (by omega)]
      refine become_X (by omega) (by omega) (by omega) ⟨vp_in_nI (by omega) (by omega), _, rfl, vp_in_nI (by omega) (by omega), _, rfl, ?_⟩
      obtain ⟨σ3, e3⟩ : ∃ σ3, σ3 = mset (mset (bcp σ' 15 (5 * 0 + b)) 1 15 s (nI q)) 1 15 t (nI p) := ⟨_, rfl⟩
      rw [← e3]
      have b0 := bcp_0 (σ := σ') (i := 15) (j := 5 * 0 + b)
      have o3 : O15 σ σ3 := by
        intro t' x c
        rw [e3, mset_ne (by omega), mset_ne (by omega), bcp_ne c]; exact o t' x c
      have k3 : σ3 0 15 0 = nI k := by rw [e3, mset_ne (by omega), mset_ne (by omega), b0.1, e0]; exact fk
      have n3 : σ3 0 15 1 = nI n := by rw [e3, mset_ne (by omega), mset_ne (by omega), b0.2]; exact fn'
      have w3 : ∀ j, j < 8 → σ3 1 15 j = swF (σ 1 (5 * 0 + b)) s t j := by
        intro j hj
        rw [e3, mset_ap, mset_ap, bcp_1 hj, ev]
        by_cases c2 : j = t
        · subst c2; rw [if_pos ⟨rfl, rfl, rfl⟩, swF_t, es]
        · rw [if_neg (by omega)]
          by_cases c1 : j = s
          · subst c1; rw [if_pos ⟨rfl, rfl, rfl⟩, swF_s hst, et]
          · rw [if_neg (by omega), swF_o c1 c2]
      have hv3 : pvs (σ3 1 15) n := fun j hj => by rw [w3 j (by omega)]; exact swF_pv hs ht hst hv j hj
      have u3 : ∀ {x y z : Nat}, x < 8 → y < n → σ3 1 15 y = nI x → z < n → z ≠ y → ¬ σ3 1 15 z = nI x := by
        intro x y z hx hy hxy hz hzy e
        rw [w3 y (by omega)] at hxy
        rw [w3 z (by omega)] at e
        obtain ⟨i, hi, ei, ii⟩ := swF_src (σ 1 (5 * 0 + b)) s t n hs ht hst y hy
        obtain ⟨j, hj, ej, jj⟩ := swF_src (σ 1 (5 * 0 + b)) s t n hs ht hst z hz
        rw [ei] at hxy
        rw [ej] at e
        have := hu i j hi hj (by rw [hxy]; exact nI_ne_m1 (by omega)) (hxy.trans e.symm)
        rw [ii, jj] at this
        by_cases c1 : y = s
        · rw [if_pos c1] at this
          rw [if_neg (by omega)] at this
          by_cases c3 : z = t
          · rw [if_pos c3] at this; omega
          · rw [if_neg c3] at this; omega
        · rw [if_neg c1] at this
          by_cases c2 : y = t
          · rw [if_pos c2] at this
            by_cases c3 : z = s
            · rw [if_pos c3] at this; omega
            · rw [if_neg c3] at this
              by_cases c4 : z = t
              · rw [if_pos c4] at this; omega
              · rw [if_neg c4] at this; omega
          · rw [if_neg c2] at this
            by_cases c3 : z = s
            · rw [if_pos c3] at this; omega
            · rw [if_neg c3] at this
              by_cases c4 : z = t
              · rw [if_pos c4] at this; omega
              · rw [if_neg c4] at this; omega
      have ept : σ3 1 15 t = nI p := by rw [w3 t (by omega), swF_t]; exact es
      have eqs : σ3 1 15 s = nI q := by rw [w3 s (by omega), swF_s hst]; exact et
      have o3v : σ3 1 (5 * 0 + b) = σ 1 (5 * 0 + b) := o3 1 _ (by omega)
      have o3n : σ3 0 (5 * 0 + b) 1 = nI n := by rw [o3 0 _ (by omega)]; exact fn
      have g15 : ∀ x y, x < n → y < 8 → gnF (σ3 3 0) (σ3 1 15) n x y = gnF (σ 3 0) (swF (σ 1 (5 * 0 + b)) s t) n x y := fun x y hx hy => gnF_congr hy hx hv3 (fun j _ => by rw [o3 3 0 (by omega)]) (fun j hj => w3 j (by omega))
      have gb : ∀ x y, gnF (σ3 3 0) (σ3 1 (5 * 0 + b)) n x y = gnF (σ 3 0) (σ 1 (5 * 0 + b)) n x y := fun x y => by rw [o3 3 0 (by omega), o3v]
      have eE : EV σ b k n p q = exB (σ 3 0) (σ 2 0 2) (σ 4 0) (σ 2 0 3) (σ 1 (5 * 0 + b)) k n p q s t := by unfold EV exE; rw [ep, eq]
      unfold exB at eE
      refine gain_X (n := n) (s := t) (by omega) (by omega) hp n3 h8 hv3 ht ept (fun z hz => u3 hp ht ept (by omega) (by omega)) ?_
      refine gain_X (n := n) (s := s) (by omega) (by omega) hp o3n h8 (by rw [o3v]; exact hv) hs (by rw [o3v]; exact es) (by rw [o3v]; exact fs) ?_
      rw [g15 t p ht hp, gb s p]
      by_cases c1 : gnF (σ 3 0) (swF (σ 1 (5 * 0 + b)) s t) n t p ≤ gnF (σ 3 0) (σ 1 (5 * 0 + b)) n s p
      · rw [if_pos c1]
        refine hF ?_ σ3 o3
        rw [eE, decide_eq_true c1]; rfl
      · rw [if_neg c1]
        rw [decide_eq_false c1, Bool.not_false, Bool.true_and] at eE
        refine gain_X (n := n) (s := s) (by omega) (by omega) hq n3 h8 hv3 hs eqs (fun z hz => u3 hq hs eqs (by omega) (by omega)) ?_
        refine gain_X (n := n) (s := t) (by omega) (by omega) hq o3n h8 (by rw [o3v]; exact hv) ht (by rw [o3v]; exact et) (by rw [o3v]; exact ft) ?_
        rw [g15 s q hs hq, gb t q]
        by_cases c2 : gnF (σ 3 0) (swF (σ 1 (5 * 0 + b)) s t) n s q ≤ gnF (σ 3 0) (σ 1 (5 * 0 + b)) n t q
        · rw [if_pos c2]
          refine hF ?_ σ3 o3
          rw [eE, decide_eq_true c2]; rfl
        · rw [if_neg c2]
          rw [decide_eq_false c2, Bool.not_false, Bool.true_and] at eE
          refine holds_X (k := k) (n := n) (by omega) (by omega) hk k3 n3 h1 h8 hv3 (by rw [o3 3 0 (by omega), o3 2 0 (by omega), o3 4 0 (by omega)]; exact hr.pp) ?_
          rw [o3 3 0 (by omega), o3 2 0 (by omega), o3 4 0 (by omega), hoB_congr h1 (fun _ _ => rfl) (fun _ _ => rfl) hv3 (fun j hj => w3 j (by omega)), ← eE]
          cases eV : EV σ b k n p q with
          | true => exact itt (hT eV σ3 o3 ⟨s, t, ep, eq, k3, n3, w3⟩)
          | false => exact itf (hF eV σ3 o3)
theorem fi_X {σ : Mm} {m : Nat → Int32} {nb b k n p : Nat} {K : Int32 → Mm → Prop} {k50 : Int32 → Int32 → Mm → Prop} {k79 : Mm → Prop} (hr : RI σ 0 m nb) (hb : b < nb) (hk : k < 7) (fk : σ 0 (5 * 0 + b) 0 = nI k) (fn : σ 0 (5 * 0 + b) 1 = nI n) (h1 : 1 ≤ n) (h8 : n ≤ 8) (hp : p < 8) : ∀ (d q : Nat) (σ' : Mm), q + d = 8 → p < q → O15 σ σ' → (match fiF (EV σ b k n p) d q with
    | none => ∀ σ2, O15 σ σ2 → k79 σ2
    | some q' => ∀ σ2, O15 σ σ2 → Tr15 σ b k n p q' σ2 → k50 (nI p) (nI q') σ2) → f_X6_exchange_26 (nI b) (nI p) K k50 k79 (d + 1) (nI q) σ' := by
  have h5 := hr.2.nb
  intro d
  induction d with
  | zero =>
    intro q σ' hq hpq o hK
    have : q = 8 := by omega
    subst this
    rw [f_X6_exchange_26, if_pos (by decide)]
    exact hK σ' o
  | succ d ih =>
    intro q σ' hq hpq o hK
    rw [f_X6_exchange_26, if_neg (show ¬ (8 : Int32) ≤ nI q from nI_ge (a := q) (b := 8) (by omega) (by omega)), nI_clamp (by omega), nI_1]
    refine ⟨vp_in_nI (by omega) (by omega), by omega, ?_⟩
    unfold fiF at hK
    refine both_X hr hb hk fk fn h1 h8 hp (by omega) (by omega) o (fun eV σ2 o2 => ?_) (fun eV σ2 o2 t2 => ?_)
    · rw [eV, if_neg (by decide)] at hK
      exact itf (ih (q + 1) σ2 (by omega) (by omega) o2 hK)
    · rw [eV, if_pos rfl] at hK
      exact itt (hK σ2 o2 t2)
theorem fo_X {σ : Mm} {m : Nat → Int32} {nb b k n : Nat} {K : Int32 → Mm → Prop} {k50 : Int32 → Int32 → Mm → Prop} (hr : RI σ 0 m nb) (hb : b < nb) (hk : k < 7) (fk : σ 0 (5 * 0 + b) 0 = nI k) (fn : σ 0 (5 * 0 + b) 1 = nI n) (h1 : 1 ≤ n) (h8 : n ≤ 8) : ∀ (d p : Nat) (σ' : Mm), p + d = 8 → O15 σ σ' → (match foF (EV σ b k n) d p with
    | none => ∀ σ2, O15 σ σ2 → f_X6_finding (3 : Int32) σ2 (fun r4 σ3 => K r4 σ3)
    | some x => ∀ σ2, O15 σ σ2 → x.1 < 8 → x.2 < 8 → x.1 ≠ x.2 → Tr15 σ b k n x.1 x.2 σ2 → k50 (nI x.1) (nI x.2) σ2) → f_X6_exchange_16 (nI b) K k50 (d + 1) (nI p) σ' := by
  intro d
  induction d with
  | zero =>
    intro p σ' hp o hK
    have : p = 8 := by omega
    subst this
    rw [f_X6_exchange_16, if_pos (by decide)]
    exact hK σ' o
  | succ d ih =>
    intro p σ' hp o hK
    rw [f_X6_exchange_16, if_neg (show ¬ (8 : Int32) ≤ nI p from nI_ge (a := p) (b := 8) (by omega) (by omega)), nI_1]
    refine ⟨d + 1, fi_X hr hb hk fk fn h1 h8 (by omega) d (p + 1) σ' (by omega) (by omega) o ?_⟩
    unfold foF at hK
    cases e : fiF (EV σ b k n p) d (p + 1) with
    | none =>
      rw [e] at hK
      exact fun σ2 o2 => ih (p + 1) σ2 (by omega) o2 hK
    | some q =>
      rw [e] at hK
      have bd : ∀ (E : Nat → Bool) (d a q : Nat), fiF E d a = some q → a ≤ q ∧ q < a + d := by
        intro E d
        induction d with
        | zero => intro a q h; simp [fiF] at h
        | succ d ihd =>
          intro a q h
          unfold fiF at h
          by_cases c : E a = true
          · rw [if_pos c] at h
            have := Option.some.inj h
            omega
          · rw [if_neg c] at h
            have := ihd _ _ h
            omega
      have := bd _ _ _ _ e
      exact fun σ2 o2 t2 => hK σ2 o2 (by show p < 8; omega) (by show q < 8; omega) (by show p ≠ q; omega) t2
