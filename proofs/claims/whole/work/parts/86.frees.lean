/-! PURE: frees -/
theorem pair_back {σ : Mm} {r p q : Nat} {y : Int32} (hne : p ≠ q) (hp : p < 8) (hq : q < 8) (sy : σ 3 r (8 * q + p) = σ 3 r (8 * p + q)) {σ' : Mm} (e : σ' 3 r = mset (mset σ 3 r (8 * p + q) y) 3 r (8 * q + p) y 3 r) : mset (mset σ' 3 r (8 * p + q) (σ 3 r (8 * p + q))) 3 r (8 * q + p) (σ 3 r (8 * p + q)) 3 r = σ 3 r := by
  funext j
  rw [mset_ap, mset_ap]
  simp only [true_and]
  by_cases c1 : j = 8 * q + p
  · rw [if_pos c1, c1, sy]
  · rw [if_neg c1]
    by_cases c2 : j = 8 * p + q
    · rw [if_pos c2, c2]
    · rw [if_neg c2, e, mset_ap, if_neg (by omega), mset_ap, if_neg (by omega)]
theorem pair_backY {μ : Mm} {p q : Nat} {y : Int32} (hne : p ≠ q) (hp : p < 8) (hq : q < 8) (sy : μ 1 0 (4 + 8 * q + p) = μ 1 0 (4 + 8 * p + q)) {μ' : Mm} (e : μ' 1 0 = mset (mset μ 1 0 (4 + 8 * p + q) y) 1 0 (4 + 8 * q + p) y 1 0) : mset (mset μ' 1 0 (4 + 8 * p + q) (μ 1 0 (4 + 8 * p + q))) 1 0 (4 + 8 * q + p) (μ 1 0 (4 + 8 * p + q)) 1 0 = μ 1 0 := by
  funext j
  rw [mset_ap, mset_ap]
  simp only [true_and]
  by_cases c1 : j = 4 + 8 * q + p
  · rw [if_pos c1, c1, sy]
  · rw [if_neg c1]
    by_cases c2 : j = 4 + 8 * p + q
    · rw [if_pos c2, c2]
    · rw [if_neg c2, e, mset_ap, if_neg (by omega), mset_ap, if_neg (by omega)]
/-- how many seatings there are when two have quarrelled -/
def quN (m : Nat → Int32) (k n : Nat) (U : Int32) (p q : Nat) : Nat := (GN (upd (upd m (4 + 8 * p + q) (nI 0)) (4 + 8 * q + p) (nI 0)) k n U).length
/-- the best pair so far, and its number -/
def frB (D : Nat → Nat → Bool) (Q : Nat → Nat → Nat) (p : Nat) : Nat → Nat → Option (Nat × Nat) → Option (Nat × Nat)
  | 0, _, o => o
  | d + 1, q, o => frB D Q p d (q + 1) (if D p q = true then (match o with
    | none => some (10 * p + q, Q p q)
    | some (x, y) => if y < Q p q then some (10 * p + q, Q p q) else some (x, y)) else o)
def frA (D : Nat → Nat → Bool) (Q : Nat → Nat → Nat) : Nat → Nat → Option (Nat × Nat) → Option (Nat × Nat)
  | 0, _, o => o
  | d + 1, p, o => frA D Q d (p + 1) (frB D Q p (7 - p) (p + 1) o)
def fb1 : Option (Nat × Nat) → Int32
  | none => -1
  | some z => nI z.1
def fb2 : Option (Nat × Nat) → Int32
  | none => -1
  | some z => nI z.2
def fb3 : Option (Nat × Nat) → Int32
  | none => 0
  | some z => nI z.2
def fbok (o : Option (Nat × Nat)) : Prop := ∀ z, o = some z → z.1 < 100 ∧ z.2 ≤ 40320
theorem sc_tie {σ σ' : Mm} {x y : Int32} {j i : Nat} (hS : ∀ t i, ¬ (t = 3 ∧ i = 0) → ¬ ((t = 0 ∨ t = 1) ∧ i = 16) → ¬ (t = 9 ∧ i = 0) → ¬ (t = 8 ∧ i = 0) → σ' t i = σ t i) (h8 : σ' 8 0 8 = σ 8 0 8) (h9 : σ' 9 0 0 = σ 9 0 0) (h3 : mset (mset σ' 3 0 j x) 3 0 i y 3 0 = σ 3 0) : Scr σ (mset (mset σ' 3 0 j x) 3 0 i y) := by
  have o : ∀ t i', ¬ (t = 3 ∧ i' = 0) → mset (mset σ' 3 0 j x) 3 0 i y t i' = σ' t i' := fun t i' c => by rw [mset_ne c, mset_ne c]
  refine ⟨fun t i' c1 c2 => ?_, fun t i' c1 c2 => ?_, fun t i' c1 => ?_, ?_, ?_⟩
  · rw [o t i' (by omega), hS t i' (by omega) (by omega) (by omega) (by omega)]
  · by_cases c : t = 3 ∧ i' = 0
    · obtain ⟨rfl, rfl⟩ := c; exact h3
    · rw [o t i' c, hS t i' c (by omega) (by omega) (by omega)]
  · rw [o t i' (by omega), hS t i' (by omega) (by omega) (by omega) (by omega)]
  · rw [o 8 0 (by omega), h8]
  · rw [o 9 0 (by omega), h9]
/-- the class: two quarrel, the seatings are counted, they are friends again -/
theorem quar_X {σ : Mm} {m : Nat → Int32} {nb b k n X p q : Nat} {K : Int32 → Mm → Prop} (hr : RI σ 0 m nb) (hx8 : σ 8 0 8 = -1) (hx9 : σ 9 0 0 = -1) (hb : b < nb) (hk : k < 7) (n1 : 1 ≤ n) (n8 : n ≤ 8) (fk : σ 0 (5 * 0 + b) 0 = nI k) (fn : σ 0 (5 * 0 + b) 1 = nI n) (hX : X < 256) (hp : p < 8) (hq : q < 8) (hne : p ≠ q) (h : ∀ σ', Scr σ σ' → K (nI (quN m k n (nI X) p q)) σ') : f_X6_seatingsAfterQuarrel (nI b) (nI X) (nI p) (nI q) σ K := by
  have h5 := hr.2.nb
  have hT := hr.tie hp hq hne (show 0 ≤ 2 by omega)
  refine bondOf_X (by omega) hp hq (tie_X (by omega) hp hq ⟨vp_in_nI (by omega) (by omega), ?_⟩)
  rw [nI_clamp (by omega)]
  have o : ∀ t i, ¬ (t = 3 ∧ i = 0) → mset (mset σ 3 0 (8 * p + q) (0 : Int32)) 3 0 (8 * q + p) (0 : Int32) t i = σ t i := fun t i c => by rw [mset_ne c, mset_ne c]
  refine ⟨by omega, ?_⟩
  have hT : RI (mset (mset σ 3 0 (8 * p + q) (0 : Int32)) 3 0 (8 * q + p) (0 : Int32)) 0 (upd (upd m (4 + 8 * p + q) (nI 0)) (4 + 8 * q + p) (nI 0)) nb := hT
  refine count_X (E := 1000000) (P := none) (k := k) (n := n) (by omega) hk (by rw [o 0 _ (by omega)]; exact fk) (by rw [o 0 _ (by omega)]; exact fn) n1 n8 (by omega) (by omega) hX hT.pp (by show mset _ 3 0 _ _ 8 0 8 = -1; rw [o 8 0 (by omega)]; exact hx8) (fun q e => nomatch e) (by rw [o 9 0 (by omega)]; exact hx9) (fun σ' C _ => ?_)
  rw [GC_GN hT n1, if_pos (by have := GN_len (m := upd (upd m (4 + 8 * p + q) (nI 0)) (4 + 8 * q + p) (nI 0)) (k := k) (U := nI X) n8; omega)]
  refine tie_X (by omega) hp hq (h _ ?_)
  have sy : σ 3 0 (8 * q + p) = σ 3 0 (8 * p + q) := by
    have s1 := hr.1.2.1 (8 * p + q) (by omega)
    have s2 := hr.1.2.1 (8 * q + p) (by omega)
    have s3 := (hr.2.2.1.1 p q hp hq).2
    rw [← s1, ← s2, show 4 + (8 * q + p) = 4 + 8 * q + p by omega, show 4 + (8 * p + q) = 4 + 8 * p + q by omega]
    exact s3.symm
  refine sc_tie (fun t i c1 c2 c3 c4 => by rw [C.1 t i c2 c3 c4, o t i c1]) (by rw [C.2.1, o 8 0 (by omega)]) (by rw [C.2.2, o 9 0 (by omega)]) ?_
  exact pair_back hne hp hq sy (by rw [C.1 3 0 (by omega) (by omega) (by omega)])
/-- the reference: the same -/
theorem quar_Y {σ μ : Mm} {nb k n X p q : Nat} {K : Int32 → Mm → Prop} (hr : RI σ 0 (μ 1 0) nb) (hk : k < 7) (n1 : 1 ≤ n) (n8 : n ≤ 8) (e6 : μ 0 0 6 = nI k) (e7 : μ 0 0 7 = nI n) (hp : p < 8) (hq : q < 8) (hne : p ≠ q) (h : ∀ μ', YU μ μ' → μ' 0 0 6 = nI k → μ' 0 0 7 = nI n → K (nI (quN (μ 1 0) k n (nI X) p q)) μ') : f_X7_how (nI p) (nI q) μ (fun r13 σ12 => (f_X7_befriends (nI p) (nI q) (0 : Int32) σ12 (fun σ14 => (f_X7_seatingsOf (nI X) (-1 : Int32) σ14 (fun r16 σ15 => (f_X7_befriends (nI p) (nI q) r13 σ15 (fun σ17 => K r16 σ17))))))) := by
  have hT := hr.tie hp hq hne (show 0 ≤ 2 by omega)
  refine how_Y hp hq (befriends_Y hp hq ?_)
  have o : ∀ t i, ¬ (t = 1 ∧ i = 0) → mset (mset μ 1 0 (4 + 8 * p + q) (0 : Int32)) 1 0 (4 + 8 * q + p) (0 : Int32) t i = μ t i := fun t i c => by rw [mset_ne c, mset_ne c]
  have m1 : mset (mset μ 1 0 (4 + 8 * p + q) (0 : Int32)) 1 0 (4 + 8 * q + p) (0 : Int32) 1 0 = upd (upd (μ 1 0) (4 + 8 * p + q) (nI 0)) (4 + 8 * q + p) (nI 0) := by
    rw [mset_eq, mset_eq]; rfl
  refine seatingsN_Y (m := upd (upd (μ 1 0) (4 + 8 * p + q) (nI 0)) (4 + 8 * q + p) (nI 0)) hk n1 n8 hT.2.pp ⟨m1, by rw [o 0 0 (by omega)]; exact e6, by rw [o 0 0 (by omega)]; exact e7⟩ (fun μ2 g1 g2 g3 => ?_)
  refine befriends_Y hp hq ?_
  have sy : μ 1 0 (4 + 8 * q + p) = μ 1 0 (4 + 8 * p + q) := (hr.2.2.1.1 p q hp hq).2.symm
  have bk := pair_backY (y := (0 : Int32)) hne hp hq sy (μ' := μ2) (by rw [g1 1 0 (by omega)])
  have o2 : ∀ t i, ¬ (t = 1 ∧ i = 0) → mset (mset μ2 1 0 (4 + 8 * p + q) (μ 1 0 (4 + 8 * p + q))) 1 0 (4 + 8 * q + p) (μ 1 0 (4 + 8 * p + q)) t i = μ2 t i := fun t i c => by rw [mset_ne c, mset_ne c]
  refine h _ ⟨fun t i c => ?_, fun j c1 c2 => ?_⟩ ?_ ?_
  · by_cases c' : t = 1 ∧ i = 0
    · obtain ⟨rfl, rfl⟩ := c'; exact bk
    · rw [o2 t i c', g1 t i (by omega), o t i c']
  · rw [o2 0 0 (by omega), g1 0 0 (by omega), o 0 0 (by omega)]
  · rw [o2 0 0 (by omega), g1 0 0 (by omega), o 0 0 (by omega)]; exact e6
  · rw [o2 0 0 (by omega), g1 0 0 (by omega), o 0 0 (by omega)]; exact e7
