/-! PURE: how the class's memory and the reference's stand to one another -/
def inZ (x : Int32) (lo hi : Int) : Bool := decide (lo ≤ x.toInt ∧ x.toInt ≤ hi)
theorem z0 : (0 : Int32).toInt = 0 := by decide
theorem inZ_ex {x : Int32} {lo hi : Nat} (h : inZ x lo hi = true) (hh : hi < 2 ^ 31) : ∃ j, lo ≤ j ∧ j ≤ hi ∧ x = nI j := by
  have h := of_decide_eq_true h
  have h0 : ¬ x < 0 := by
    rw [Int32.lt_iff_toInt_lt, z0]
    omega
  obtain ⟨j, hj, rfl⟩ := nI_of h0
  rw [nI_toInt hj] at h
  exact ⟨j, by omega, by omega, rfl⟩
theorem inZ_nI {j : Nat} {lo hi : Nat} (h1 : lo ≤ j) (h2 : j ≤ hi) (hh : hi < 2 ^ 31) : inZ (nI j) lo hi = true := by
  unfold inZ
  rw [nI_toInt (by omega)]
  apply decide_eq_true
  omega
theorem ite_inZ {x lo hi : Int32} {A B : Prop} : (if x < lo then A else if x ≤ hi then B else A) = (if inZ x lo.toInt hi.toInt = true then B else A) := by
  unfold inZ
  simp only [Int32.lt_iff_toInt_lt, Int32.le_iff_toInt_le, decide_eq_true_eq]
  by_cases h : x.toInt < lo.toInt
  · rw [if_pos h, if_neg (by omega)]
  · by_cases h2 : x.toInt ≤ hi.toInt
    · rw [if_neg h, if_pos h2, if_pos (by omega)]
    · rw [if_neg h, if_neg h2, if_neg (by omega)]
theorem K_inZ {x lo hi : Int32} {K : Bool → Mm → Prop} {σ : Mm} : (if x < lo then K false σ else if hi ≤ x then K false σ else K true σ) = K (inZ x lo.toInt (hi.toInt - 1)) σ := by
  unfold inZ
  simp only [Int32.lt_iff_toInt_lt, Int32.le_iff_toInt_le]
  by_cases h : x.toInt < lo.toInt
  · rw [if_pos h, decide_eq_false (by omega)]
  · by_cases h2 : hi.toInt ≤ x.toInt
    · rw [if_neg h, if_pos h2, decide_eq_false (by omega)]
    · rw [if_neg h, if_neg h2, decide_eq_true (by omega)]
theorem in_inZ (x : Int32) (lo hi : Int64) (μ : Mm) (K : Bool → Mm → Prop) : f_X7_in x.toInt64 lo hi μ K = K (inZ x lo.toInt hi.toInt) μ := in_spec x lo hi μ K
theorem isPerson_X (a : Int32) (σ : Mm) (K : Bool → Mm → Prop) : f_X6_isPerson a σ K = K (inZ a 0 7) σ := K_inZ
theorem isPerson_Y (a : Int32) (σ : Mm) (K : Bool → Mm → Prop) : f_X7_isPerson a σ K = K (inZ a 0 7) σ := in_inZ a 0 7 σ K
theorem isKind_X (a : Int32) (σ : Mm) (K : Bool → Mm → Prop) : f_X6_isKind a σ K = K (inZ a 0 6) σ := K_inZ
theorem isKind_Y (a : Int32) (σ : Mm) (K : Bool → Mm → Prop) : f_X7_isKind a σ K = K (inZ a 0 6) σ := in_inZ a 0 6 σ K
def pairB (a b : Int32) : Bool := inZ a 0 7 && (inZ b 0 7 && !decide (a = b))
theorem arePair_X (a b : Int32) (σ : Mm) (K : Bool → Mm → Prop) : f_X6_arePair a b σ K = K (pairB a b) σ := by
  unfold f_X6_arePair pairB
  rw [isPerson_X]
  cases inZ a 0 7 with
  | false => simp
  | true =>
    simp only [if_true, isPerson_X, Bool.true_and]
    cases inZ b 0 7 with
    | false => simp
    | true => by_cases h : a = b <;> simp [h]
theorem areTwo_Y (a b : Int32) (σ : Mm) (K : Bool → Mm → Prop) : f_X7_areTwo a b σ K = K (pairB a b) σ := by
  unfold f_X7_areTwo pairB
  rw [isPerson_Y]
  cases inZ a 0 7 with
  | false => simp
  | true =>
    simp only [if_true, isPerson_Y, Bool.true_and]
    cases inZ b 0 7 with
    | false => simp
    | true => by_cases h : a = b <;> simp [h]
/-- who sits on a seat: nobody, or a person -/
def pv (x : Int32) : Prop := x = -1 ∨ ∃ p, p < 8 ∧ x = nI p
def R0 (σ : Mm) (r : Nat) (m : Nat → Int32) : Prop := m 0 = σ 2 r 2 ∧ m 1 = σ 2 r 3 ∧ m 2 = σ 5 r 4 ∧ m 3 = σ 5 r 2
def RB (σ : Mm) (r : Nat) (m : Nat → Int32) : Prop := ∀ k, k < 64 → m (4 + k) = σ 3 r k
def RW (σ : Mm) (r : Nat) (m : Nat → Int32) : Prop := ∀ p, p < 8 → m (68 + p) = σ 4 r p
def RS (σ : Mm) (r : Nat) (m : Nat → Int32) (nb : Nat) : Prop := ∀ b, b < nb → m (76 + 10 * b) = σ 0 (5 * r + b) 0 ∧ m (77 + 10 * b) = σ 0 (5 * r + b) 1 ∧ ∀ s, s < 8 → m (78 + 10 * b + s) = σ 1 (5 * r + b) s
def RP (σ : Mm) (r : Nat) (m : Nat → Int32) : Prop := ∀ k, k < 10 → m (126 + k) = σ 7 r k
def RRow (σ : Mm) (r : Nat) (m : Nat → Int32) (nb : Nat) : Prop := R0 σ r m ∧ RB σ r m ∧ RW σ r m ∧ RS σ r m nb ∧ RP σ r m
def I0 (m : Nat → Int32) (nb : Nat) : Prop := nb ≤ 5 ∧ m 3 = nI nb ∧ bz (m 0) ∧ ∃ h, h ≤ 999 ∧ m 1 = nI h
def IB (m : Nat → Int32) : Prop := (∀ p q, p < 8 → q < 8 → (∃ x, x ≤ 2 ∧ m (4 + 8 * p + q) = nI x) ∧ m (4 + 8 * p + q) = m (4 + 8 * q + p)) ∧ ∀ p, p < 8 → m (4 + 8 * p + p) = 0
def IW (m : Nat → Int32) : Prop := ∀ p, p < 8 → ∃ w, 1 ≤ w ∧ w ≤ 99 ∧ m (68 + p) = nI w
def IS (m : Nat → Int32) (nb : Nat) : Prop := ∀ b, b < nb → (∃ k, k < 7 ∧ m (76 + 10 * b) = nI k) ∧ (∃ n, 1 ≤ n ∧ n ≤ 8 ∧ m (77 + 10 * b) = nI n ∧ ∀ s, n ≤ s → s < 8 → m (78 + 10 * b + s) = -1) ∧ ∀ s, s < 8 → pv (m (78 + 10 * b + s))
def IU (m : Nat → Int32) (nb : Nat) : Prop := ∀ b s b' s', b < nb → s < 8 → b' < nb → s' < 8 → ¬ m (78 + 10 * b + s) = -1 → m (78 + 10 * b + s) = m (78 + 10 * b' + s') → b = b' ∧ s = s'
def IP (m : Nat → Int32) (nb : Nat) : Prop := ∀ k, k < 10 → m (126 + k) = -1 ∨ ∃ b, b < nb ∧ m (126 + k) = nI b
def Inv (m : Nat → Int32) (nb : Nat) : Prop := I0 m nb ∧ IB m ∧ IW m ∧ IS m nb ∧ IU m nb ∧ IP m nb
/-- findings, tape, sheets, what the search keeps between calls -/
def RF (σ μ : Mm) : Prop := ∀ k, k < 7 → σ 15 0 k = μ 4 0 k
def RT (σ μ : Mm) : Prop := ∃ L, L ≤ 120 ∧ σ 16 0 7 = nI L ∧ μ 0 0 12 = nI L ∧ ∀ k, k < L → σ 10 0 k = μ 9 0 k
def RH (σ μ : Mm) : Prop := ∀ s, s < 4 → (μ 10 0 s = σ 13 s 0 ∧ (σ 13 s 0 = 0 ∨ σ 13 s 0 = 8 ∨ σ 13 s 0 = 16 ∨ σ 13 s 0 = 32)) ∧ (∃ n, n ≤ 40 ∧ σ 13 s 1 = nI n ∧ μ 11 0 s = nI n) ∧ ∀ k, k < 40 → μ 12 0 (40 * s + k) = σ 14 s k
def RX (σ : Mm) : Prop := σ 8 0 8 = -1 ∧ σ 9 0 0 = -1
def RK (σ μ : Mm) : Prop := σ 16 0 2 = μ 0 0 3 ∧ bz (μ 0 0 3) ∧ (μ 0 0 3 = 1 → ∃ nb, RRow σ 1 (μ 2 0) nb ∧ Inv (μ 2 0) nb)
def Rel (σ μ : Mm) : Prop := (∃ nb, RRow σ 0 (μ 1 0) nb ∧ Inv (μ 1 0) nb) ∧ RK σ μ ∧ RF σ μ ∧ RT σ μ ∧ RH σ μ ∧ RX σ
theorem mset_row (σ : Mm) (t i j : Nat) (v : Int32) (t' i' : Nat) : mset σ t i j v t' i' = if t' = t ∧ i' = i then upd (σ t i) j v else σ t' i' := rfl
theorem mset_ne {σ : Mm} {t i j : Nat} {v : Int32} {t' i' : Nat} (h : ¬ (t' = t ∧ i' = i)) : mset σ t i j v t' i' = σ t' i' := by rw [mset_row, if_neg h]
theorem mset_eq {σ : Mm} {t i j : Nat} {v : Int32} : mset σ t i j v t i = upd (σ t i) j v := by rw [mset_row, if_pos ⟨rfl, rfl⟩]
theorem mrow_row (σ : Mm) (t i : Nat) (f : Nat → Int32) (t' i' : Nat) : mrow σ t i f t' i' = if t' = t ∧ i' = i then f else σ t' i' := rfl
/-- the two rooms hang on these rows alone -/
theorem RRow.congr {σ σ' : Mm} {r : Nat} {m : Nat → Int32} {nb : Nat} (h : RRow σ r m nb) (hr : r < 3) (hn : nb ≤ 5) (h2 : σ' 2 r = σ 2 r) (h3 : σ' 3 r = σ 3 r) (h4 : σ' 4 r = σ 4 r) (h5 : σ' 5 r = σ 5 r) (h7 : σ' 7 r = σ 7 r) (h0 : ∀ b, b < 5 → σ' 0 (5 * r + b) = σ 0 (5 * r + b)) (h1 : ∀ b, b < 5 → σ' 1 (5 * r + b) = σ 1 (5 * r + b)) : RRow σ' r m nb := by
  obtain ⟨⟨a1, a2, a3, a4⟩, b, c, d, e⟩ := h
  refine ⟨⟨?_, ?_, ?_, ?_⟩, fun k hk => ?_, fun p hp => ?_, fun x hx => ⟨?_, ?_, fun s hs => ?_⟩, fun k hk => ?_⟩
  · rw [h2]; exact a1
  · rw [h2]; exact a2
  · rw [h5]; exact a3
  · rw [h5]; exact a4
  · rw [h3]; exact b k hk
  · rw [h4]; exact c p hp
  · rw [h0 x (by omega)]; exact (d x hx).1
  · rw [h0 x (by omega)]; exact (d x hx).2.1
  · rw [h1 x (by omega)]; exact (d x hx).2.2 s hs
  · rw [h7]; exact e k hk
theorem Inv.nb {m : Nat → Int32} {nb : Nat} (h : Inv m nb) : nb ≤ 5 := h.1.1
/-- what a call leaves when it wrote only in scratch rows (the class: trial and row benches, the search's, the reader's, the draft's) -/
def Scr (σ σ' : Mm) : Prop := (∀ t i, (t = 0 ∨ t = 1) → i < 10 → σ' t i = σ t i) ∧ (∀ t i, (t = 2 ∨ t = 3 ∨ t = 4 ∨ t = 5 ∨ t = 7) → i < 2 → σ' t i = σ t i) ∧ (∀ t i, (t = 10 ∨ t = 13 ∨ t = 14 ∨ t = 15 ∨ t = 16) → σ' t i = σ t i) ∧ σ' 8 0 8 = σ 8 0 8 ∧ σ' 9 0 0 = σ 9 0 0
def ScrY (μ μ' : Mm) : Prop := (∀ t, (t = 1 ∨ t = 2 ∨ t = 4 ∨ t = 9 ∨ t = 10 ∨ t = 11 ∨ t = 12) → μ' t 0 = μ t 0) ∧ μ' 0 0 3 = μ 0 0 3 ∧ μ' 0 0 12 = μ 0 0 12
theorem Scr.rf {σ : Mm} : Scr σ σ := ⟨fun _ _ _ _ => rfl, fun _ _ _ _ => rfl, fun _ _ _ => rfl, rfl, rfl⟩
theorem Scr.tr {a b c : Mm} (h : Scr a b) (k : Scr b c) : Scr a c := ⟨fun t i x y => (k.1 t i x y).trans (h.1 t i x y), fun t i x y => (k.2.1 t i x y).trans (h.2.1 t i x y), fun t i x => (k.2.2.1 t i x).trans (h.2.2.1 t i x), k.2.2.2.1.trans h.2.2.2.1, k.2.2.2.2.trans h.2.2.2.2⟩
theorem ScrY.rf {σ : Mm} : ScrY σ σ := ⟨fun _ _ => rfl, rfl, rfl⟩
theorem ScrY.tr {a b c : Mm} (h : ScrY a b) (k : ScrY b c) : ScrY a c := ⟨fun t x => (k.1 t x).trans (h.1 t x), k.2.1.trans h.2.1, k.2.2.trans h.2.2⟩
theorem RRow.scr {σ σ' : Mm} {r : Nat} {m : Nat → Int32} {nb : Nat} (h : RRow σ r m nb) (hr : r < 2) (hn : nb ≤ 5) (k : Scr σ σ') : RRow σ' r m nb :=
  h.congr (by omega) hn (k.2.1 2 r (by simp) hr) (k.2.1 3 r (by simp) hr) (k.2.1 4 r (by simp) hr) (k.2.1 5 r (by simp) hr) (k.2.1 7 r (by simp) hr) (fun b hb => k.1 0 _ (Or.inl rfl) (by omega)) (fun b hb => k.1 1 _ (Or.inr rfl) (by omega))
theorem Rel.scr {σ σ' μ μ' : Mm} (h : Rel σ μ) (k : Scr σ σ') (k' : ScrY μ μ') : Rel σ' μ' := by
  obtain ⟨⟨nb, h1, h2⟩, ⟨h3, h4, h5⟩, h6, ⟨L, t1, t2, t3, t4⟩, h8, h9⟩ := h
  have e1 : μ' 1 0 = μ 1 0 := k'.1 1 (by simp)
  have e2 : μ' 2 0 = μ 2 0 := k'.1 2 (by simp)
  have e4 : μ' 4 0 = μ 4 0 := k'.1 4 (by simp)
  have e9 : μ' 9 0 = μ 9 0 := k'.1 9 (by simp)
  have e10 : μ' 10 0 = μ 10 0 := k'.1 10 (by simp)
  have e11 : μ' 11 0 = μ 11 0 := k'.1 11 (by simp)
  have e12 : μ' 12 0 = μ 12 0 := k'.1 12 (by simp)
  have s16 : ∀ i, σ' 16 i = σ 16 i := fun i => k.2.2.1 16 i (by simp)
  have s15 : ∀ i, σ' 15 i = σ 15 i := fun i => k.2.2.1 15 i (by simp)
  have s10 : ∀ i, σ' 10 i = σ 10 i := fun i => k.2.2.1 10 i (by simp)
  have s13 : ∀ i, σ' 13 i = σ 13 i := fun i => k.2.2.1 13 i (by simp)
  have s14 : ∀ i, σ' 14 i = σ 14 i := fun i => k.2.2.1 14 i (by simp)
  refine ⟨⟨nb, by rw [e1]; exact h1.scr (by omega) h2.nb k, by rw [e1]; exact h2⟩, ⟨?_, ?_, ?_⟩, ?_, ?_, ?_, ?_⟩
  · rw [s16, k'.2.1]; exact h3
  · rw [k'.2.1]; exact h4
  · intro hk
    rw [k'.2.1] at hk
    obtain ⟨n, a, b⟩ := h5 hk
    exact ⟨n, by rw [e2]; exact a.scr (by omega) b.nb k, by rw [e2]; exact b⟩
  · intro j hj
    rw [s15, e4]; exact h6 j hj
  · exact ⟨L, t1, by rw [s16]; exact t2, by rw [k'.2.2]; exact t3, fun j hj => by rw [s10, e9]; exact t4 j hj⟩
  · intro x hx
    rw [e10, e11, e12, s13, s14]
    exact h8 x hx
  · exact ⟨k.2.2.2.1.trans h9.1, k.2.2.2.2.trans h9.2⟩
