/-! PURE: the class's filling, its parts -/
theorem lastT_up {v : Nat → Int32} {s : Nat} {x : Int32} (j : Nat) (h : j ≤ s) : lastT (upd v s x) j = lastT v j := lastT_congr j (fun i hi => upd_ne (by omega))
theorem lastT_set {v : Nat → Int32} {s p : Nat} (hp : p < 8) : lastT (upd v s (nI p)) (s + 1) = some s := by
  unfold lastT
  rw [upd_eq, if_neg (nI_ne_m1 (by omega))]
theorem lastT_emp {v : Nat → Int32} {s : Nat} : lastT (upd v s (-1)) (s + 1) = lastT v s := by
  rw [lastT, upd_eq, if_pos rfl]
  exact lastT_up s (Nat.le_refl s)
theorem ckB_congr {B : Nat → Int32} {ov : Int32} {v v' : Nat → Int32} {k s p : Nat} (e : ∀ j, j < s → v j = v' j) : ckB B ov v k s p = ckB B ov v' k s p := by
  unfold ckB
  rw [lastT_congr s e]
  cases el : lastT v' s with
  | none => rfl
  | some t =>
    have t1 := (lastT_some s t el).1
    dsimp only
    rw [lastT_congr t (fun j hj => e j (by omega))]
    cases e2 : lastT v' t with
    | none => rfl
    | some l =>
      have l1 := (lastT_some t l e2).1
      dsimp only
      rw [e l (by omega)]
/-- a branch that the look refuses holds no row -/
theorem ck_none {B : Nat → Int32} {ov : Int32} {w : Nat → Int32} {h : Int32} {v : Nat → Int32} {k n d s p e : Nat} {U : Int32} (h8 : n ≤ 8) (hs : s + (d + 1) = n) (hp : p < 8) (hc : ckB B ov v k s p = false) : ∀ u, u ∈ lv d (s + 1) U e (upd v s (nI p)) → hoB B ov w h u k n = false := by
  intro u hu
  have pre := lv_pre hu
  have bad := ck_bad (n := n) h8 (by omega) hp (u := u) (fun j hj => by rw [pre j (by omega), upd_ne (by omega)]) (by rw [pre s (by omega), upd_eq]) hc
  unfold hoB
  rw [decide_eq_false bad, Bool.and_false]
/-- a stretch that cannot balance holds no row -/
theorem cb_none {B : Nat → Int32} {ov : Int32} {w : Nat → Int32} {h : Int32} {v : Nat → Int32} {k n d s e : Nat} {U : Int32} (hw : wok w) (hs : s + d = n) (hc : coF (fun j => bt U j) 8 + e = d) (hb : cbB k n s h (liZ w v n s) (wsF w U 8) = false) : ∀ u, u ∈ lv d s U e v → hoB B ov w h u k n = false := by
  intro u hu
  obtain ⟨l, r⟩ := bal_bd hw hu hc hs
  unfold cbB at hb
  have b1 := (Bool.or_eq_false_iff.mp hb).2
  unfold hoB
  rw [decide_eq_false (fun g => ?_), Bool.false_and]
  have c1 : liZ w v n s + wsF w U 8 * armZ n s ≤ mostK k h := by omega
  have c2 : -(mostK k h) ≤ liZ w v n s + wsF w U 8 * armZ n (n - 1) := by omega
  rw [decide_eq_true c1, decide_eq_true c2] at b1
  exact Bool.noConfusion b1
/-- at a complete row the class's looks say what holds -/
theorem leaf_ho {B : Nat → Int32} {ov : Int32} {w : Nat → Int32} {h : Int32} {v : Nat → Int32} {k n : Nat} (h1 : 1 ≤ n) (h8 : n ≤ 8) (hw : wok w) (hv : pvs v n) (hc : ∀ t p, t < n → p < 8 → v t = nI p → ckB B ov v k t p = true) : hoB B ov w h v k n = (cbB k n n h (liZ w v n n) 0 && clB B ov v k n) := by
  have bd := (li_toInt h1 h8 hw hv n (Nat.le_refl n)).2
  have e1 : cbB k n n h (liZ w v n n) 0 = decide (-(mostK k h) ≤ liZ w v n n ∧ liZ w v n n ≤ mostK k h) := by
    unfold cbB
    rw [Int.zero_mul, Int.zero_mul, Int.add_zero]
    apply Bool.eq_iff_iff.mpr
    simp only [Bool.or_eq_true, Bool.and_eq_true, decide_eq_true_eq]
    omega
  have e2 : clB B ov v k n = decide (fwF B ov v k n n 0 = -1) := by
    cases ec : clB B ov v k n with
    | true => exact (decide_eq_true (ck_good h1 h8 hv (fun s p hs hp e => hc s p hs hp e) (cl_good h8 ec))).symm
    | false => exact (decide_eq_false (cl_bad h8 ec)).symm
  rw [e1, e2]
  rfl
/-- what a stretch of the class's filling has left behind -/
def FX (n s E : Nat) (G : List (Nat → Int32)) (F : Nat) (σ σ' : Mm) : Prop := (∀ t i, ¬ (t = 1 ∧ i = 16) → ¬ (t = 9 ∧ i = 0) → ¬ (t = 8 ∧ i = 0) → σ' t i = σ t i) ∧ (∀ j, j ≠ 5 → σ' 8 0 j = σ 8 0 j) ∧ (∀ j, j < s → σ' 1 16 j = σ 1 16 j) ∧ (∀ j, j ≤ s → σ' 9 0 j = σ 9 0 j) ∧ ((F + G.length < E ∧ σ' 8 0 5 = nI (F + G.length)) ∨ (E ≤ F + G.length ∧ σ' 8 0 5 = nI E ∧ ∃ u, G[E - F - 1]? = some u ∧ ∀ j, j < n → σ' 1 16 j = u j))
theorem FX.tr {n s s' E F : Nat} {G G' : List (Nat → Int32)} {a b c : Mm} (h : FX n s E G F a b) (hl : F + G.length < E) (k : FX n s' E G' (F + G.length) b c) (hs : s ≤ s') : FX n s E (G ++ G') F a c := by
  obtain ⟨h1, h2, h3, h4, -⟩ := h
  obtain ⟨k1, k2, k3, k4, k5⟩ := k
  refine ⟨fun t i x y z => (k1 t i x y z).trans (h1 t i x y z), fun j x => (k2 j x).trans (h2 j x), fun j x => (k3 j (by omega)).trans (h3 j x), fun j x => (k4 j (by omega)).trans (h4 j x), ?_⟩
  rw [List.length_append, ← Nat.add_assoc]
  rcases k5 with ⟨x, y⟩ | ⟨x, y, u, hu, hv⟩
  · exact Or.inl ⟨x, y⟩
  · refine Or.inr ⟨x, y, u, ?_, hv⟩
    rw [List.getElem?_append_right (by omega), show E - F - 1 - G.length = E - (F + G.length) - 1 by omega]
    exact hu
theorem FX.stop {n s E F : Nat} {G G' : List (Nat → Int32)} {a b : Mm} (h : FX n s E G F a b) (hF : F < E) (hl : ¬ F + G.length < E) : FX n s E (G ++ G') F a b := by
  obtain ⟨h1, h2, h3, h4, h5⟩ := h
  refine ⟨h1, h2, h3, h4, ?_⟩
  rw [List.length_append, ← Nat.add_assoc]
  rcases h5 with ⟨x, y⟩ | ⟨x, y, u, hu, hv⟩
  · exact absurd x hl
  · refine Or.inr ⟨by omega, y, u, ?_, hv⟩
    rw [List.getElem?_append_left (by omega)]
    exact hu
/-- one who is pinned to a seat: (person, seat) -/
def pinB : Option (Nat × Nat) → (Nat → Int32) → Bool
  | none, _ => true
  | some q, u => decide (u q.2 = nI q.1)
def pinA : Option (Nat × Nat) → Nat → Int32 → Bool
  | none, _, _ => true
  | some q, s, x => !decide (s = q.2) || decide (x = nI q.1)
def PinS (σ : Mm) : Option (Nat × Nat) → Prop
  | none => σ 8 0 8 = -1
  | some q => σ 8 0 8 = nI q.2 ∧ σ 8 0 7 = nI q.1 ∧ q.1 < 8 ∧ q.2 < 8
theorem pin_X {P : Option (Nat × Nat)} {s : Nat} {x : Int32} {σ : Mm} {K : Bool → Mm → Prop} (hs : s ≤ 8) (hP : PinS σ P) (h : K (pinA P s x) σ) : f_X3_pinAllows (nI s) x σ K := by
  unfold f_X3_pinAllows
  cases P with
  | none =>
    rw [show σ 8 0 8 = -1 from hP, if_neg (nI_ne_m1 (by omega))]
    exact h
  | some q =>
    obtain ⟨e8, e7, q1, q2⟩ := hP
    have h : K (!decide (s = q.2) || decide (x = nI q.1)) σ := h
    rw [e8, e7]
    by_cases c : s = q.2
    · rw [decide_eq_true c, Bool.not_true, Bool.false_or] at h
      rw [if_pos (by rw [c])]
      by_cases d : x = nI q.1
      · rw [if_pos d]; rw [decide_eq_true d] at h; exact h
      · rw [if_neg d]; rw [decide_eq_false d] at h; exact h
    · rw [decide_eq_false c, Bool.not_false, Bool.true_or] at h
      rw [if_neg (fun g => c ((nI_eq (by omega) (by omega)).mp g))]
      exact h
