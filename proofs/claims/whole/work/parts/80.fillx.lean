/-! PURE: the class fills a row, seat by seat -/
theorem filt_nil {f : (Nat → Int32) → Bool} {l : List (Nat → Int32)} (h : ∀ u, u ∈ l → f u = false) : l.filter f = [] :=
  List.filter_eq_nil_iff.mpr (fun u hu e => by rw [h u hu] at e; exact Bool.noConfusion e)
/-- what stays while the class fills -/
def FS (B : Nat → Int32) (ov : Int32) (w : Nat → Int32) (h : Int32) (k n E : Nat) (P : Option (Nat × Nat)) (σ : Mm) : Prop := σ 3 0 = B ∧ σ 2 0 2 = ov ∧ σ 4 0 = w ∧ σ 0 16 0 = nI k ∧ σ 0 16 1 = nI n ∧ σ 8 0 3 = nI (reaK k) ∧ (σ 8 0 4).toInt = mostK k h ∧ σ 8 0 6 = nI E ∧ PinS σ P
theorem PinS.to {σ σ' : Mm} {P : Option (Nat × Nat)} (h : PinS σ P) (e7 : σ' 8 0 7 = σ 8 0 7) (e8 : σ' 8 0 8 = σ 8 0 8) : PinS σ' P := by
  cases P with
  | none => exact e8.trans h
  | some q => exact ⟨e8.trans h.1, e7.trans h.2.1, h.2.2⟩
theorem FS.fx {B : Nat → Int32} {ov : Int32} {w : Nat → Int32} {h : Int32} {k n E s F : Nat} {P : Option (Nat × Nat)} {G : List (Nat → Int32)} {σ σ' : Mm} (x : FS B ov w h k n E P σ) (y : FX n s E G F σ σ') : FS B ov w h k n E P σ' := by
  obtain ⟨x1, x2, x3, x4, x5, x6, x7, x8, x9⟩ := x
  obtain ⟨y1, y2, -⟩ := y
  exact ⟨by rw [y1 3 0 (by omega) (by omega) (by omega)]; exact x1, by rw [y1 2 0 (by omega) (by omega) (by omega)]; exact x2, by rw [y1 4 0 (by omega) (by omega) (by omega)]; exact x3, by rw [y1 0 16 (by omega) (by omega) (by omega)]; exact x4, by rw [y1 0 16 (by omega) (by omega) (by omega)]; exact x5, by rw [y2 3 (by omega)]; exact x6, by rw [y2 4 (by omega)]; exact x7, by rw [y2 6 (by omega)]; exact x8, x9.to (y2 7 (by omega)) (y2 8 (by omega))⟩
theorem FX.nil {n s E F : Nat} {σ : Mm} (h5 : σ 8 0 5 = nI F) (hF : F < E) : FX n s E [] F σ σ := ⟨fun _ _ _ _ _ => rfl, fun _ _ => rfl, fun _ _ => rfl, fun _ _ => rfl, Or.inl ⟨hF, h5⟩⟩
/-- one sits down (or nobody), and the last taken seat is told -/
theorem FX.sit {n s E F : Nat} {σ : Mm} {x y : Int32} (h5 : σ 8 0 5 = nI F) (hF : F < E) : FX n s E [] F σ (mset (mset σ 1 16 s x) 9 0 (s + 1) y) := by
  refine ⟨fun t i a b c => by rw [mset_ne b, mset_ne a], fun j hj => by rw [mset_ne (by omega), mset_ne (by omega)], fun j hj => ?_, fun j hj => ?_, Or.inl ⟨hF, ?_⟩⟩
  · rw [mset_ne (by omega), mset_ap, if_neg (by omega)]
  · rw [mset_ap, if_neg (by omega), mset_ne (by omega)]
  · rw [mset_ne (by omega), mset_ne (by omega)]; exact h5
theorem wsF_le {w : Nat → Int32} {U : Int32} (hw : wok w) : ∀ N, N ≤ 8 → wsF w U N ≤ 99 * (N : Int) := by
  intro N
  induction N with
  | zero => intro _; exact Int.le_refl 0
  | succ N ih =>
    intro h
    unfold wsF
    have := ih (by omega)
    obtain ⟨x, x1, x2, ex⟩ := hw N (by omega)
    by_cases c : bt U N = true
    · rw [if_pos c, ex, nI_toInt (by omega)]; omega
    · rw [if_neg c]; omega
theorem pin_none {P : Option (Nat × Nat)} {s : Nat} {y : Int32} {u : Nat → Int32} (h : pinA P s y = false) (hu : u s = y) : pinB P u = false := by
  cases P with
  | none => exact Bool.noConfusion h
  | some q =>
    have h : (!decide (s = q.2) || decide (y = nI q.1)) = false := h
    obtain ⟨h1, h2⟩ := Bool.or_eq_false_iff.mp h
    have e : s = q.2 := by
      by_cases c : s = q.2
      · exact c
      · rw [decide_eq_false c] at h1; exact Bool.noConfusion h1
    show decide (u q.2 = nI q.1) = false
    rw [← e, hu]; exact h2
theorem pin_step {P : Option (Nat × Nat)} {s : Nat} {y : Int32} {v : Nat → Int32} (h : pinA P s y = true) (hP : ∀ q, P = some q → q.2 < s → v q.2 = nI q.1) : ∀ q, P = some q → q.2 < s + 1 → upd v s y q.2 = nI q.1 := by
  intro q e hq
  subst e
  by_cases c : q.2 = s
  · rw [c, upd_eq]
    have h : (!decide (s = q.2) || decide (y = nI q.1)) = true := h
    rw [c, decide_eq_true (p := s = s) rfl, Bool.not_true, Bool.false_or] at h
    exact of_decide_eq_true h
  · rw [upd_ne c]; exact hP q rfl (by omega)
theorem hm_of {B : Nat → Int32} {ov : Int32} {w : Nat → Int32} {h : Int32} (k : Nat) (hpp : PP B ov w h) : mostK k h = 1000000 ∨ (0 ≤ mostK k h ∧ mostK k h ≤ 2000) := by
  obtain ⟨-, -, -, x, hx, rfl⟩ := hpp
  unfold mostK
  rw [nI_toInt (by omega)]
  split
  · omega
  · split
    · omega
    · exact Or.inl rfl
theorem pv_upd {v : Nat → Int32} {s : Nat} {x : Int32} (h : ∀ j, pv (v j)) (hx : pv x) : ∀ j, pv (upd v s x j) := by
  intro j
  by_cases c : j = s
  · subst c; rw [upd_eq]; exact hx
  · rw [upd_ne c]; exact h j
theorem ck_step {B : Nat → Int32} {ov : Int32} {v : Nat → Int32} {k s : Nat} {x : Int32} (hc : ∀ t p, t < s → p < 8 → v t = nI p → ckB B ov v k t p = true) (hx : ∀ p, p < 8 → x = nI p → ckB B ov v k s p = true) : ∀ t p, t < s + 1 → p < 8 → upd v s x t = nI p → ckB B ov (upd v s x) k t p = true := by
  intro t p ht hp e
  rw [ckB_congr (v' := v) (fun j hj => upd_ne (by omega))]
  by_cases c : t = s
  · subst c; rw [upd_eq] at e; exact hx p hp e
  · rw [upd_ne c] at e; exact hc t p (by omega) hp e
/-- the premises of filling from a seat on -/
def FP (B : Nat → Int32) (ov : Int32) (w : Nat → Int32) (k n E : Nat) (P : Option (Nat × Nat)) (s F : Nat) (v : Nat → Int32) (σ : Mm) : Prop := σ 8 0 5 = nI F ∧ F < E ∧ (∀ j, j < s → σ 1 16 j = v j) ∧ (∀ j, j ≤ s → σ 9 0 j = ltV (lastT v j)) ∧ (∀ j, pv (v j)) ∧ (∀ t p, t < s → p < 8 → v t = nI p → ckB B ov v k t p = true) ∧ (∀ q, P = some q → q.2 < s → v q.2 = nI q.1)
theorem FP.fx {B : Nat → Int32} {ov : Int32} {w : Nat → Int32} {k n E s s' F : Nat} {P : Option (Nat × Nat)} {G : List (Nat → Int32)} {v : Nat → Int32} {σ σ' : Mm} (x : FP B ov w k n E P s F v σ) (y : FX n s' E G F σ σ') (hs : s ≤ s') (hl : F + G.length < E) : FP B ov w k n E P s (F + G.length) v σ' := by
  obtain ⟨x1, x2, x3, x4, x5⟩ := x
  obtain ⟨y1, y2, y3, y4, y5⟩ := y
  refine ⟨?_, hl, fun j hj => (y3 j (by omega)).trans (x3 j hj), fun j hj => (y4 j (by omega)).trans (x4 j hj), x5⟩
  rcases y5 with ⟨_, y⟩ | ⟨y, _⟩
  · exact y
  · omega
theorem stop_97 {a1 a2 a3 a4 a5 : Int32} {FF : Int32 → Int32 → Int32 → Int32 → Int32 → Mm → (Mm → Prop) → Prop} {K : Mm → Prop} {m : Nat} {a6 : Int32} {σ : Mm} (h : σ 8 0 6 = σ 8 0 5) (hK : K σ) : f_X3_fill_97 a1 a2 a3 a4 a5 FF K (m + 1) a6 σ := by
  rw [f_X3_fill_97]
  by_cases c : (8 : Int32) ≤ a6
  · rw [if_pos c]; exact hK
  · rw [if_neg c, if_pos (by rw [h]; exact Int32.le_refl _)]; exact hK
def fil (B : Nat → Int32) (ov : Int32) (w : Nat → Int32) (h : Int32) (k n : Nat) (P : Option (Nat × Nat)) (u : Nat → Int32) : Bool := hoB B ov w h u k n && pinB P u
