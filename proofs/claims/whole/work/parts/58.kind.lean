/-! PURE: bits of a set of seats; kind -/
theorem bt_and1 (a : Int32) (k : Nat) (hk : k < 31) : ∀ i, i < 32 → bt ((a >>> (nI k &&& 31)) &&& (1 : Int32)) i = (decide (i = 0) && bt a k) := by
  intro i hi
  rw [b_and, b_sshr k (by omega) a hi]
  have e1 : bt (1 : Int32) i = decide (i = 0) := by
    have : ∀ i, i < 32 → bt (1 : Int32) i = decide (i = 0) := by decide +kernel
    exact this i hi
  rw [e1]
  by_cases c : i = 0
  · subst c
    rw [if_pos (by omega)]
    simp
  · simp [c]
theorem has_ev (a : Int32) (k : Nat) (hk : k < 31) : ((a >>> (nI k &&& 31)) &&& (1 : Int32)) = if bt a k = true then (1 : Int32) else 0 := by
  apply b_ext
  intro i hi
  rw [bt_and1 a k hk i hi]
  have e1 : ∀ i, i < 32 → bt (1 : Int32) i = decide (i = 0) := by decide +kernel
  cases e : bt a k with
  | true => rw [if_pos rfl, e1 i hi, Bool.and_true]
  | false => rw [if_neg (by decide), b_0, Bool.and_false]
theorem has_X {a : Int32} {k : Nat} (hk : k < 31) {σ : Mm} {K : Bool → Mm → Prop} (h : K (bt a k) σ) : f_X6_has a (nI k) σ K := by
  unfold f_X6_has
  rw [has_ev a k hk]
  cases e : bt a k with
  | true => rw [if_pos rfl, if_neg (by decide)]; rw [e] at h; exact h
  | false => rw [if_pos (by decide)]; rw [e] at h; exact h
theorem has_Y {a : Int32} {k : Nat} (hk : k < 31) {σ : Mm} {K : Bool → Mm → Prop} (h : K (bt a k) σ) : f_X7_has a (nI k) σ K := by
  unfold f_X7_has
  rw [has_ev a k hk]
  cases e : bt a k with
  | true => rw [if_pos rfl, if_pos rfl]; rw [e] at h; exact h
  | false => rw [if_neg (by decide)]; rw [e] at h; exact h
theorem bt_1 (n : Nat) (hn : n < 32) (i : Nat) (hi : i < 32) : bt ((1 : Int32) <<< (nI n &&& 31)) i = decide (i = n) := by
  rw [b_shl n hn _ hi]
  have e1 : ∀ i, i < 32 → bt (1 : Int32) i = decide (i = 0) := by decide +kernel
  rw [e1 (i - n) (by omega)]
  by_cases c : i = n
  · subst c; simp
  · rw [decide_eq_false (p := i = n) c]
    by_cases d : n ≤ i
    · rw [decide_eq_false (p := i - n = 0) (by omega), Bool.and_false]
    · rw [decide_eq_false d, Bool.false_and]
theorem mayF_bt {B : Nat → Int32} {ov : Int32} {w : Nat → Int32} {h : Int32} {v : Nat → Int32} {k n p : Nat} (j : Nat) (hj : j < 32) : ∀ s, s ≤ 8 → bt (mayF B ov w h v k n p s) j = (decide (j < s) && (decide (v j = -1) && hoB B ov w h (upd v j (nI p)) k n)) := by
  intro s
  induction s with
  | zero => intro _; show bt 0 j = _; rw [b_0]; simp
  | succ s ih =>
    intro hs
    unfold mayF
    have ih := ih (by omega)
    by_cases c : v s = -1 ∧ hoB B ov w h (upd v s (nI p)) k n = true
    · rw [if_pos c, b_or, bt_1 s (by omega) j hj, ih]
      by_cases d : j = s
      · subst d
        rw [decide_eq_true (p := j = j) rfl, Bool.or_true, decide_eq_true (p := j < j + 1) (by omega), decide_eq_true c.1, c.2]
        rfl
      · rw [decide_eq_false d, Bool.or_false]
        congr 1
        exact decide_eq_decide.mpr (by omega)
    · rw [if_neg c, ih]
      by_cases d : j = s
      · subst d
        rw [decide_eq_false (p := j < j) (by omega), Bool.false_and]
        by_cases e : v j = -1
        · have : hoB B ov w h (upd v j (nI p)) k n = false := by
            cases g : hoB B ov w h (upd v j (nI p)) k n with
            | false => rfl
            | true => exact absurd ⟨e, g⟩ c
          rw [this, Bool.and_false, Bool.and_false]
        · rw [decide_eq_false e, Bool.false_and, Bool.and_false]
      · congr 1
        exact decide_eq_decide.mpr (by omega)
theorem mayF_free {B : Nat → Int32} {ov : Int32} {w : Nat → Int32} {h : Int32} {v : Nat → Int32} {k n p j : Nat} (h8 : n ≤ 8) (hj : j < 32) (e : bt (mayF B ov w h v k n p n) j = true) : j < n ∧ v j = -1 ∧ hoB B ov w h (upd v j (nI p)) k n = true := by
  rw [mayF_bt j hj n h8] at e
  have e1 := (Bool.and_eq_true _ _).mp e
  have e2 := (Bool.and_eq_true _ _).mp e1.2
  exact ⟨of_decide_eq_true e1.1, of_decide_eq_true e2.1, e2.2⟩
/-- how many others still find a seat -/
def othF (T : Nat → Bool) (M : Nat → Int32) (p : Nat) : Nat → Nat
  | 0 => 0
  | q + 1 => if ¬ q = p ∧ T q = true ∧ ¬ M q = 0 then othF T M p q + 1 else othF T M p q
theorem othF_le (T : Nat → Bool) (M : Nat → Int32) (p : Nat) : ∀ q, othF T M p q ≤ q := by
  intro q
  induction q with
  | zero => exact Nat.le_refl 0
  | succ q ih => unfold othF; split <;> omega
theorem othF_congr {T T' : Nat → Bool} {M M' : Nat → Int32} {p : Nat} (hT : ∀ q, q < 8 → ¬ q = p → T q = T' q) (hM : ∀ q, q < 8 → ¬ q = p → T q = true → M q = M' q) : ∀ q, q ≤ 8 → othF T M p q = othF T' M' p q := by
  intro q
  induction q with
  | zero => intro _; rfl
  | succ q ih =>
    intro hq
    unfold othF
    rw [ih (by omega)]
    by_cases c : q = p
    · rw [if_neg (fun g => g.1 c), if_neg (fun g => g.1 c)]
    · rw [← hT q (by omega) c]
      by_cases d : T q = true
      · rw [hM q (by omega) c d]
      · rw [if_neg (fun g => d g.2.1), if_neg (fun g => d g.2.1)]
theorem nowB (m : Nat → Int32) (nb : Nat) : ∃ T : Nat → Bool, ∀ q, T q = true ↔ Nowh m nb q := ⟨fun q => @decide _ (Classical.propDecidable (Nowh m nb q)), fun q => ⟨fun h => @of_decide_eq_true _ (Classical.propDecidable _) h, fun h => @decide_eq_true _ (Classical.propDecidable _) h⟩⟩
theorem at_not {m : Nat → Int32} {nb p b s : Nat} (h : At m nb p b s) : ¬ Nowh m nb p := fun g => g b s h.1 h.2.1 h.2.2
theorem oth_X {σ : Mm} {m : Nat → Int32} {nb k n p : Nat} {T : Nat → Bool} {K : Int32 → Mm → Prop} (hr : RI σ 0 m nb) (hT : ∀ q, T q = true ↔ Nowh m nb q) (hp : p < 8) (hk : k < 7) (ek : σ 0 15 0 = nI k) (en : σ 0 15 1 = nI n) (h1 : 1 ≤ n) (h8 : n ≤ 8) (hv : pvs (σ 1 15) n) (h : K (nI (othF T (fun q => mayF (σ 3 0) (σ 2 0 2) (σ 4 0) (σ 2 0 3) (σ 1 15) k n q n) p 8)) σ) : f_X6_othersWithSeat (nI p) σ K := by
  have main : ∀ (d q : Nat), q + d = 8 → f_X6_othersWithSeat_4 (nI p) K (d + 1) (nI (othF T (fun q => mayF (σ 3 0) (σ 2 0 2) (σ 4 0) (σ 2 0 3) (σ 1 15) k n q n) p q)) (nI q) σ := by
    intro d
    induction d with
    | zero =>
      intro q hq
      have : q = 8 := by omega
      subst this
      rw [f_X6_othersWithSeat_4, if_pos (by decide)]
      exact h
    | succ d ih =>
      intro q hq
      have nx := ih (q + 1) (by omega)
      unfold othF at nx
      rw [f_X6_othersWithSeat_4, if_neg (show ¬ (8 : Int32) ≤ nI q from nI_ge (a := q) (b := 8) (by omega) (by omega)), nI_1, nI_1]
      by_cases c : q = p
      · subst c
        rw [if_pos rfl]
        rw [if_neg (fun g => g.1 rfl)] at nx
        exact nx
      · rw [if_neg (fun g => c ((nI_eq (by omega) (by omega)).mp g))]
        rcases at_or m nb q with ⟨b, s, ha⟩ | hn
        · have hb := ha.1
          have h5 := hr.2.nb
          refine ⟨by omega, with_at hr (by omega) (by omega) ha ?_⟩
          rw [if_neg (nI_ne_m1 (by omega))]
          refine itt ?_
          rw [if_neg (fun g => at_not ha ((hT q).mp g.2.1))] at nx
          exact nx
        · refine ⟨by omega, with_no hr (by omega) hn ?_⟩
          rw [if_pos rfl]
          refine itf (seatsFor_X (by omega) (by omega) (by omega) hk ek en h1 h8 hv hr.pp ?_)
          by_cases e : mayF (σ 3 0) (σ 2 0 2) (σ 4 0) (σ 2 0 3) (σ 1 15) k n q n = 0
          · rw [if_pos e]
            rw [if_neg (fun g => g.2.2 e)] at nx
            exact nx
          · rw [if_neg e]
            rw [if_pos ⟨c, (hT q).mpr hn, e⟩] at nx
            exact nx
  exact ⟨9, main 8 0 (by omega)⟩
theorem oth_Y {σ μ : Mm} {nb b k n p : Nat} {T : Nat → Bool} {K : Int32 → Mm → Prop} (hr : RI σ 0 (μ 1 0) nb) (hT : ∀ q, q < 8 → ¬ q = p → (T q = true ↔ Nowh (μ 1 0) nb q)) (hp : p < 8) (hb : b < nb) (hk : k < 7) (ek : μ 1 0 (76 + 10 * b) = nI k) (en : μ 1 0 (77 + 10 * b) = nI n) (h1 : 1 ≤ n) (h8 : n ≤ 8) (h : ∀ μ', SY μ μ' → K (nI (othF T (fun q => mayF (σ 3 0) (σ 2 0 2) (σ 4 0) (σ 2 0 3) (σ 1 (5 * 0 + b)) k n q n) p 8)) μ') : f_X7_stillMay (nI p) (nI b) μ K := by
  have main : ∀ (d q : Nat) (μ' : Mm), q + d = 8 → SY μ μ' → f_X7_stillMay_5 (nI p) (nI b) K (d + 1) (nI (othF T (fun q => mayF (σ 3 0) (σ 2 0 2) (σ 4 0) (σ 2 0 3) (σ 1 (5 * 0 + b)) k n q n) p q)) (nI q) μ' := by
    intro d
    induction d with
    | zero =>
      intro q μ' hq hy
      have : q = 8 := by omega
      subst this
      rw [f_X7_stillMay_5, if_pos (by decide)]
      exact h μ' hy
    | succ d ih =>
      intro q μ' hq hy
      rw [f_X7_stillMay_5, if_neg (show ¬ (8 : Int32) ≤ nI q from nI_ge (a := q) (b := 8) (by omega) (by omega)), nI_1, nI_1, i32_add0]
      by_cases c : q = p
      · have nx := ih (q + 1) μ' (by omega) hy
        unfold othF at nx
        subst c
        rw [if_pos rfl]
        rw [if_neg (fun g => g.1 rfl)] at nx
        exact nx
      · rw [if_neg (fun g => c ((nI_eq (by omega) (by omega)).mp g))]
        have hr' : RI σ 0 (μ' 1 0) nb := by rw [hy.m]; exact hr
        rcases at_or (μ' 1 0) nb q with ⟨b', s, ha⟩ | hn
        · have hb' := ha.1
          have hs' := ha.2.1
          have h5 := hr.2.nb
          have nx := ih (q + 1) μ' (by omega) hy
          unfold othF at nx
          refine where_at hr'.2 (by omega) ha ?_
          rw [if_pos (nI_pos' (by omega))]
          rw [if_neg (fun g => at_not ha (by rw [hy.m]; exact (hT q (by omega) c).mp g.2.1))] at nx
          exact nx
        · refine where_no hr'.2 hn ?_
          rw [if_neg (by decide)]
          refine mayOn_Y hr' (by omega) hb hk (by rw [hy.m]; exact ek) (by rw [hy.m]; exact en) h1 h8 (fun μ2 hy2 => ?_)
          have nx := ih (q + 1) μ2 (by omega) (hy.tr hy2)
          unfold othF at nx
          have ev : mayF (σ 3 0) (σ 2 0 2) (σ 4 0) (σ 2 0 3) (σ 1 (5 * 0 + b)) k n q n = mayS σ b k n q := mayF_congr h1 (fun _ _ => rfl) (fun _ _ => rfl) (by omega) (hr.pvs hb h8) (fun j hj => (wo_no hr' hn hb h8 j hj).symm) n (Nat.le_refl n)
          rw [← ev]
          by_cases e : mayF (σ 3 0) (σ 2 0 2) (σ 4 0) (σ 2 0 3) (σ 1 (5 * 0 + b)) k n q n = 0
          · rw [if_pos e]
            rw [if_neg (fun g => g.2.2 e)] at nx
            exact nx
          · rw [if_neg e]
            rw [if_pos ⟨c, (hT q (by omega) c).mpr (by rw [← hy.m]; exact hn), e⟩] at nx
            exact nx
  exact ⟨9, main 8 0 μ (by omega) SY.rf⟩
/-- the kindest seat so far, and how many others it leaves a seat -/
def kdF (M : Int32) (C : Nat → Nat) : Nat → Option (Nat × Nat)
  | 0 => none
  | s + 1 => if bt M s = true then (match kdF M C s with
      | none => some (s, C s)
      | some x => if C s ≤ x.2 then some x else some (s, C s)) else kdF M C s
def kd4 : Option (Nat × Nat) → Int32
  | none => -1
  | some x => nI x.1
def kd5 (z : Int32) : Option (Nat × Nat) → Int32
  | none => z
  | some x => nI x.2
theorem kdF_bd {M : Int32} {C : Nat → Nat} (hC : ∀ s, C s ≤ 8) : ∀ s x, kdF M C s = some x → x.1 < s ∧ x.2 ≤ 8 := by
  intro s
  induction s with
  | zero => intro x h; exact absurd h (by unfold kdF; simp)
  | succ s ih =>
    intro x h
    unfold kdF at h
    by_cases c : bt M s = true
    · rw [if_pos c] at h
      cases e : kdF M C s with
      | none =>
        rw [e] at h
        have := Option.some.inj h
        subst this
        exact ⟨by show s < s + 1; omega, hC s⟩
      | some y =>
        rw [e] at h
        have iy := ih y e
        dsimp only at h
        by_cases d : C s ≤ y.2
        · rw [if_pos d] at h
          have := Option.some.inj h
          subst this
          exact ⟨by omega, iy.2⟩
        · rw [if_neg d] at h
          have := Option.some.inj h
          subst this
          exact ⟨by show s < s + 1; omega, hC s⟩
    · rw [if_neg c] at h
      have := ih x h
      exact ⟨by omega, this.2⟩
theorem kd_X {σ : Mm} {m : Nat → Int32} {nb k n p : Nat} {M : Int32} {T : Nat → Bool} {K : Int32 → Mm → Prop} (hr : RI σ 0 m nb) (hT : ∀ q, T q = true ↔ Nowh m nb q) (hp : p < 8) (hk : k < 7) (ek : σ 0 15 0 = nI k) (en : σ 0 15 1 = nI n) (h1 : 1 ≤ n) (h8 : n ≤ 8) (hv : pvs (σ 1 15) n) (hM : ∀ s, s < n → bt M s = true → σ 1 15 s = -1) {C : Nat → Nat} (hC : ∀ s, C s = othF T (fun q => mayF (σ 3 0) (σ 2 0 2) (σ 4 0) (σ 2 0 3) (upd (σ 1 15) s (nI p)) k n q n) p 8) (h : if kd4 (kdF M C n) = (-1 : Int32) then f_X6_finding (3 : Int32) σ (fun r10 σ9 => K r10 σ9) else K (kd4 (kdF M C n)) σ) : ∃ m, f_X6_kind_37 (nI p) M K m (-1 : Int32) (-1 : Int32) (0 : Int32) σ := by
  have C8 : ∀ s, C s ≤ 8 := fun s => by rw [hC s]; exact othF_le _ _ _ 8
  have main : ∀ (d s : Nat), s + d = n → f_X6_kind_37 (nI p) M K (d + 1) (kd4 (kdF M C s)) (kd5 (-1) (kdF M C s)) (nI s) σ := by
    intro d
    induction d with
    | zero =>
      intro s hs
      have : s = n := by omega
      subst this
      rw [f_X6_kind_37, en, if_pos (nI_le (by omega) (by omega))]
      exact h
    | succ d ih =>
      intro s hs
      have nx := ih (s + 1) (by omega)
      rw [f_X6_kind_37, en, if_neg (nI_ge (by omega) (by omega))]
      refine has_X (by omega) ?_
      unfold kdF at nx
      cases eb : bt M s with
      | false =>
        rw [eb, if_neg (by decide)] at nx
        refine itf ?_
        rw [nI_1]; exact nx
      | true =>
        rw [eb, if_pos rfl] at nx
        have t : vp_in (nI s) 8 := vp_in_nI (by omega) (by omega)
        refine itt ?_
        rw [nI_clamp (by omega), nI_1]
        refine ⟨t, _, rfl, ?_⟩
        have hr' : RI (mset σ 1 15 s (nI p)) 0 m nb := hr.scr (by omega) (Scr.set (by omega))
        refine oth_X hr' hT hp hk (k := k) (n := n) ?_ ?_ h1 h8 ?_ ?_
        · rw [mset_ne (by omega)]; exact ek
        · rw [mset_ne (by omega)]; exact en
        · rw [mset_eq]; exact pvs_upd hv (pv_nI hp)
        · rw [mset_ne (by omega), mset_ne (by omega), mset_ne (by omega), mset_eq, ← hC s]
          refine ⟨t, _, rfl, ?_⟩
          rw [mset_back (hM s (by omega) eb)]
          cases e : kdF M C s with
          | none =>
            rw [e] at nx
            rw [show kd5 (-1) (none : Option (Nat × Nat)) = -1 from rfl, if_neg (m1_not_le (by have := C8 s; omega))]
            exact nx
          | some x =>
            rw [e] at nx
            dsimp only at nx
            have bd := kdF_bd C8 s x e
            by_cases c : C s ≤ x.2
            · rw [if_pos c] at nx
              rw [if_pos (show nI (C s) ≤ kd5 (-1) (some x) from nI_le c (by omega))]
              exact nx
            · rw [if_neg c] at nx
              rw [if_neg (show ¬ nI (C s) ≤ kd5 (-1) (some x) from nI_ge (by omega) (by have := C8 s; omega))]
              exact nx
  exact ⟨n + 1, main n 0 (by omega)⟩
theorem nowh_upd {m : Nat → Int32} {nb p q j : Nat} (hp : p < 8) (hq : q < 8) (hne : ¬ q = p) (hj : ∀ b s, b < nb → s < 8 → 78 + 10 * b + s = j → m j = -1) : Nowh (upd m j (nI p)) nb q ↔ Nowh m nb q := by
  constructor
  · intro h b s hb hs e
    refine h b s hb hs ?_
    by_cases c : 78 + 10 * b + s = j
    · have := hj b s hb hs c
      rw [c, this] at e
      exact absurd e.symm (nI_ne_m1 (by omega))
    · rw [upd_ne c]; exact e
  · intro h b s hb hs e
    by_cases c : 78 + 10 * b + s = j
    · rw [c, upd_eq] at e
      exact hne ((nI_eq (by omega) (by omega)).mp e).symm
    · rw [upd_ne c] at e
      exact h b s hb hs e
theorem kd_Y {σ μ : Mm} {nb b k n p : Nat} {M : Int32} {T : Nat → Bool} {K : Int32 → Mm → Prop} {k138 : Int32 → Mm → Prop} (hr : RI σ 0 (μ 1 0) nb) (hN : Nowh (μ 1 0) nb p) (hT : ∀ q, q < 8 → ¬ q = p → (T q = true ↔ Nowh (μ 1 0) nb q)) (hp : p < 8) (hb : b < nb) (hk : k < 7) (ek : μ 1 0 (76 + 10 * b) = nI k) (en : μ 1 0 (77 + 10 * b) = nI n) (h1 : 1 ≤ n) (h8 : n ≤ 8) (hM : ∀ s, s < n → bt M s = true → μ 1 0 (78 + 10 * b + s) = -1) {C : Nat → Nat} (C8 : ∀ s, C s ≤ 8) (hC : ∀ s, s < n → othF T (fun q => mayF (σ 3 0) (σ 2 0 2) (σ 4 0) (σ 2 0 3) (upd (σ 1 (5 * 0 + b)) s (nI p)) k n q n) p 8 = C s) (h : ∀ μ', SY μ μ' → k138 (kd4 (kdF M C n)) μ') : ∃ m, f_X7_kind_55 (nI p) (nI b) M K k138 m (-1 : Int32) (0 : Int32) (0 : Int32) μ := by
  have h5 := hr.2.nb
  have main : ∀ (d s : Nat) (μ' : Mm), s + d = n → SY μ μ' → f_X7_kind_55 (nI p) (nI b) M K k138 (d + 1) (kd4 (kdF M C s)) (kd5 0 (kdF M C s)) (nI s) μ' := by
    intro d
    induction d with
    | zero =>
      intro s μ' hs hy
      have : s = n := by omega
      subst this
      rw [f_X7_kind_55]
      refine seatsOf_Y (by omega) ?_
      rw [hy.m, en, if_pos (nI_le (by omega) (by omega))]
      exact h μ' hy
    | succ d ih =>
      intro s μ' hs hy
      rw [f_X7_kind_55]
      refine seatsOf_Y (by omega) ?_
      rw [hy.m, en, if_neg (nI_ge (by omega) (by omega))]
      refine has_Y (by omega) ?_
      cases eb : bt M s with
      | false =>
        have nx := ih (s + 1) μ' (by omega) hy
        unfold kdF at nx
        rw [eb, if_neg (by decide)] at nx
        refine itf ?_
        rw [nI_1]; exact nx
      | true =>
        have t : vp_in (nI (78 + 10 * b + s)) 136 := vp_in_nI (by omega) (by omega)
        have mm := hM s (by omega) eb
        refine itt ?_
        rw [at_Y (by omega) (by omega), nI_clamp (by omega), nI_1]
        refine ⟨t, _, rfl, ?_⟩
        have hI2 : RI (mset σ 1 (5 * 0 + b) s (nI p)) 0 (mset μ' 1 0 (78 + 10 * b + s) (nI p) 1 0) nb := by
          rw [mset_eq, hy.m]
          exact hr.seat hb en h8 (by omega) (pv_nI hp) (Or.inr (fun b' s' g1 g2 g3 => absurd g3 (hN b' s' g1 g2)))
        refine oth_Y hI2 (T := T) ?_ hp hb hk ?_ ?_ h1 h8 (fun μ3 hy3 => ?_)
        · intro q hq hne
          rw [mset_eq, hy.m, nowh_upd hp hq hne (fun b' s' _ _ e => by rw [← e] at mm ⊢; rw [← e] at *; exact mm)]
          exact hT q hq hne
        · rw [mset_eq, upd_ne (by omega), hy.m]; exact ek
        · rw [mset_eq, upd_ne (by omega), hy.m]; exact en
        · rw [mset_ne (by omega), mset_ne (by omega), mset_ne (by omega), mset_eq, hC s (by omega), at_Y (by omega) (by omega), nI_clamp (by omega)]
          refine ⟨t, _, rfl, ?_⟩
          have hy4 : SY μ (mset μ3 1 0 (78 + 10 * b + s) (-1)) := by
            have := hy3.set (s := 78 + 10 * b + s) (x := -1)
            rw [mset_back (by rw [hy.m]; exact mm)] at this
            exact hy.tr this
          have nx := ih (s + 1) _ (by omega) hy4
          unfold kdF at nx
          rw [eb, if_pos rfl] at nx
          cases e : kdF M C s with
          | none =>
            rw [e] at nx
            rw [show kd4 (none : Option (Nat × Nat)) = -1 from rfl, if_pos (by decide)]
            exact nx
          | some x =>
            rw [e] at nx
            dsimp only at nx
            have bd := kdF_bd C8 s x e
            rw [if_neg (show ¬ kd4 (some x) < 0 from nI_pos (by omega))]
            by_cases c : C s ≤ x.2
            · rw [if_pos c] at nx
              rw [if_neg (show ¬ kd5 0 (some x) < nI (C s) from nI_nlt c (by omega))]
              exact nx
            · rw [if_neg c] at nx
              rw [if_pos (show kd5 0 (some x) < nI (C s) from nI_lt (by omega) (by have := C8 s; omega))]
              exact nx
  exact ⟨n + 1, main n 0 μ (by omega) SY.rf⟩
theorem wo_iff {v : Nat → Int32} {p q s : Nat} (hp : p < 8) (hq : q < 8) (hne : ¬ q = p) : wo v p s = nI q ↔ v s = nI q := by
  unfold wo
  by_cases c : v s = nI p
  · rw [if_pos c, c]
    exact ⟨fun g => absurd g.symm (nI_ne_m1 (by omega)), fun g => absurd ((nI_eq (by omega) (by omega)).mp g).symm hne⟩
  · rw [if_neg c]
theorem E_kind (a x : Int32) {σ μ : Mm} (h : Rel σ μ) : f_X6_kind a x σ (fun r σ' => f_X7_kind a x μ (fun r' μ' => r' = r ∧ Rel σ' μ')) := by
  obtain ⟨nb, h5, hx, hy, hr⟩ := h.nbx
  unfold f_X6_kind
  rw [isPerson_X]
  cases e : inZ a 0 7 with
  | false =>
    rw [if_neg (by decide)]
    refine E_find0' h (fun r σ' hh => ?_)
    show f_X7_kind a x μ _
    unfold f_X7_kind
    rw [isPerson_Y, e, if_neg (by decide)]
    exact hh
  | true =>
    rw [if_pos rfl]
    obtain ⟨p, -, hp, rfl⟩ := inZ_ex (lo := 0) (hi := 7) e (by omega)
    have hp8 : p < 8 := by omega
    rw [isBench_X hx h5]
    cases e2 : benchB x nb with
    | false =>
      rw [if_neg (by decide)]
      refine E_find0' h (fun r σ' hh => ?_)
      show f_X7_kind (nI p) x μ _
      unfold f_X7_kind
      rw [isPerson_Y, e, if_pos rfl, isBench_Y hy h5, e2, if_neg (by decide)]
      exact hh
    | true =>
      rw [if_pos rfl]
      obtain ⟨b, hb, rfl⟩ := benchB_ex e2 (by omega)
      obtain ⟨k, n, hk, n1, n8, ek, en, fk, fn, z, zz⟩ := hr.ks hb
      obtain ⟨T, hT⟩ := nowB (μ 1 0) nb
      refine ask_X hr hp8 hb hk fk fn n1 n8 (fun σ' g1 g2 g3 g4 => ?_)
      have hs' := h.scr (scr15 g1) ScrY.rf
      have hr' : RI σ' 0 (μ 1 0) nb := hr.scr (by omega) (scr15 g1)
      have hv' : pvs (σ' 1 15) n := by
        intro j hj
        rw [g4 j (by omega)]
        unfold wo
        split
        · exact Or.inl rfl
        · exact hr.pvs hb n8 j hj
      have hM : ∀ s, s < n → bt (mayS σ b k n p) s = true → wo (σ 1 (5 * 0 + b)) p s = -1 := fun s hs hbt => (mayF_free n8 (by omega) hbt).2.1
      have Y : ∀ {G : Int32 → Mm → Prop}, (∀ μ', Rel σ' μ' → f_X7_orNone (kd4 (kdF (mayS σ b k n p) (fun s => othF T (fun q => mayF (σ' 3 0) (σ' 2 0 2) (σ' 4 0) (σ' 2 0 3) (upd (σ' 1 15) s (nI p)) k n q n) p 8) n)) μ' (fun r29 σ28 => G r29 σ28)) → f_X7_kind (nI p) (nI b) μ G := by
        intro G hG
        unfold f_X7_kind
        rw [isPerson_Y, e, if_pos rfl, isBench_Y hy h5, e2, if_pos rfl]
        refine mayOn_Y hr hp8 hb hk ek en n1 n8 (fun μa ha => row_1_3 (fun μb hb1 hb2 => ?_))
        have eb : μb 1 0 = μ 1 0 := (hb2 1 0 (by omega)).trans ha.m
        have sb : ScrY μ μb := ha.scr.tr ⟨fun t ht => hb2 t 0 (by omega), by rw [hb2 0 0 (by omega)], by rw [hb2 0 0 (by omega)]⟩
        have hRb : Rel σ μb := h.scr Scr.rf sb
        obtain ⟨d, e', σ1, μ1, L, L', hR, hI, hN, hB, hs1, hm1⟩ := lift2 hRb (by rw [eb]; exact hr) hp8
        have bb := hB b hb
        refine L' _ ?_
        have rw1 : ∀ j, j < 8 → σ1 1 (5 * 0 + b) j = wo (σ 1 (5 * 0 + b)) p j := by
          intro j hj
          rw [← (hI.1.2.2.2.1 b hb).2.2 j hj, bb.2.2 j hj]
          unfold wo
          rw [eb]
          show (if μ 1 0 (78 + 10 * b + j) = nI p then (-1 : Int32) else μ 1 0 (78 + 10 * b + j)) = _
          rw [(z j hj).1]
        refine kd_Y (σ := σ1) (nb := nb) (T := T) (k := k) (n := n) (C := fun s => othF T (fun q => mayF (σ' 3 0) (σ' 2 0 2) (σ' 4 0) (σ' 2 0 3) (upd (σ' 1 15) s (nI p)) k n q n) p 8) hI hN ?_ hp8 hb hk ?_ ?_ n1 n8 ?_ (fun s => othF_le _ _ _ 8) ?_ (fun μ' hy' => row_3_1 (fun μc hc1 hc2 => hG μc ?_))
        · intro q hq hne
          rw [hT q]
          constructor
          · intro g c s hc hs e3
            rw [(hB c hc).2.2 s hs, wo_iff hp8 hq hne, eb] at e3
            exact g c s hc hs e3
          · intro g c s hc hs e3
            refine g c s hc hs ?_
            rw [(hB c hc).2.2 s hs, wo_iff hp8 hq hne, eb]
            exact e3
        · rw [bb.1, eb]; exact ek
        · rw [bb.2.1, eb]; exact en
        · intro s hs hbt
          rw [(hI.1.2.2.2.1 b hb).2.2 s (by omega), rw1 s (by omega)]
          exact hM s hs hbt
        · intro s hs
          refine othF_congr (fun _ _ _ => rfl) (fun q hq _ _ => ?_) 8 (Nat.le_refl 8)
          show mayF (σ1 3 0) (σ1 2 0 2) (σ1 4 0) (σ1 2 0 3) (upd (σ1 1 (5 * 0 + b)) s (nI p)) k n q n = mayF (σ' 3 0) (σ' 2 0 2) (σ' 4 0) (σ' 2 0 3) (upd (σ' 1 15) s (nI p)) k n q n
          rw [hs1 3 0 (by omega), hs1 2 0 (by omega), hs1 4 0 (by omega), g1 3 0 (by omega), g1 2 0 (by omega), g1 4 0 (by omega)]
          refine mayF_congr n1 (fun _ _ => rfl) (fun _ _ => rfl) hq (pvs_upd (hI.pvs hb n8) (pv_nI hp8)) (fun j hj => ?_) n (Nat.le_refl n)
          by_cases c : j = s
          · subst c; rw [upd_eq, upd_eq]
          · rw [upd_ne c, upd_ne c, rw1 j (by omega), g4 j (by omega)]
        · have o : OutY μ μc := by
            refine (OutY.scr sb).tr ⟨fun t ht => ?_, ?_, ?_⟩
            · rw [hc2 t 0 (by omega), hy'.1 t 0 (by omega), hm1 t 0 (by omega)]
            · rw [hc2 0 0 (by omega), hy'.2 3 (by omega) (by omega), hm1 0 0 (by omega)]
            · rw [hc2 0 0 (by omega), hy'.2 12 (by omega) (by omega), hm1 0 0 (by omega)]
          refine h.out (nb := nb) (Out.scr (scr15 g1)) o (hr'.ext (fun j hj => ?_))
          rw [hc1 j hj, hy'.1 3 0 (by omega), hm1 3 0 (by omega), hb1 j hj, ha.m]
      refine kd_X hr' hT hp8 hk g2 g3 n1 n8 hv' (fun s hs hbt => by rw [g4 s (by omega)]; exact hM s hs hbt) (fun _ => rfl) ?_
      cases ek4 : kdF (mayS σ b k n p) (fun s => othF T (fun q => mayF (σ' 3 0) (σ' 2 0 2) (σ' 4 0) (σ' 2 0 3) (upd (σ' 1 15) s (nI p)) k n q n) p 8) n with
      | none =>
        rw [if_pos (show kd4 none = -1 from rfl)]
        refine find_X (w := 3) (by decide) rfl (Y (fun μ' hR => ?_))
        rw [ek4]
        unfold f_X7_orNone
        rw [if_neg (by decide)]
        exact find_Y (w := 3) (by decide) (by decide) ⟨rfl, hR.find (by decide)⟩
      | some x =>
        have bd := kdF_bd (fun s => othF_le _ _ _ 8) n x ek4
        rw [if_neg (show ¬ kd4 (some x) = -1 from nI_ne_m1 (by omega))]
        refine Y (fun μ' hR => ?_)
        rw [ek4]
        unfold f_X7_orNone
        rw [if_pos (show 0 ≤ kd4 (some x) from nI_pos' (by omega))]
        exact ⟨rfl, hR⟩
