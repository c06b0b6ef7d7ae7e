/-! PURE: the class counts seatings -/
theorem weightOf_X {U : Int32} {σ : Mm} {K : Int32 → Mm → Prop} (hw : wok (σ 4 0)) (h : ∀ r : Int32, r.toInt = wsF (σ 4 0) U 8 → K r σ) : f_X3_weightOf U σ K := by
  have main : ∀ (d p : Nat) (acc : Int32), p + d = 8 → acc.toInt = wsF (σ 4 0) U p → f_X3_weightOf_4 U K (d + 1) acc (nI p) σ := by
    intro d
    induction d with
    | zero =>
      intro p acc hp e
      have : p = 8 := by omega
      subst this
      rw [f_X3_weightOf_4, if_pos (by decide)]
      exact h acc e
    | succ d ih =>
      intro p acc hp e
      rw [f_X3_weightOf_4, if_neg (show ¬ (8 : Int32) ≤ nI p from nI_ge (a := p) (b := 8) (by omega) (by omega)), nI_clamp (by omega), nI_1]
      refine has_X (by omega) ?_
      have nn := wsF_nn (w := σ 4 0) (U := U) hw p (by omega)
      have nl := wsF_le (w := σ 4 0) (U := U) hw p (by omega)
      obtain ⟨y, y1, y2, ey⟩ := hw p (by omega)
      have ew : (σ 4 0 p).toInt = (y : Int) := by rw [ey, nI_toInt (by omega)]
      cases g : bt U p with
      | true =>
        refine itt ⟨vp_in_nI (by omega) (by omega), ih (p + 1) _ (by omega) ?_⟩
        rw [add_toInt e ew (by omega) (by omega), wsF, if_pos g, ew]
      | false =>
        refine itf (ih (p + 1) _ (by omega) ?_)
        rw [e, wsF, if_neg (by rw [g]; decide), Int.add_zero]
  exact ⟨9, main 8 0 0 (by omega) z0⟩
theorem most_X {k : Nat} {σ : Mm} {K : Int32 → Mm → Prop} (hk : k < 7) (hh : ∃ x, x ≤ 999 ∧ σ 2 0 3 = nI x) (h : ∀ r : Int32, r.toInt = mostK k (σ 2 0 3) → K r σ) : f_X1_listsAtMost 0 (nI k) σ K := by
  obtain ⟨x, hx, ex⟩ := hh
  refine ⟨by omega, ?_⟩
  unfold mostK at h
  by_cases c3 : k = 3
  · rw [if_pos (by rw [c3]; rfl)]
    exact h _ (by rw [if_pos c3])
  · rw [if_neg (fun e => c3 ((lit_eq k 3 (by omega) (by omega)).mp e))]
    by_cases c6 : k = 6
    · rw [if_pos (by rw [c6]; rfl)]
      refine h _ ?_
      rw [if_neg c3, if_pos c6, ex, show (2 : Int32) * nI x = nI (2 * x) from pk_mul 2 x, nI_toInt (by omega), nI_toInt (by omega)]
      omega
    · rw [if_neg (fun e => c6 ((lit_eq k 6 (by omega) (by omega)).mp e))]
      exact h _ (by rw [if_neg c3, if_neg c6]; decide)
/-- what a search of the class leaves behind -/
def CU (σ σ' : Mm) : Prop := (∀ t i, ¬ ((t = 0 ∨ t = 1) ∧ i = 16) → ¬ (t = 9 ∧ i = 0) → ¬ (t = 8 ∧ i = 0) → σ' t i = σ t i) ∧ σ' 8 0 8 = σ 8 0 8 ∧ σ' 9 0 0 = σ 9 0 0
theorem CU.scr {σ σ' : Mm} (h : CU σ σ') : Scr σ σ' := ⟨fun t i a b => h.1 t i (by omega) (by omega) (by omega), fun t i a b => h.1 t i (by omega) (by omega) (by omega), fun t i a => h.1 t i (by omega) (by omega) (by omega), h.2.1, h.2.2⟩
theorem CU.tr {a b c : Mm} (h : CU a b) (k : CU b c) : CU a c := ⟨fun t i x y z => (k.1 t i x y z).trans (h.1 t i x y z), k.2.1.trans h.2.1, k.2.2.trans h.2.2⟩
theorem CU.rf {a : Mm} : CU a a := ⟨fun _ _ _ _ _ => rfl, rfl, rfl⟩
/-- the rows that hold, as the class sees them; none where there are too many persons -/
def GC (B : Nat → Int32) (ov : Int32) (w : Nat → Int32) (h : Int32) (k n : Nat) (P : Option (Nat × Nat)) (U : Int32) : List (Nat → Int32) := if coF (fun j => bt U j) 8 ≤ n then (lv n 0 U (n - coF (fun j => bt U j) 8) (fun _ => -1)).filter (fil B ov w h k n P) else []
def GN (m : Nat → Int32) (k n : Nat) (U : Int32) : List (Nat → Int32) := if coF (fun j => bt U j) 8 ≤ n then GL m k n U else []
theorem GN_len {m : Nat → Int32} {k n : Nat} {U : Int32} (h8 : n ≤ 8) : (GN m k n U).length ≤ 40320 := by
  unfold GN
  by_cases c : coF (fun j => bt U j) 8 ≤ n
  · rw [if_pos c]; exact GL_len h8 c
  · rw [if_neg c]; exact Nat.zero_le _
theorem GC_GN {σ : Mm} {m : Nat → Int32} {nb k n : Nat} {U : Int32} (hr : RI σ 0 m nb) (h1 : 1 ≤ n) : GC (σ 3 0) (σ 2 0 2) (σ 4 0) (σ 2 0 3) k n none U = GN m k n U := by
  unfold GC GN GL
  by_cases c : coF (fun j => bt U j) 8 ≤ n
  · rw [if_pos c, if_pos c]
    refine List.filter_congr (fun u hu => ?_)
    have hp : pvs u n := fun j hj => lv_pv hu (fun i hi => absurd hi (by omega)) j (by omega)
    show (hoB _ _ _ _ u k n && true) = HH m k n u
    rw [Bool.and_true]
    exact ho_eq hr h1 hp (fun _ _ => rfl)
  · rw [if_neg c, if_neg c]
theorem count_X {k n i E x : Nat} {P : Option (Nat × Nat)} {σ : Mm} {K : Int32 → Mm → Prop} (hi : i < 16) (hk : k < 7) (ek : σ 0 i 0 = nI k) (en : σ 0 i 1 = nI n) (h1 : 1 ≤ n) (h8 : n ≤ 8) (hE1 : 1 ≤ E) (hE : E ≤ 1000000) (hx : x < 256) (hpp : PP (σ 3 0) (σ 2 0 2) (σ 4 0) (σ 2 0 3)) (hP : PinS σ P) (hPn : ∀ q, P = some q → q.2 < n) (h9 : σ 9 0 0 = -1) (h : ∀ σ', CU σ σ' → (E ≤ (GC (σ 3 0) (σ 2 0 2) (σ 4 0) (σ 2 0 3) k n P (nI x)).length → ∃ u, (GC (σ 3 0) (σ 2 0 2) (σ 4 0) (σ 2 0 3) k n P (nI x))[E - 1]? = some u ∧ ∀ j, j < n → σ' 1 16 j = u j) → K (nI (if (GC (σ 3 0) (σ 2 0 2) (σ 4 0) (σ 2 0 3) k n P (nI x)).length < E then (GC (σ 3 0) (σ 2 0 2) (σ 4 0) (σ 2 0 3) k n P (nI x)).length else E)) σ') : f_X3_countUpTo (nI E) i (nI x) σ K := by
  unfold f_X3_countUpTo
  refine ⟨by omega, clear_X (by omega) (fun σ1 c1 => ?_)⟩
  rw [ek, en] at c1
  have ek1 : σ1 0 i 0 = nI k := by rw [c1.2.2.2 0 i (by omega)]; exact ek
  rw [ek1, nI_clamp (by omega), stF_0 k hk]
  refine ⟨vp_in_nI hk (by omega), _, rfl, ?_⟩
  have ek3 : mset σ1 8 0 3 (nI (reaK k)) 0 i 0 = nI k := by rw [mset_ne (by omega)]; exact ek1
  rw [ek3]
  have e23 : mset σ1 8 0 3 (nI (reaK k)) 2 0 = σ 2 0 := by rw [mset_ne (by omega), c1.2.2.2 2 0 (by omega)]
  refine most_X hk (by rw [e23]; exact hpp.2.2.2) (fun r5 e5 => ?_)
  rw [e23] at e5
  refine ⟨_, rfl, _, rfl, _, rfl, bc_X ?_⟩
  obtain ⟨σ8, e8⟩ : ∃ σ8, σ8 = mset (mset (mset (mset σ1 8 0 3 (nI (reaK k))) 8 0 4 r5) 8 0 5 (0 : Int32)) 8 0 6 (nI E) := ⟨_, rfl⟩
  rw [← e8]
  have o8 : ∀ t j, ¬ (t = 8 ∧ j = 0) → σ8 t j = σ1 t j := fun t j c => by rw [e8, mset_ne c, mset_ne c, mset_ne c, mset_ne c]
  have v8 : ∀ j, j ≠ 3 → j ≠ 4 → j ≠ 5 → j ≠ 6 → σ8 8 0 j = σ1 8 0 j := fun j a b c d => by rw [e8, mset_ap, if_neg (by omega), mset_ap, if_neg (by omega), mset_ap, if_neg (by omega), mset_ap, if_neg (by omega)]
  have en8 : σ8 0 16 1 = nI n := by rw [o8 0 16 (by omega)]; exact c1.2.1
  have f3 : σ8 8 0 3 = nI (reaK k) := by rw [e8, mset_ap, if_neg (by omega), mset_ap, if_neg (by omega), mset_ap, if_neg (by omega), mset_ap, if_pos ⟨rfl, rfl, rfl⟩]
  have f4 : σ8 8 0 4 = r5 := by rw [e8, mset_ap, if_neg (by omega), mset_ap, if_neg (by omega), mset_ap, if_pos ⟨rfl, rfl, rfl⟩]
  have f5 : σ8 8 0 5 = 0 := by rw [e8, mset_ap, if_neg (by omega), mset_ap, if_pos ⟨rfl, rfl, rfl⟩]
  have f6 : σ8 8 0 6 = nI E := by rw [e8, mset_ap, if_pos ⟨rfl, rfl, rfl⟩]
  have C8 : CU σ σ8 := ⟨fun t j a b c => by rw [o8 t j c]; exact c1.2.2.2 t j a, by rw [v8 8 (by omega) (by omega) (by omega) (by omega), c1.2.2.2 8 0 (by omega)], by rw [o8 9 0 (by omega), c1.2.2.2 9 0 (by omega)]⟩
  have q3 : σ8 3 0 = σ 3 0 := C8.1 3 0 (by omega) (by omega) (by omega)
  have q2 : σ8 2 0 = σ 2 0 := C8.1 2 0 (by omega) (by omega) (by omega)
  have q4 : σ8 4 0 = σ 4 0 := C8.1 4 0 (by omega) (by omega) (by omega)
  rw [en8, bcV_8 x hx]
  by_cases c : coF (fun j => bt (nI x) j) 8 ≤ n
  · rw [show nI n - nI (coF (fun j => bt (nI x) j) 8) = nI (n - coF (fun j => bt (nI x) j) 8) from pk_sub c, if_neg (nI_pos (by omega))]
    refine weightOf_X (by rw [q4]; exact hpp.2.2.1) (fun r12 e12 => ?_)
    rw [q4] at e12
    have hG : GC (σ 3 0) (σ 2 0 2) (σ 4 0) (σ 2 0 3) k n P (nI x) = (lv n 0 (nI x) (n - coF (fun j => bt (nI x) j) 8) (fun _ => -1)).filter (fil (σ 3 0) (σ 2 0 2) (σ 4 0) (σ 2 0 3) k n P) := by unfold GC; rw [if_pos c]
    have FF := fill_X (B := σ 3 0) (ov := σ 2 0 2) (w := σ 4 0) (h := σ 2 0 3) (k := k) (n := n) (E := E) (P := P) hk h1 h8 hE hpp hPn n (11 - n) 0 (nI x) (n - coF (fun j => bt (nI x) j) 8) 0 (fun _ => -1) (0 : Int32) r12 σ8 (fun σ13 => K (σ13 8 0 5) σ13) (by omega) (by omega) ⟨q3, by rw [q2], q4, by rw [o8 0 16 (by omega)]; exact c1.1, en8, f3, by rw [f4]; exact e5, f6, hP.to (by rw [v8 7 (by omega) (by omega) (by omega) (by omega), c1.2.2.2 8 0 (by omega)]) (by rw [v8 8 (by omega) (by omega) (by omega) (by omega), c1.2.2.2 8 0 (by omega)])⟩ ⟨f5, by omega, fun j hj => absurd hj (by omega), fun j hj => by
      have : j = 0 := by omega
      subst this
      rw [C8.2.2, h9]; rfl, fun _ => Or.inl rfl, fun t p ht => absurd ht (by omega), fun q _ hq => absurd hq (by omega)⟩ z0 e12 (fun σ' X => ?_)
    · rw [show n + 1 + (11 - n) = 12 by omega] at FF
      exact FF
    · rw [← hG] at X
      have C' : CU σ σ' := C8.tr ⟨fun t j a b c => X.1 t j (by omega) b c, X.2.1 8 (by omega), X.2.2.2.1 0 (by omega)⟩
      have X5 := X.2.2.2.2
      rw [Nat.zero_add, Nat.sub_zero] at X5
      rcases X5 with ⟨y1, y2⟩ | ⟨y1, y2, u, y3, y4⟩
      · have := h σ' C' (fun g => absurd g (by omega))
        rw [if_pos y1] at this
        rw [y2]; exact this
      · have := h σ' C' (fun _ => ⟨u, y3, y4⟩)
        rw [if_neg (by omega)] at this
        rw [y2]; exact this
  · have l8 := coF_le (fun j => bt (nI x) j) 8
    have st : (nI n - nI (coF (fun j => bt (nI x) j) 8)).toInt = (n : Int) - (coF (fun j => bt (nI x) j) 8 : Int) := sub_toInt (by omega) (by omega)
    rw [if_pos (by rw [Int32.lt_iff_toInt_lt, st, z0]; omega), f5]
    have hG : GC (σ 3 0) (σ 2 0 2) (σ 4 0) (σ 2 0 3) k n P (nI x) = [] := by unfold GC; rw [if_neg c]
    rw [hG] at h
    have := h σ8 C8 (fun g => by have g : E ≤ 0 := g; omega)
    rw [if_pos (show ([] : List (Nat → Int32)).length < E from hE1)] at this
    exact this
/-- the reference's search, also where there are too many persons -/
theorem seatingsN_Y {m : Nat → Int32} {k n : Nat} {U a2 : Int32} {μ : Mm} {K : Int32 → Mm → Prop} (hk : k < 7) (h1 : 1 ≤ n) (h8 : n ≤ 8) (hpp : PP (fun j => m (4 + j)) (m 0) (fun p => m (68 + p)) (m 1)) (hq : QQ m k n μ) (h : ∀ μ', (∀ t i, ¬ ((t = 5 ∨ t = 6 ∨ t = 7 ∨ t = 8) ∧ i = 0) → μ' t i = μ t i) → (∀ p j, p < 8 → j < n → μ' 6 0 (8 * p + j) = nI (cnF p j (GN m k n U))) → (∀ j, j < n → μ' 7 0 j = askF a2 j (GN m k n U) 0 (μ 7 0 j)) → K (nI (GN m k n U).length) μ') : f_X7_seatingsOf U a2 μ K := by
  by_cases c : coF (fun j => bt U j) 8 ≤ n
  · have e : GN m k n U = GL m k n U := by unfold GN; rw [if_pos c]
    rw [e] at h
    exact seatingsOf_Y hk h1 h8 hpp hq c h
  · have e : GN m k n U = [] := by unfold GN; rw [if_neg c]
    rw [e] at h
    refine zero_Y (fun μ1 g1 g2 => many_Y ?_)
    have e7 : μ1 0 0 7 = nI n := by rw [g2 0 0 (by omega)]; exact hq.2.2
    have l8 := coF_le (fun j => bt U j) 8
    have st : (nI n - nI (coF (fun j => bt U j) 8)).toInt = (n : Int) - (coF (fun j => bt U j) 8 : Int) := sub_toInt (by omega) (by omega)
    rw [e7, if_neg (by rw [Int32.le_iff_toInt_le, st, z0]; omega)]
    exact h μ1 (fun t i cc => g2 t i (by omega)) (fun p j hp hj => by rw [g1 _ (by omega)]; rfl) (fun j hj => by rw [g2 7 0 (by omega)]; rfl)
/-- what a search of the reference leaves behind -/
def YU (μ μ' : Mm) : Prop := (∀ t i, ¬ ((t = 0 ∨ t = 5 ∨ t = 6 ∨ t = 7 ∨ t = 8) ∧ i = 0) → μ' t i = μ t i) ∧ ∀ j, j ≠ 6 → j ≠ 7 → μ' 0 0 j = μ 0 0 j
theorem YU.rf {μ : Mm} : YU μ μ := ⟨fun _ _ _ => rfl, fun _ _ _ => rfl⟩
theorem YU.tr {a b c : Mm} (h : YU a b) (k : YU b c) : YU a c := ⟨fun t i x => (k.1 t i x).trans (h.1 t i x), fun j x y => (k.2 j x y).trans (h.2 j x y)⟩
theorem YU.scr {μ μ' : Mm} (h : YU μ μ') : ScrY μ μ' := ⟨fun t ht => h.1 t 0 (by omega), h.2 3 (by omega) (by omega), h.2 12 (by omega) (by omega)⟩
theorem YU.m {μ μ' : Mm} (h : YU μ μ') : μ' 1 0 = μ 1 0 := h.1 1 0 (by omega)
theorem Look.yu {μ μ' : Mm} {b k n : Nat} (h : Look μ b k n μ') : YU μ μ' := ⟨fun t i c => h.2.2.2.1 t i (by omega), h.2.2.2.2⟩
theorem YU.of {μ μ' : Mm} (h : ∀ t i, ¬ ((t = 5 ∨ t = 6 ∨ t = 7 ∨ t = 8) ∧ i = 0) → μ' t i = μ t i) : YU μ μ' := ⟨fun t i c => h t i (by omega), fun j _ _ => by rw [h 0 0 (by omega)]⟩
/-- a set: x is one of the numbers below 256 -/
theorem isSet_X (a : Int32) (σ : Mm) (K : Bool → Mm → Prop) : f_X6_isSet a σ K = K (inZ a 0 255) σ := by
  unfold f_X6_isSet inZ
  have z255 : (255 : Int32).toInt = 255 := by decide
  simp only [Int32.lt_iff_toInt_lt, z0, z255]
  by_cases h : a.toInt < 0
  · rw [if_pos h, decide_eq_false (by omega)]
  · by_cases h2 : 255 < a.toInt
    · rw [if_neg h, if_pos h2, decide_eq_false (by omega)]
    · rw [if_neg h, if_neg h2, decide_eq_true (by omega)]
theorem isSet_Y (a : Int32) (σ : Mm) (K : Bool → Mm → Prop) : f_X7_isSet a σ K = K (inZ a 0 255) σ := in_inZ a 0 255 σ K
theorem fitsOn_X {b n x : Nat} {σ : Mm} {K : Bool → Mm → Prop} (hb : b < 5) (en : σ 0 (5 * 0 + b) 1 = nI n) (h8 : n ≤ 8) (hx : x < 256) (h : K (decide (coF (fun j => bt (nI x) j) 8 ≤ n ∧ coF (fun j => bt (nI x) j) 8 ≤ 6)) σ) : f_X6_fitsOn (nI b) (nI x) σ K := by
  have l8 := coF_le (fun j => bt (nI x) j) 8
  unfold f_X6_fitsOn
  refine bc_X ⟨vp_in_nI hb (by omega), ?_⟩
  rw [nI_clamp (by omega), en, bcV_8 x hx]
  refine ⟨by omega, ?_⟩
  by_cases c : coF (fun j => bt (nI x) j) 8 ≤ n
  · rw [if_neg (nI_nlt c (by omega))]
    by_cases c6 : coF (fun j => bt (nI x) j) 8 ≤ 6
    · rw [if_neg (show ¬ (6 : Int32) < nI _ from nI_nlt (a := 6) c6 (by omega))]
      rw [decide_eq_true ⟨c, c6⟩] at h; exact h
    · rw [if_pos (show (6 : Int32) < nI _ from nI_lt (a := 6) (by omega) (by omega))]
      rw [decide_eq_false (by omega)] at h; exact h
  · rw [if_pos (nI_lt (by omega) (by omega))]
    rw [decide_eq_false (by omega)] at h; exact h
theorem wrongSet_bad {a x c : Int32} {nb : Nat} {μ : Mm} {K : Int32 → Mm → Prop} (hy : μ 1 0 3 = nI nb) (h5 : nb ≤ 5) (hc : benchB a nb = false ∨ inZ x 0 255 = false ∨ c = 0) (h : K (-1000001 : Int32) μ) : f_X7_wrongSet a x c μ K := by
  unfold f_X7_wrongSet
  rw [isBench_Y hy h5]
  cases e : benchB a nb with
  | false => exact itf h
  | true =>
    refine itt ?_
    rw [isSet_Y]
    cases e2 : inZ x 0 255 with
    | false => exact itf h
    | true =>
      refine itt ?_
      rw [if_pos (by rcases hc with hc | hc | hc <;> simp_all)]
      exact h
theorem wrongSet_ok {b n x : Nat} {c : Int32} {nb : Nat} {μ : Mm} {K : Int32 → Mm → Prop} (hy : μ 1 0 3 = nI nb) (h5 : nb ≤ 5) (hb : b < nb) (eb : benchB (nI b) nb = true) (ex : inZ (nI x) 0 255 = true) (hc : ¬ c = 0) (en : μ 1 0 (77 + 10 * b) = nI n) (h8 : n ≤ 8) (h : K (if coF (fun j => bt (nI x) j) 8 ≤ n ∧ coF (fun j => bt (nI x) j) 8 ≤ 6 then 0 else (-1000007 : Int32)) μ) : f_X7_wrongSet (nI b) (nI x) c μ K := by
  have l8 := coF_le (fun j => bt (nI x) j) 8
  unfold f_X7_wrongSet
  rw [isBench_Y hy h5, eb]
  refine itt ?_
  rw [isSet_Y, ex]
  refine itt ?_
  rw [if_neg hc]
  refine many_Y ?_
  by_cases c6 : coF (fun j => bt (nI x) j) 8 ≤ 6
  · rw [if_neg (show ¬ (6 : Int32) < nI _ from nI_nlt (a := 6) c6 (by omega))]
    refine many_Y (seatsOf_Y (by omega) ?_)
    rw [en]
    by_cases c : coF (fun j => bt (nI x) j) 8 ≤ n
    · rw [if_pos (nI_le c (by omega))]
      rw [if_pos ⟨c, c6⟩] at h; exact h
    · rw [if_neg (nI_ge (by omega) (by omega))]
      rw [if_neg (by omega)] at h; exact h
  · rw [if_pos (show (6 : Int32) < nI _ from nI_lt (a := 6) (by omega) (by omega))]
    rw [if_neg (by omega)] at h; exact h
