/-! PURE: lay -/
theorem askF_past {j i : Nat} : ∀ (G : List (Nat → Int32)) (A : Nat) (old : Int32), i < A → A + G.length < 2 ^ 31 → askF (nI i) j G A old = old := by
  intro G
  induction G with
  | nil => intro A old _ _; rfl
  | cons g G ih =>
    intro A old h1 h2
    have h2 : A + (G.length + 1) < 2 ^ 31 := h2
    show askF (nI i) j G (A + 1) (if nI A = nI i then g j else old) = old
    rw [if_neg (fun e => by have := (nI_eq (by omega) (by omega)).mp e; omega)]
    exact ih (A + 1) old (by omega) (by omega)
theorem askF_get {j i : Nat} {u : Nat → Int32} : ∀ (G : List (Nat → Int32)) (A : Nat) (old : Int32), A ≤ i → A + G.length < 2 ^ 31 → G[i - A]? = some u → askF (nI i) j G A old = u j := by
  intro G
  induction G with
  | nil => intro A old _ _ h; exact absurd h (by simp)
  | cons g G ih =>
    intro A old h1 h2 h
    have h2 : A + (G.length + 1) < 2 ^ 31 := h2
    show askF (nI i) j G (A + 1) (if nI A = nI i then g j else old) = u j
    by_cases c : A = i
    · subst c
      rw [Nat.sub_self] at h
      have h : some g = some u := h
      rw [if_pos rfl, askF_past G (A + 1) _ (by omega) (by omega)]
      cases h; rfl
    · have hl : i < 2 ^ 31 := by
        have := (List.getElem?_eq_some_iff.mp h).1
        have this : i - A < G.length + 1 := this
        omega
      rw [if_neg (fun e => c ((nI_eq (by omega) (by omega)).mp e))]
      refine ih (A + 1) _ (by omega) (by omega) ?_
      rw [show i - A = (i - (A + 1)) + 1 by omega] at h
      exact h
/-- the seats from here on are taken by persons of the set, each once -/
theorem lv_uni {d s : Nat} {U : Int32} {e : Nat} {v u : Nat → Int32} (h : u ∈ lv d s U e v) : (∀ j, j < s → u j = v j) ∧ (∀ j, s ≤ j → j < s + d → u j = -1 ∨ ∃ p, p < 8 ∧ bt U p = true ∧ u j = nI p) ∧ (∀ j j', s ≤ j → j < s + d → s ≤ j' → j' < s + d → ¬ u j = -1 → u j = u j' → j = j') := by
  refine lv_ind (T := fun d s U e v u => (∀ j, j < s → u j = v j) ∧ (∀ j, s ≤ j → j < s + d → u j = -1 ∨ ∃ p, p < 8 ∧ bt U p = true ∧ u j = nI p) ∧ (∀ j j', s ≤ j → j < s + d → s ≤ j' → j' < s + d → ¬ u j = -1 → u j = u j' → j = j')) ?_ ?_ ?_ d s U e v u h
  · intro s U e v
    exact ⟨fun _ _ => rfl, fun j a b => absurd b (by omega), fun j j' a b => absurd b (by omega)⟩
  · intro d s U e v u _ ⟨g1, g2, g3⟩
    have us : u s = -1 := by rw [g1 s (by omega), upd_eq]
    refine ⟨fun j hj => by rw [g1 j (by omega), upd_ne (by omega)], fun j a b => ?_, fun j j' a b a' b' hn he => ?_⟩
    · by_cases c : j = s
      · subst c; exact Or.inl us
      · exact g2 j (by omega) (by omega)
    · by_cases c : j = s
      · subst c; exact absurd us hn
      · by_cases c' : j' = s
        · subst c'; rw [us] at he; exact absurd he hn
        · exact g3 j j' (by omega) (by omega) (by omega) (by omega) hn he
  · intro d s U e v u p hp hb ⟨g1, g2, g3⟩
    have us : u s = nI p := by rw [g1 s (by omega), upd_eq]
    have ne : ∀ j, s + 1 ≤ j → j < s + 1 + d → ¬ u j = nI p := by
      intro j a b e
      rcases g2 j a b with g | ⟨q, hq, hbq, g⟩
      · rw [g] at e; exact nI_ne_m1 (n := p) (by omega) e.symm
      · have : q = p := (nI_eq (by omega) (by omega)).mp (g.symm.trans e)
        subst this
        rw [clr_bt U q q (by omega) (by omega), decide_eq_true rfl, Bool.not_true, Bool.and_false] at hbq
        exact Bool.noConfusion hbq
    refine ⟨fun j hj => by rw [g1 j (by omega), upd_ne (by omega)], fun j a b => ?_, fun j j' a b a' b' hn he => ?_⟩
    · by_cases c : j = s
      · subst c; exact Or.inr ⟨p, hp, hb, us⟩
      · rcases g2 j (by omega) (by omega) with g | ⟨q, hq, hbq, g⟩
        · exact Or.inl g
        · rw [clr_bt U p q (by omega) (by omega)] at hbq
          exact Or.inr ⟨q, hq, ((Bool.and_eq_true _ _).mp hbq).1, g⟩
    · by_cases c : j = s
      · subst c
        by_cases c' : j' = j
        · exact c'.symm
        · rw [us] at he; exact absurd he.symm (ne j' (by omega) (by omega))
      · by_cases c' : j' = s
        · subst c'; rw [us] at he; exact absurd he (ne j (by omega) (by omega))
        · exact g3 j j' (by omega) (by omega) (by omega) (by omega) hn he
theorem mrow_self {μ : Mm} {t i : Nat} : mrow μ t i (μ t i) = μ := by
  funext t' i'
  rw [mrow_row]
  by_cases c : t' = t ∧ i' = i
  · rw [if_pos c, c.1, c.2]
  · rw [if_neg c]
theorem mrow_mrow {μ : Mm} {t i : Nat} {f g : Nat → Int32} : mrow (mrow μ t i f) t i g = mrow μ t i g := by
  funext t' i'
  rw [mrow_row, mrow_row, mrow_row]
  by_cases c : t' = t ∧ i' = i
  · rw [if_pos c, if_pos c]
  · rw [if_neg c, if_neg c, if_neg c]
theorem mrow_at {μ : Mm} {t i : Nat} {f : Nat → Int32} : mrow μ t i f t i = f := by rw [mrow_row, if_pos ⟨rfl, rfl⟩]
theorem mrow_nx {μ : Mm} {t i : Nat} {f : Nat → Int32} {t' i' : Nat} (h : ¬ (t' = t ∧ i' = i)) : mrow μ t i f t' i' = μ t' i' := by rw [mrow_row, if_neg h]
theorem lift3 {σ : Mm} {m : Nat → Int32} {nb p : Nat} (hr : RI σ 0 m nb) (hp : p < 8) : ∃ (d e : Bool) (σ1 : Mm) (m1 : Nat → Int32), (∀ K : Bool → Mm → Prop, K d σ1 → f_X2_lift 0 (nI p) σ K) ∧ (∀ (μ : Mm) (K : Bool → Mm → Prop), μ 1 0 = m → K e (mrow μ 1 0 m1) → f_X7_rises (nI p) μ K) ∧ RI σ1 0 m1 nb ∧ Nowh m1 nb p ∧ (∀ q, q < 8 → Nowh m nb q → Nowh m1 nb q) ∧ (∀ b, b < nb → m1 (77 + 10 * b) = m (77 + 10 * b)) ∧ (∀ t i, ¬ (t = 1 ∧ i < 5) → σ1 t i = σ t i) := by
  have h5 := hr.2.nb
  rcases at_or m nb p with ⟨b, s, ha⟩ | hn
  · have hb := ha.1
    have hs := ha.2.1
    refine ⟨true, true, mset σ 1 (5 * 0 + b) s (-1), upd m (78 + 10 * b + s) (-1), fun K hk => lift_at hr (by omega) hp ha hk, fun μ K em hk => ?_, (hr.up hp ha).1, (hr.up hp ha).2, ?_, ?_, fun t i ht => mset_ne (by omega)⟩
    · subst em
      exact rises_at hr.2 hp ha hk
    · intro q hq hn c t hc ht
      by_cases e : c = b ∧ t = s
      · obtain ⟨rfl, rfl⟩ := e
        rw [upd_eq]
        exact fun e => nI_ne_m1 (n := q) (by omega) e.symm
      · rw [upd_ne (by omega)]; exact hn c t hc ht
    · intro c hc
      rw [upd_ne (by omega)]
  · refine ⟨false, false, σ, m, fun K hk => lift_no hr (by omega) hn hk, fun μ K em hk => ?_, hr, hn, fun q _ hq => hq, fun b hb => rfl, fun _ _ _ => rfl⟩
    subst em
    rw [mrow_self] at hk
    exact rises_no hr.2 hn hk
/-- all of a set are lifted -/
theorem lifts {U a1 : Int32} {i3 nb : Nat} : ∀ (d p : Nat) (σ : Mm) (m : Nat → Int32), p + d = 8 → RI σ 0 m nb → (∀ q, q < p → bt U q = true → Nowh m nb q) → ∃ (σ1 : Mm) (m1 : Nat → Int32), (∀ (K k32 : Mm → Prop), k32 σ1 → f_X2_takeSeating_5_1_3 0 a1 U i3 K k32 (d + 1) (nI p) σ) ∧ (∀ (μ : Mm) (K' : Int32 → Mm → Prop) (k83 : Mm → Prop), μ 1 0 = m → k83 (mrow μ 1 0 m1) → f_X7_lay_54 a1 U K' k83 (d + 1) (nI p) μ) ∧ RI σ1 0 m1 nb ∧ (∀ q, q < 8 → bt U q = true → Nowh m1 nb q) ∧ (∀ b, b < nb → m1 (77 + 10 * b) = m (77 + 10 * b)) ∧ (∀ t i, ¬ (t = 1 ∧ i < 5) → σ1 t i = σ t i) := by
  intro d
  induction d with
  | zero =>
    intro p σ m hp hr hn
    have : p = 8 := by omega
    subst this
    refine ⟨σ, m, fun K k32 hk => ?_, fun μ K' k83 em hk => ?_, hr, hn, fun _ _ => rfl, fun _ _ _ => rfl⟩
    · rw [f_X2_takeSeating_5_1_3, if_pos (by decide)]; exact hk
    · subst em
      rw [mrow_self] at hk
      rw [f_X7_lay_54, if_pos (by decide)]; exact hk
  | succ d ih =>
    intro p σ m hp hr hn
    have n8' : ¬ (8 : Int32) ≤ nI p := nI_ge (a := p) (b := 8) (by omega) (by omega)
    cases g : bt U p with
    | true =>
      obtain ⟨d1, e1, σ1, m1, L, L', hI, hN, hQ, hZ, hs1⟩ := lift3 hr (show p < 8 by omega)
      obtain ⟨σ2, m2, A, B, D, E, F, G⟩ := ih (p + 1) σ1 m1 (by omega) hI (fun q hq hb => by
        by_cases c : q = p
        · subst c; exact hN
        · exact hQ q (by omega) (hn q (by omega) hb))
      refine ⟨σ2, m2, fun K k32 hk => ?_, fun μ K' k83 em hk => ?_, D, E, fun b hb => (F b hb).trans (hZ b hb), fun t i c => (G t i c).trans (hs1 t i c)⟩
      · rw [f_X2_takeSeating_5_1_3, if_neg n8']
        refine has_X (by omega) ?_
        rw [g]
        refine itt (L _ ?_)
        rw [nI_1]; exact A K k32 hk
      · rw [f_X7_lay_54, if_neg n8']
        refine has_Y (by omega) ?_
        rw [g]
        refine itt (L' μ _ em ?_)
        rw [nI_1]
        refine B _ K' k83 mrow_at ?_
        rw [mrow_mrow]; exact hk
    | false =>
      obtain ⟨σ2, m2, A, B, D, E, F, G⟩ := ih (p + 1) σ m (by omega) hr (fun q hq hb => by
        by_cases c : q = p
        · subst c; rw [g] at hb; exact Bool.noConfusion hb
        · exact hn q (by omega) hb)
      refine ⟨σ2, m2, fun K k32 hk => ?_, fun μ K' k83 em hk => ?_, D, E, F, G⟩
      · rw [f_X2_takeSeating_5_1_3, if_neg n8']
        refine has_X (by omega) ?_
        rw [g]
        refine itf ?_
        rw [nI_1]; exact A K k32 hk
      · rw [f_X7_lay_54, if_neg n8']
        refine has_Y (by omega) ?_
        rw [g]
        refine itf ?_
        rw [nI_1]; exact B μ K' k83 em hk
/-- what was asked for becomes the row, and is laid down -/
theorem lay86_Y {b n : Nat} {μ : Mm} {K : Int32 → Mm → Prop} (hb : b < 5) (en : μ 0 0 7 = nI n) (h8 : n ≤ 8) (h : ∀ μ', (∀ s, s < n → μ' 1 0 (78 + 10 * b + s) = μ 7 0 s) → (∀ j, ¬ (78 + 10 * b ≤ j ∧ j < 78 + 10 * b + n) → μ' 1 0 j = μ 1 0 j) → (∀ t i, ¬ ((t = 1 ∨ t = 5) ∧ i = 0) → μ' t i = μ t i) → K (1 : Int32) μ') : ∃ m, f_X7_lay_86 (nI b) K m (0 : Int32) μ := by
  have main : ∀ (d s : Nat) (ν : Mm), s + d = n → (∀ j, j < s → ν 5 0 j = μ 7 0 j) → (∀ t i, ¬ (t = 5 ∧ i = 0) → ν t i = μ t i) → f_X7_lay_86 (nI b) K (d + 1) (nI s) ν := by
    intro d
    induction d with
    | zero =>
      intro s ν hs g1 g2
      have : s = n := by omega
      subst this
      rw [f_X7_lay_86, g2 0 0 (by omega), en, if_pos (nI_le (by omega) (by omega))]
      refine lays_Y (n := s) hb (by rw [g2 0 0 (by omega)]; exact en) h8 (fun μ' l1 l2 l3 => h μ' (fun j hj => by rw [l1 j hj, g1 j hj]) (fun j hj => by rw [l2 j hj, g2 1 0 (by omega)]) (fun t i c => by rw [l3 t i (by omega), g2 t i (by omega)]))
    | succ d ih =>
      intro s ν hs g1 g2
      rw [f_X7_lay_86, g2 0 0 (by omega), en, if_neg (nI_ge (by omega) (by omega)), nI_clamp (by omega), nI_1]
      refine ⟨vp_in_nI (by omega) (by omega), vp_in_nI (by omega) (by omega), _, rfl, ih (s + 1) _ (by omega) (fun j hj => ?_) (fun t i c => by rw [mset_ne c]; exact g2 t i c)⟩
      rw [mset_ap]
      by_cases c : j = s
      · subst c; rw [if_pos ⟨rfl, rfl, rfl⟩, g2 7 0 (by omega)]
      · rw [if_neg (by omega)]; exact g1 j (by omega)
  exact ⟨n + 1, main n 0 μ (by omega) (fun j hj => absurd hj (by omega)) (fun _ _ _ => rfl)⟩
theorem E_lay (a x y : Int32) {σ μ : Mm} (h : Rel σ μ) : f_X6_lay a x y σ (fun r σ' => f_X7_lay a x y μ (fun r' μ' => r' = r ∧ Rel σ' μ')) := by
  obtain ⟨nb, h5, hx, hy, hr⟩ := h.nbx
  have y12 : ∀ (c : Int32) (K : Int32 → Mm → Prop), (benchB a nb = false ∨ inZ x 0 255 = false ∨ c = 0) → f_X7_finds (-1000001 : Int32) μ K → f_X7_lay_12 a x y c x a K μ := by
    intro c K hc hh
    unfold f_X7_lay_12
    refine wrongSet_bad hy h5 hc ?_
    rw [if_neg (by decide)]
    exact hh
  have bad : (benchB a nb = false ∨ inZ x 0 255 = false ∨ y < 0) → f_X6_finding (0 : Int32) σ (fun r σ' => f_X7_lay a x y μ (fun r' μ' => r' = r ∧ Rel σ' μ')) := by
    intro hc
    refine E_find0' h (fun r σ' hh => ?_)
    show f_X7_lay a x y μ _
    unfold f_X7_lay
    by_cases c : y < 0
    · rw [if_pos c]; exact y12 0 _ (Or.inr (Or.inr rfl)) hh
    · rw [if_neg c]
      refine y12 1 _ ?_ hh
      rcases hc with hc | hc | hc
      · exact Or.inl hc
      · exact Or.inr (Or.inl hc)
      · exact absurd hc c
  unfold f_X6_lay
  rw [isBench_X hx h5]
  cases e2 : benchB a nb with
  | false => exact itf (bad (Or.inl e2))
  | true =>
    refine itt ?_
    rw [isSet_X]
    cases ex : inZ x 0 255 with
    | false => exact itf (bad (Or.inr (Or.inl ex)))
    | true =>
      refine itt ?_
      by_cases c0 : y < 0
      · rw [if_neg (by rw [Int32.le_iff_toInt_le]; rw [Int32.lt_iff_toInt_lt] at c0; omega)]
        exact bad (Or.inr (Or.inr c0))
      · rw [if_pos (by rw [Int32.le_iff_toInt_le]; rw [Int32.lt_iff_toInt_lt] at c0; omega)]
        obtain ⟨b, hb, rfl⟩ := benchB_ex e2 (by omega)
        obtain ⟨X, -, hX, rfl⟩ := inZ_ex (lo := 0) (hi := 255) ex (by omega)
        obtain ⟨i, hi, rfl⟩ := nI_of c0
        obtain ⟨k, n, hk, n1, n8, ek, en, fk, fn, z, zz⟩ := hr.ks hb
        refine fitsOn_X (n := n) (by omega) fn n8 (by omega) ?_
        by_cases c : coF (fun j => bt (nI X) j) 8 ≤ n ∧ coF (fun j => bt (nI X) j) 8 ≤ 6
        · rw [decide_eq_true c]
          refine itt ⟨vp_in_nI (by omega) (by omega), ?_⟩
          rw [nI_clamp (by omega)]
          have l1 := GN_len (m := μ 1 0) (k := k) (U := nI X) n8
          refine ⟨by omega, finds_X (k := k) (n := n) (by omega) hk fk fn n1 n8 (by omega) (by omega) hr.pp h.2.2.2.2.2.1 h.2.2.2.2.2.2 (by rw [GC_GN hr n1]; exact l1) (fun σ' C hu => ?_)⟩
          rw [GC_GN hr n1] at hu ⊢
          have Y : ∀ (K : Int32 → Mm → Prop), (∀ μ', YU μ μ' → μ' 0 0 7 = nI n → (∀ j, j < n → μ' 7 0 j = askF (nI i) j (GN (μ 1 0) k n (nI X)) 0 (μ 7 0 j)) → (if nI i < nI (GN (μ 1 0) k n (nI X)).length then (∃ m, f_X7_lay_54 (nI b) (nI X) K (fun σ10 => (∃ m, f_X7_lay_86 (nI b) K m (0 : Int32) σ10)) m (0 : Int32) μ') else (f_X7_finds (-1000004 : Int32) μ' (fun r16 σ15 => (K r16 σ15))))) → f_X7_lay (nI b) (nI X) (nI i) μ K := by
            intro K hK
            unfold f_X7_lay
            rw [if_neg c0]
            unfold f_X7_lay_12
            refine wrongSet_ok (n := n) hy h5 hb e2 ex (by decide) en n8 ?_
            rw [if_pos c, if_pos (by decide)]
            refine looksAt_Y (by omega) ek en n8 (fun μ1 L => ?_)
            refine seatingsN_Y (m := μ 1 0) hk n1 n8 hr.2.pp ⟨L.m, L.1, L.2.1⟩ (fun μ2 g1 g2 g3 => ?_)
            exact hK μ2 (L.yu.tr (YU.of g1)) (by rw [g1 0 0 (by omega)]; exact L.2.1) (fun j hj => by rw [g3 j hj, L.2.2.2.1 7 0 (by omega)])
          by_cases d : i < (GN (μ 1 0) k n (nI X)).length
          · rw [decide_eq_true d]
            obtain ⟨u, hu1, hu2⟩ := hu d
            refine itt ?_
            -- the row that is laid
            have mem : u ∈ GN (μ 1 0) k n (nI X) := List.mem_of_getElem? hu1
            have mem2 : u ∈ lv n 0 (nI X) (n - coF (fun j => bt (nI X) j) 8) (fun _ => -1) := by
              unfold GN at mem
              rw [if_pos c.1] at mem
              exact (List.mem_filter.mp mem).1
            obtain ⟨-, un1, un2⟩ := lv_uni mem2
            have hr1 : RI σ' 0 (μ 1 0) nb := ⟨hr.1.scr (by omega) h5 C.scr, hr.2⟩
            obtain ⟨σ1, m1, A, B, D, E, F, G⟩ := lifts (U := nI X) (a1 := nI b) (i3 := 16) (nb := nb) 8 0 σ' (μ 1 0) rfl hr1 (fun q hq => absurd hq (by omega))
            refine ⟨by omega, by omega, 9, A _ _ ⟨vp_in_nI (by omega) (by omega), ?_⟩⟩
            rw [nI_clamp (by omega)]
            have fn1 : σ1 0 (5 * 0 + b) 1 = nI n := by rw [G 0 _ (by omega), C.1 0 _ (by omega) (by omega) (by omega)]; exact fn
            rw [fn1, show (0 : Int32).toNatClampNeg = 0 from rfl, nI_clamp (by omega)]
            refine ⟨by omega, vp_in_nI (by omega) (by omega), by decide, by decide, nI_pos (by omega), by omega, by omega, _, rfl, ?_⟩
            refine Y _ (fun μ' U e7 e8 => ?_)
            rw [if_pos (nI_lt d (by omega))]
            refine ⟨9, B μ' _ _ U.m ?_⟩
            refine lay86_Y (n := n) (by omega) (by rw [mrow_nx (by omega)]; exact e7) n8 (fun μ2 p1 p2 p3 => ⟨rfl, ?_⟩)
            have eu : ∀ j, j < n → μ' 7 0 j = u j := fun j hj => by
              rw [e8 j hj]
              exact askF_get _ 0 _ (Nat.zero_le _) (by omega) hu1
            have o1 : ∀ t' i', ¬ (t' = 1 ∧ i' < 5) → mrow σ1 1 (5 * 0 + b) (va_cpy (σ1 1 16) (σ1 1 (5 * 0 + b)) 0 0 n) t' i' = σ' t' i' := fun t' i' c => by rw [mrow_nx (by omega), G t' i' c]
            have hI : RI (mrow σ1 1 (5 * 0 + b) (va_cpy (σ1 1 16) (σ1 1 (5 * 0 + b)) 0 0 n)) 0 (μ2 1 0) nb := by
              refine D.row (b := b) (n := n) (w := u) hb (by rw [F b hb]; exact en) n8 (fun s hs => ?_) (fun j j' hj hj' hne e => un2 j j' (by omega) (by omega) (by omega) (by omega) hne e) (fun j b' s' hj hne hb' hs' _ e => ?_) (fun j hj => by rw [p2 j hj, mrow_at]) (fun j hj => by rw [p1 j hj, mrow_nx (by omega)]; exact eu j hj) (fun t' i' c1 _ => mrow_nx (by omega)) (by rw [mrow_nx (by omega)]) (by rw [mrow_nx (by omega)]) (fun j hj => ?_) (fun j hj hj8 => ?_)
              · rcases un1 s (by omega) (by omega) with g | ⟨p, hp, _, g⟩
                · exact Or.inl g
                · exact Or.inr ⟨p, hp, g⟩
              · rcases un1 j (by omega) (by omega) with g | ⟨p, hp, hbp, g⟩
                · exact hne g
                · exact E p hp hbp b' s' hb' hs' (e.trans g)
              · rw [mrow_at, pk_cpy_in (by omega) (by omega), show 0 + (j - 0) = j by omega, G 1 16 (by omega)]; exact hu2 j hj
              · obtain ⟨k', n', -, n1', n8', -, en', -, -, z', zz'⟩ := D.ks hb
                have e1 : n' = n := (nI_eq (by omega) (by omega)).mp (en'.symm.trans ((F b hb).trans en))
                subst e1
                rw [mrow_at, pk_cpy_out (by omega), ← (z' j hj8).1]; exact zz' j hj hj8
            have R' : Rel σ' μ' := h.scr C.scr U.scr
            refine R'.out (nb := nb) ⟨fun t' i' c1 c2 c3 => o1 t' i' (by omega), fun t' c1 => o1 t' 1 (by omega), fun t' i' c1 => o1 t' i' (by omega), by rw [o1 8 0 (by omega)], by rw [o1 9 0 (by omega)]⟩ ⟨fun t' c1 => ?_, ?_, ?_⟩ hI
            · rw [p3 t' 0 (by omega), mrow_nx (by omega)]
            · rw [p3 0 0 (by omega), mrow_nx (by omega)]
            · rw [p3 0 0 (by omega), mrow_nx (by omega)]
          · rw [decide_eq_false d]
            refine itf (find_X (w := 3) (by decide) rfl ?_)
            refine Y _ (fun μ' U e7 _ => ?_)
            rw [if_neg (nI_nlt (by omega) (by omega))]
            exact find_Y (w := 3) (by decide) (by decide) ⟨rfl, (h.scr C.scr U.scr).find (by decide)⟩
        · rw [decide_eq_false c]
          refine itf (E_find' 6 (by decide) (-1000007) rfl (by decide) h (fun r σ' hh => ?_))
          show f_X7_lay (nI b) (nI X) (nI i) μ _
          unfold f_X7_lay
          rw [if_neg c0]
          unfold f_X7_lay_12
          refine wrongSet_ok (n := n) hy h5 hb e2 ex (by decide) en n8 ?_
          rw [if_neg c, if_neg (by decide)]
          exact hh
