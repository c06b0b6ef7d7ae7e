/-! PURE: gain, worth -/
def gsd (B : Nat → Int32) (p : Nat) (x : Int32) : Int32 := if x = -1 then 0 else if B (8 * p + x.toNatClampNeg) = 0 then 0 else 1
def nsL (v : Nat → Int32) (s : Nat) : Int32 := if s = 0 then -1 else v (s - 1)
def nsR (v : Nat → Int32) (n s : Nat) : Int32 := if s + 1 < n then v (s + 1) else -1
def gnF (B : Nat → Int32) (v : Nat → Int32) (n s p : Nat) : Int32 := gsd B p (nsL v s) + gsd B p (nsR v n s)
theorem nsL_pv {v : Nat → Int32} {n s : Nat} (hv : pvs v n) (hs : s < n) : pv (nsL v s) := by
  unfold nsL
  by_cases c : s = 0
  · rw [if_pos c]; exact Or.inl rfl
  · rw [if_neg c]; exact hv _ (by omega)
theorem nsR_pv {v : Nat → Int32} {n s : Nat} (hv : pvs v n) : pv (nsR v n s) := by
  unfold nsR
  by_cases c : s + 1 < n
  · rw [if_pos c]; exact hv _ c
  · rw [if_neg c]; exact Or.inl rfl
theorem gsd_congr {B B' : Nat → Int32} {p : Nat} {x : Int32} (hp : p < 8) (hx : pv x) (hB : ∀ j, j < 64 → B j = B' j) : gsd B p x = gsd B' p x := by
  unfold gsd
  rcases hx with rfl | ⟨q, hq, rfl⟩
  · rw [if_pos rfl, if_pos rfl]
  · rw [nI_clamp (by omega), hB _ (by omega)]
theorem gnF_congr {B B' v v' : Nat → Int32} {n s p : Nat} (hp : p < 8) (hs : s < n) (hv : pvs v n) (hB : ∀ j, j < 64 → B j = B' j) (e : ∀ j, j < n → v j = v' j) : gnF B v n s p = gnF B' v' n s p := by
  have e1 : nsL v s = nsL v' s := by
    unfold nsL
    by_cases c : s = 0
    · rw [if_pos c, if_pos c]
    · rw [if_neg c, if_neg c]; exact e _ (by omega)
  have e2 : nsR v n s = nsR v' n s := by
    unfold nsR
    by_cases c : s + 1 < n
    · rw [if_pos c, if_pos c]; exact e _ c
    · rw [if_neg c, if_neg c]
  unfold gnF
  rw [gsd_congr hp (nsL_pv hv hs) hB, gsd_congr hp (nsR_pv hv) hB, e1, e2]
theorem side_X {r p : Nat} {x : Int32} {σ : Mm} {K : Int32 → Mm → Prop} (hr : r < 3) (hp : p < 8) (hx : pv x) (h : K (gsd (σ 3 r) p x) σ) : f_X1_gainBeside r (nI p) x σ K := by
  refine ⟨hr, ?_⟩
  unfold gsd at h
  rcases hx with rfl | ⟨q, hq, rfl⟩
  · rw [if_pos rfl] at h ⊢; exact h
  · rw [if_neg (nI_ne_m1 (by omega)), nI_clamp (by omega)] at h
    rw [if_neg (nI_ne_m1 (by omega))]
    refine bondOf_X hr hp hq ?_
    by_cases c : σ 3 r (8 * p + q) = 0
    · rw [if_pos c] at h ⊢; exact h
    · rw [if_neg c] at h ⊢; exact h
theorem next_X {i n s : Nat} {left : Bool} {σ : Mm} {K : Int32 → Mm → Prop} (hi : i < 17) (en : σ 0 i 1 = nI n) (h8 : n ≤ 8) (hs : s < n) (h : K (if left = true then nsL (σ 1 i) s else nsR (σ 1 i) n s) σ) : f_X0_nextSeated i (nI s) (sideV left) σ K := by
  refine ⟨hi, ?_⟩
  cases left with
  | true =>
    rw [if_pos rfl] at h
    show if nI s + -1 < 0 then _ else _
    unfold nsL at h
    cases s with
    | zero =>
      rw [if_pos rfl] at h
      rw [show nI 0 + (-1 : Int32) = -1 by decide, if_pos (by decide)]; exact h
    | succ s =>
      rw [if_neg (by omega)] at h
      show if nI (s + 1) + -1 < 0 then _ else if nI (s + 1) + -1 < σ 0 i 1 then (vp_in (nI (s + 1) + -1) 8 ∧ K (σ 1 i (nI (s + 1) + -1).toNatClampNeg) σ) else _
      rw [nI_m1, if_neg (nI_pos (by omega)), en, if_pos (nI_lt (by omega) (by omega)), nI_clamp (by omega)]
      exact ⟨vp_in_nI (by omega) (by omega), h⟩
  | false =>
    rw [if_neg (by decide)] at h
    show if nI s + 1 < 0 then _ else if nI s + 1 < σ 0 i 1 then (vp_in (nI s + 1) 8 ∧ K (σ 1 i (nI s + 1).toNatClampNeg) σ) else _
    unfold nsR at h
    rw [nI_1, if_neg (nI_pos (by omega)), en]
    by_cases c : s + 1 < n
    · rw [if_pos c] at h
      rw [if_pos (nI_lt c (by omega)), nI_clamp (by omega)]
      exact ⟨vp_in_nI (by omega) (by omega), h⟩
    · rw [if_neg c] at h
      rw [if_neg (nI_nlt (by omega) (by omega))]; exact h
theorem gain_X {r i n s p : Nat} {σ : Mm} {K : Int32 → Mm → Prop} (hr : r < 3) (hi : i < 17) (hp : p < 8) (en : σ 0 i 1 = nI n) (h8 : n ≤ 8) (hv : pvs (σ 1 i) n) (hs : s < n) (e : σ 1 i s = nI p) (hf : ∀ q, q < s → ¬ σ 1 i q = nI p) (h : K (gnF (σ 3 r) (σ 1 i) n s p) σ) : f_X1_gainOf r (nI p) i σ K := by
  refine ⟨hr, hi, seatOf_at hi en h8 hs e hf ?_⟩
  rw [if_neg (nI_ne_m1 (by omega))]
  refine next_X (left := true) hi en h8 hs ?_
  rw [if_pos rfl]
  refine side_X hr hp (nsL_pv hv hs) (next_X (left := false) hi en h8 hs ?_)
  rw [if_neg (by decide)]
  exact side_X hr hp (nsR_pv hv) h
theorem gain_no {r i n p : Nat} {σ : Mm} {K : Int32 → Mm → Prop} (hr : r < 3) (hi : i < 17) (en : σ 0 i 1 = nI n) (h8 : n ≤ 8) (hf : ∀ q, q < n → ¬ σ 1 i q = nI p) (h : K 0 σ) : f_X1_gainOf r (nI p) i σ K := by
  refine ⟨hr, hi, seatOf_no hi en h8 hf ?_⟩
  rw [if_pos rfl]; exact h
theorem i32_add0' (x : Int32) : (0 : Int32) + x = x := by rw [Int32.add_comm]; exact i32_add0 x
theorem gainS_Y {n s p : Nat} {a2 a3 : Int32} {x : Int32} {μ : Mm} {K : Int32 → Mm → Prop} {d : Nat} (hp : p < 8) (hs : s < n) (h8 : n ≤ 8) (e : μ 5 0 s = nI p) (ib : IB (μ 1 0)) (h1 : ¬ (1 : Int32) < a3) (en : μ 0 0 7 = nI n) (hx : (∃ q, q < n ∧ nI s + a3 = nI q ∧ μ 5 0 q = x ∧ pv x) ∨ (benchB (nI s + a3) n = false ∧ x = -1)) (h : f_X7_gainOn_4 (nI s) K d (a2 + gsd (fun j => μ 1 0 (4 + j)) p x) (a3 + (2 : Int32)) μ) : f_X7_gainOn_4 (nI s) K (d + 1) a2 a3 μ := by
  rw [f_X7_gainOn_4, if_neg h1, isThere_Y en h8]
  rcases hx with ⟨q, hq, e1, e2, e3⟩ | ⟨e1, e2⟩
  · rw [e1, benchB_nI hq h8, if_pos rfl, nI_clamp (by omega), nI_clamp (by omega), e2, e]
    have t : vp_in (nI q) 8 := vp_in_nI (by omega) (by omega)
    refine ⟨t, ?_⟩
    rcases e3 with e3 | ⟨y, hy, e3⟩
    · rw [e3] at h ⊢
      rw [if_pos (by decide)]
      unfold gsd at h
      rw [if_pos rfl] at h
      exact h
    · rw [e3] at h ⊢
      rw [if_neg (nI_pos (by omega))]
      refine ⟨vp_in_nI (by omega) (by omega), t, how_Y hp hy ?_⟩
      obtain ⟨z, hz, ez⟩ := (ib.1 p y hp hy).1
      have gv : gsd (fun j => μ 1 0 (4 + j)) p (nI y) = if z = 0 then 0 else 1 := by
        unfold gsd
        show (if nI y = -1 then (0 : Int32) else if μ 1 0 (4 + (8 * p + (nI y).toNatClampNeg)) = 0 then 0 else 1) = _
        rw [if_neg (nI_ne_m1 (by omega)), nI_clamp (by omega), show 4 + (8 * p + y) = 4 + 8 * p + y by omega, ez]
        by_cases c : z = 0
        · subst c; rfl
        · rw [if_neg c, if_neg (fun g => c ((lit_eq z 0 (by omega) (by omega)).mp g))]
      rw [gv] at h
      rw [ez]
      by_cases c : z = 0
      · subst c
        rw [if_pos rfl] at h
        rw [if_pos (by decide)]; exact h
      · rw [if_neg c] at h
        rw [if_neg (show ¬ nI z ≤ 0 from nI_ge (a := 0) (b := z) (by omega) (by omega))]; exact h
  · rw [e1, if_neg (by decide)]
    subst e2
    unfold gsd at h
    rw [if_pos rfl] at h
    exact h
theorem benchB_no {x : Int32} {n : Nat} (h : x.toInt < 0 ∨ (n : Int) ≤ x.toInt) : benchB x n = false := by
  unfold benchB inZ
  apply decide_eq_false
  omega
theorem gain2_Y {n s p d : Nat} {a0 a1 : Int32} {μ : Mm} {K : Int32 → Mm → Prop} (h0 : a0 = 0) (h1 : a1 = -1) (hp : p < 8) (hs : s < n) (h8 : n ≤ 8) (e : μ 5 0 s = nI p) (hv : pvs (μ 5 0) n) (ib : IB (μ 1 0)) (en : μ 0 0 7 = nI n) (h : K (gnF (fun j => μ 1 0 (4 + j)) (μ 5 0) n s p) μ) : f_X7_gainOn_4 (nI s) K (d + 1 + 1 + 1) a0 a1 μ := by
  have s1 : ¬ (1 : Int32) < a1 := by rw [h1]; decide
  have s2 : ¬ (1 : Int32) < a1 + 2 := by rw [h1]; decide
  have s3 : (1 : Int32) < a1 + 2 + 2 := by rw [h1]; decide
  refine gainS_Y (x := nsL (μ 5 0) s) hp hs h8 e ib s1 en ?_ ?_
  · rw [h1]
    cases s with
    | zero =>
      right
      exact ⟨benchB_no (Or.inl (by decide)), rfl⟩
    | succ s =>
      left
      refine ⟨s, by omega, nI_m1 s, ?_, nsL_pv hv hs⟩
      unfold nsL
      rw [if_neg (by omega)]
      rfl
  · refine gainS_Y (x := nsR (μ 5 0) n s) hp hs h8 e ib s2 en ?_ ?_
    · rw [h1, show (-1 : Int32) + 2 = 1 by decide]
      by_cases c : s + 1 < n
      · left
        refine ⟨s + 1, c, nI_1 s, ?_, nsR_pv hv⟩
        unfold nsR
        rw [if_pos c]
      · right
        refine ⟨benchB_no (Or.inr ?_), ?_⟩
        · rw [nI_1, nI_toInt (by omega)]; omega
        · unfold nsR; rw [if_neg c]
    · rw [f_X7_gainOn_4, if_pos s3, h0, i32_add0']
      exact h
theorem gainC_Y {s d : Nat} {a0 a1 : Int32} {μ : Mm} {K : Int32 → Mm → Prop} (h0 : a0 = 0) (h1 : a1 = -1) (h : f_X7_gainOn_4 (nI s) K d a0 a1 μ) : f_X7_gainOn (nI s) μ K := by
  subst h0 h1
  exact ⟨d, h⟩
theorem gainOn_Y {n s p : Nat} {μ : Mm} {K : Int32 → Mm → Prop} (hp : p < 8) (hs : s < n) (h8 : n ≤ 8) (e : μ 5 0 s = nI p) (hv : pvs (μ 5 0) n) (ib : IB (μ 1 0)) (en : μ 0 0 7 = nI n) (h : K (gnF (fun j => μ 1 0 (4 + j)) (μ 5 0) n s p) μ) : f_X7_gainOn (nI s) μ K := by
  obtain ⟨a0, h0⟩ : ∃ a0 : Int32, a0 = 0 := ⟨_, rfl⟩
  obtain ⟨a1, h1⟩ : ∃ a1 : Int32, a1 = -1 := ⟨_, rfl⟩
  obtain ⟨d, -⟩ : ∃ d : Nat, d = 0 := ⟨_, rfl⟩
  exact gainC_Y h0 h1 (gain2_Y (d := d) h0 h1 hp hs h8 e hv ib en h)
theorem E_gain (a : Int32) {σ μ : Mm} (h : Rel σ μ) : f_X6_gain a σ (fun r σ' => f_X7_gain a μ (fun r' μ' => r' = r ∧ Rel σ' μ')) := by
  obtain ⟨nb, h5, hx, hy, hr⟩ := h.nbx
  unfold f_X6_gain
  rw [isPerson_X]
  cases e : inZ a 0 7 with
  | false =>
    rw [if_neg (by decide)]
    refine E_find0' h (fun r σ' hh => ?_)
    show f_X7_gain a μ _
    unfold f_X7_gain
    rw [isPerson_Y, e, if_neg (by decide)]
    exact hh
  | true =>
    rw [if_pos rfl]
    obtain ⟨p, -, hp, rfl⟩ := inZ_ex (lo := 0) (hi := 7) e (by omega)
    have hp8 : p < 8 := by omega
    rcases at_or (μ 1 0) nb p with ⟨b, s, ha⟩ | hn
    · have hb := ha.1
      have hs := ha.2.1
      obtain ⟨n, n1, n8, en, fn, sn, e1, e2⟩ := hr.atn hp8 ha
      obtain ⟨k, n', hk, -, n8', ek, en', fk, fn', z, zz⟩ := hr.ks hb
      refine with_at hr (by omega) hp8 ha ?_
      rw [if_neg (nI_ne_m1 (by omega)), nI_clamp (by omega)]
      refine ⟨vp_in_nI (by omega) (by omega), by omega, gain_X (by omega) (by omega) hp8 fn n8 (hr.pvs hb n8) sn e1 (fun q hq => e2 q (by omega) (by omega)) ?_⟩
      show f_X7_gain (nI p) μ _
      unfold f_X7_gain
      rw [isPerson_Y, e, if_pos rfl]
      refine where_at hr.2 hp8 ha ?_
      rw [if_pos (nI_pos' (by omega)), (div10 (by omega) hs).2, (div10 (by omega) hs).1]
      refine looksAt_Y (by omega) ek en n8 (fun μ' hl => ?_)
      have hv' := hl.pvs hr hb n8
      refine gainOn_Y hp8 sn n8 (by rw [hl.2.2.1 s sn]; exact ha.2.2) hv' (by rw [hl.m]; exact hr.2.2.1) hl.2.1 ?_
      refine ⟨?_, h.scr Scr.rf hl.scr⟩
      refine gnF_congr hp8 sn hv' (fun j hj => ?_) (fun j hj => ?_)
      · rw [hl.m]; exact hr.1.2.1 j hj
      · rw [hl.2.2.1 j hj]; exact (z j (by omega)).1
    · refine with_no hr (by omega) hn ?_
      rw [if_pos rfl]
      refine E_find' 4 (by decide) (-1000005 : Int32) rfl (by decide) h (fun r σ' hh => ?_)
      show f_X7_gain (nI p) μ _
      unfold f_X7_gain
      rw [isPerson_Y, e, if_pos rfl]
      refine where_no hr.2 hn ?_
      rw [if_neg (by decide)]
      exact hh
/-- sums -/
def sgF (f : Nat → Int32) : Nat → Int32
  | 0 => 0
  | k + 1 => sgF f k + f k
theorem sgF_congr {f f' : Nat → Int32} : ∀ N, (∀ k, k < N → f k = f' k) → sgF f N = sgF f' N := by
  intro N
  induction N with
  | zero => intro _; rfl
  | succ N ih => intro e; unfold sgF; rw [ih (fun k hk => e k (by omega)), e N (by omega)]
theorem sgF_one {f f' : Nat → Int32} {q : Nat} {x : Int32} (h0 : f q = 0) (hx : f' q = x) {M : Nat} (e : ∀ k, k < M → k ≠ q → f' k = f k) : ∀ N, N ≤ M → sgF f' N = sgF f N + (if q < N then x else 0) := by
  intro N
  induction N with
  | zero => intro _; rw [if_neg (by omega)]; show (0 : Int32) = 0 + 0; decide
  | succ N ih =>
    intro hN
    unfold sgF
    rw [ih (by omega)]
    by_cases c : N = q
    · subst c
      rw [if_neg (by omega), if_pos (by omega), h0, hx, i32_add0]
    · rw [e N (by omega) c]
      by_cases d : q < N
      · rw [if_pos d, if_pos (by omega), Int32.add_assoc, Int32.add_comm x, ← Int32.add_assoc]
      · rw [if_neg d, if_neg (by omega), i32_add0, i32_add0]
def pgF (v g : Nat → Int32) : Nat → Nat → Int32
  | 0, _ => 0
  | k + 1, p => if v k = nI p then g k else pgF v g k p
theorem pgF_no {v g : Nat → Int32} {p : Nat} : ∀ k, (∀ j, j < k → ¬ v j = nI p) → pgF v g k p = 0 := by
  intro k
  induction k with
  | zero => intro _; rfl
  | succ k ih => intro e; unfold pgF; rw [if_neg (e k (by omega))]; exact ih (fun j hj => e j (by omega))
theorem pgF_at {v g : Nat → Int32} {p s : Nat} (e : v s = nI p) : ∀ k, s < k → (∀ j, j < k → j ≠ s → ¬ v j = nI p) → pgF v g k p = g s := by
  intro k
  induction k with
  | zero => intro h; omega
  | succ k ih =>
    intro h hf
    unfold pgF
    by_cases c : k = s
    · subst c; rw [if_pos e]
    · rw [if_neg (hf k (by omega) c)]
      exact ih (by omega) (fun j hj => hf j (by omega))
theorem pg_sum {v g : Nat → Int32} {n : Nat} (hv : pvs v n) (hu : ∀ i j, i < n → j < n → ¬ v i = -1 → v i = v j → i = j) : ∀ k, k ≤ n → sgF (pgF v g k) 8 = sgF (fun s => if v s = -1 then 0 else g s) k := by
  intro k
  induction k with
  | zero =>
    intro _
    show sgF (fun p => pgF v g 0 p) 8 = 0
    unfold pgF
    decide
  | succ k ih =>
    intro hk
    show _ = sgF _ k + (if v k = -1 then 0 else g k)
    rw [← ih (by omega)]
    rcases hv k (by omega) with c | ⟨q, hq, c⟩
    · rw [if_pos c, i32_add0]
      refine sgF_congr 8 (fun p hp => ?_)
      show (if v k = nI p then g k else pgF v g k p) = _
      rw [if_neg (fun e => nI_ne_m1 (n := p) (by omega) (e.symm.trans c))]
    · rw [if_neg (fun e => nI_ne_m1 (n := q) (by omega) (c.symm.trans e))]
      have key := sgF_one (f := pgF v g k) (f' := pgF v g (k + 1)) (q := q) (x := g k) (M := 8) ?_ ?_ ?_ 8 (Nat.le_refl 8)
      · rw [key, if_pos hq]
      · refine pgF_no k (fun j hj e => ?_)
        have := hu k j (by omega) (by omega) (by rw [c]; exact nI_ne_m1 (by omega)) (c.trans e.symm)
        omega
      · show (if v k = nI q then g k else pgF v g k q) = _
        rw [if_pos c]
      · intro p hp8 hp
        show (if v k = nI p then g k else pgF v g k p) = _
        rw [if_neg (fun hh => hp ((nI_eq (by omega) (by omega)).mp (hh.symm.trans c)))]
theorem E_worth (x : Int32) {σ μ : Mm} (h : Rel σ μ) : f_X6_worth x σ (fun r σ' => f_X7_worth x μ (fun r' μ' => r' = r ∧ Rel σ' μ')) := by
  obtain ⟨nb, h5, hx, hy, hr⟩ := h.nbx
  unfold f_X6_worth
  rw [isBench_X hx h5]
  cases e2 : benchB x nb with
  | false =>
    rw [if_neg (by decide)]
    refine E_find0' h (fun r σ' hh => ?_)
    show f_X7_worth x μ _
    unfold f_X7_worth
    rw [isBench_Y hy h5, e2, if_neg (by decide)]
    exact hh
  | true =>
    rw [if_pos rfl]
    obtain ⟨b, hb, rfl⟩ := benchB_ex e2 (by omega)
    obtain ⟨k, n, hk, n1, n8, ek, en, fk, fn, z, zz⟩ := hr.ks hb
    have hv : pvs (σ 1 (5 * 0 + b)) n := hr.pvs hb n8
    have hu : ∀ i j, i < n → j < n → ¬ σ 1 (5 * 0 + b) i = -1 → σ 1 (5 * 0 + b) i = σ 1 (5 * 0 + b) j → i = j := by
      intro i j hi hj g1 g2
      rw [← (z i (by omega)).1] at g1 g2
      rw [← (z j (by omega)).1] at g2
      exact (hr.2.2.2.2.2.1 b i b j hb (by omega) hb (by omega) g1 g2).2
    let g : Nat → Int32 := fun s => gnF (σ 3 0) (σ 1 (5 * 0 + b)) n s (σ 1 (5 * 0 + b) s).toNatClampNeg
    have X : ∀ (K : Int32 → Mm → Prop), K (sgF (pgF (σ 1 (5 * 0 + b)) g n) 8) σ → ∃ m, f_X6_worth_18 (nI b) K m (0 : Int32) (0 : Int32) σ := by
      intro K hK
      have main : ∀ (d p : Nat), p + d = 8 → f_X6_worth_18 (nI b) K (d + 1) (sgF (pgF (σ 1 (5 * 0 + b)) g n) p) (nI p) σ := by
        intro d
        induction d with
        | zero =>
          intro p hp
          have : p = 8 := by omega
          subst this
          rw [f_X6_worth_18, if_pos (by decide)]
          exact hK
        | succ d ih =>
          intro p hp
          have nx := ih (p + 1) (by omega)
          unfold sgF at nx
          rw [f_X6_worth_18, if_neg (show ¬ (8 : Int32) ≤ nI p from nI_ge (a := p) (b := 8) (by omega) (by omega)), nI_clamp (by omega), nI_1]
          refine ⟨vp_in_nI (by omega) (by omega), by omega, ?_⟩
          by_cases c : ∃ s, s < n ∧ σ 1 (5 * 0 + b) s = nI p
          · obtain ⟨s, hs, es⟩ := c
            have un : ∀ q, q < n → q ≠ s → ¬ σ 1 (5 * 0 + b) q = nI p := fun q hq hne e => hne (hu q s hq hs (by rw [e]; exact nI_ne_m1 (by omega)) (e.trans es.symm))
            refine gain_X (by omega) (by omega) (by omega) fn n8 hv hs es (fun q hq => un q (by omega) (by omega)) ?_
            rw [pgF_at es n hs un] at nx
            have eg : g s = gnF (σ 3 0) (σ 1 (5 * 0 + b)) n s p := by
              show gnF _ _ _ _ _ = _
              rw [es, nI_clamp (by omega)]
            rw [eg] at nx
            exact nx
          · have un : ∀ q, q < n → ¬ σ 1 (5 * 0 + b) q = nI p := fun q hq e => c ⟨q, hq, e⟩
            rw [pgF_no n un] at nx
            exact gain_no (by omega) (by omega) fn n8 un nx
      exact ⟨9, main 8 0 (by omega)⟩
    refine X _ ?_
    show f_X7_worth (nI b) μ _
    unfold f_X7_worth
    rw [isBench_Y hy h5, e2, if_pos rfl]
    refine looksAt_Y (by omega) ek en n8 (fun μ' hl => ?_)
    have hv' := hl.pvs hr hb n8
    have vv : ∀ j, j < n → μ' 5 0 j = σ 1 (5 * 0 + b) j := fun j hj => by rw [hl.2.2.1 j hj]; exact (z j (by omega)).1
    have main : ∀ (d s : Nat), s + d = n → f_X7_worth_24 (fun r' μ' => r' = sgF (pgF (σ 1 (5 * 0 + b)) g n) 8 ∧ Rel σ μ') (d + 1) (sgF (fun s => if σ 1 (5 * 0 + b) s = -1 then 0 else g s) s) (nI s) μ' := by
      intro d
      induction d with
      | zero =>
        intro s hs
        have : s = n := by omega
        subst this
        rw [f_X7_worth_24, hl.2.1, if_pos (nI_le (by omega) (by omega))]
        exact ⟨(pg_sum hv hu s (Nat.le_refl s)).symm, h.scr Scr.rf hl.scr⟩
      | succ d ih =>
        intro s hs
        have nx := ih (s + 1) (by omega)
        rw [show sgF (fun s => if σ 1 (5 * 0 + b) s = -1 then 0 else g s) (s + 1) = sgF (fun s => if σ 1 (5 * 0 + b) s = -1 then 0 else g s) s + (if σ 1 (5 * 0 + b) s = -1 then 0 else g s) from rfl] at nx
        rw [f_X7_worth_24, hl.2.1, if_neg (nI_ge (by omega) (by omega)), nI_clamp (by omega), nI_1]
        refine ⟨vp_in_nI (by omega) (by omega), ?_⟩
        by_cases c : μ' 5 0 s = -1
        · rw [if_neg (fun q => (pv_neg (hv' s (by omega))).2.mp q c)]
          rw [if_pos (by rw [← vv s (by omega)]; exact c)] at nx
          exact nx
        · rw [if_pos ((pv_neg (hv' s (by omega))).2.mpr c)]
          rw [if_neg (by rw [← vv s (by omega)]; exact c)] at nx
          obtain ⟨p, hp, ep⟩ := (hv' s (by omega)).resolve_left c
          refine gainOn_Y hp (by omega) n8 ep hv' (by rw [hl.m]; exact hr.2.2.1) hl.2.1 ?_
          have eg : g s = gnF (fun j => μ' 1 0 (4 + j)) (μ' 5 0) n s p := by
            show gnF _ _ _ _ _ = _
            rw [← vv s (by omega), ep, nI_clamp (by omega)]
            refine gnF_congr hp (by omega) hv (fun j hj => ?_) (fun j hj => (vv j hj).symm)
            rw [hl.m]; exact (hr.1.2.1 j hj).symm
          rw [eg] at nx
          exact nx
    exact ⟨n + 1, main n 0 (by omega)⟩
