/-! PURE: sit, may -/
theorem mset_back {σ : Mm} {t i s : Nat} {x y : Int32} (h : σ t i s = y) : mset (mset σ t i s x) t i s y = σ := by
  funext t' i' s'
  rw [mset_ap, mset_ap]
  by_cases c : t' = t ∧ i' = i ∧ s' = s
  · rw [if_pos c]
    obtain ⟨rfl, rfl, rfl⟩ := c
    exact h.symm
  · rw [if_neg c, if_neg c]
theorem upd_back {v : Nat → Int32} {s : Nat} {x y : Int32} (h : v s = y) : upd (upd v s x) s y = v := by
  funext j
  by_cases c : j = s
  · subst c; rw [upd_eq]; exact h.symm
  · rw [upd_ne c, upd_ne c]
/-- one bench's row without one person -/
def wo (v : Nat → Int32) (p : Nat) (s : Nat) : Int32 := if v s = nI p then -1 else v s
/-- both sides lift one -/
theorem lift2 {σ μ : Mm} {nb p : Nat} (h : Rel σ μ) (hr : RI σ 0 (μ 1 0) nb) (hp : p < 8) : ∃ (d e : Bool) (σ1 μ1 : Mm), (∀ K : Bool → Mm → Prop, K d σ1 → f_X2_lift 0 (nI p) σ K) ∧ (∀ K : Bool → Mm → Prop, K e μ1 → f_X7_rises (nI p) μ K) ∧ Rel σ1 μ1 ∧ RI σ1 0 (μ1 1 0) nb ∧ Nowh (μ1 1 0) nb p ∧ (∀ b, b < nb → μ1 1 0 (76 + 10 * b) = μ 1 0 (76 + 10 * b) ∧ μ1 1 0 (77 + 10 * b) = μ 1 0 (77 + 10 * b) ∧ ∀ s, s < 8 → μ1 1 0 (78 + 10 * b + s) = wo (fun j => μ 1 0 (78 + 10 * b + j)) p s) ∧ (∀ t i, t ≠ 1 → σ1 t i = σ t i) ∧ (∀ t i, t ≠ 1 → μ1 t i = μ t i) := by
  rcases at_or (μ 1 0) nb p with ⟨b, s, ha⟩ | hn
  · have hb := ha.1
    have hs := ha.2.1
    refine ⟨true, true, mset σ 1 (5 * 0 + b) s (-1), mset μ 1 0 (78 + 10 * b + s) (-1), fun K hk => lift_at hr (by omega) hp ha hk, fun K hk => rises_at hr.2 hp ha hk, h.up hr hp ha, ?_, ?_, ?_, fun t i ht => mset_ne (by omega), fun t i ht => mset_ne (by omega)⟩
    · rw [mset_eq]; exact (hr.up hp ha).1
    · rw [mset_eq]; exact (hr.up hp ha).2
    · intro c hc
      rw [mset_eq]
      refine ⟨upd_ne (by omega), upd_ne (by omega), fun q hq => ?_⟩
      show _ = if μ 1 0 (78 + 10 * c + q) = nI p then -1 else μ 1 0 (78 + 10 * c + q)
      by_cases e : c = b ∧ q = s
      · obtain ⟨rfl, rfl⟩ := e
        rw [upd_eq, if_pos ha.2.2]
      · rw [upd_ne (by omega), if_neg ?_]
        intro e2
        have := hr.2.2.2.2.2.1 b s c q hb hs hc hq (by rw [ha.2.2]; exact nI_ne_m1 (by omega)) (ha.2.2.trans e2.symm)
        omega
  · refine ⟨false, false, σ, μ, fun K hk => lift_no hr (by omega) hn hk, fun K hk => rises_no hr.2 hn hk, h, hr, hn, fun b hb => ⟨rfl, rfl, fun s hs => ?_⟩, fun _ _ _ => rfl, fun _ _ _ => rfl⟩
    show _ = if μ 1 0 (78 + 10 * b + s) = nI p then -1 else μ 1 0 (78 + 10 * b + s)
    rw [if_neg (hn b s hb hs)]
theorem holds_Y {σ μ : Mm} {nb b k n : Nat} {K : Bool → Mm → Prop} (hr : RI σ 0 (μ 1 0) nb) (hb : b < nb) (hk : k < 7) (ek : μ 1 0 (76 + 10 * b) = nI k) (en : μ 1 0 (77 + 10 * b) = nI n) (h1 : 1 ≤ n) (h8 : n ≤ 8) (h : ∀ μ', Look μ b k n μ' → K (hoB (σ 3 0) (σ 2 0 2) (σ 4 0) (σ 2 0 3) (σ 1 (5 * 0 + b)) k n) μ') : f_X7_holds (nI b) μ K := by
  have h5 := hr.2.nb
  refine looksAt_Y (by omega) ek en h8 (fun μ' hl => ?_)
  refine holdsNow_Y hk hl.1 hl.2.1 h1 h8 (hl.pvs hr hb h8) (hl.pp hr.2) ?_
  rw [hl.ho hr hb h1 h8]
  exact h μ' hl
theorem itf {A B : Prop} (h : B) : if (false = true) then A else B := by rw [if_neg (by decide)]; exact h
theorem itt {A B : Prop} (h : A) : if (true = true) then A else B := by rw [if_pos rfl]; exact h
theorem K_b2 {b : Bool} {σ : Mm} {K : Int32 → Mm → Prop} (h : K (b2i b) σ) : if b = true then K (1 : Int32) σ else K (0 : Int32) σ := by
  cases b with
  | true => rw [if_pos rfl]; exact h
  | false => rw [if_neg (by decide)]; exact h
theorem E_sit (a x s : Int32) {σ μ : Mm} (h : Rel σ μ) : f_X6_sit a x s σ (fun r σ' => f_X7_sit a x s μ (fun r' μ' => r' = r ∧ Rel σ' μ')) := by
  obtain ⟨nb, h5, hx, hy, hr⟩ := h.nbx
  unfold f_X6_sit
  rw [isPerson_X]
  cases e : inZ a 0 7 with
  | false =>
    rw [if_neg (by decide)]
    refine E_find0' h (fun r σ' hh => ?_)
    show f_X7_sit a x s μ _
    unfold f_X7_sit
    rw [isPerson_Y, e, if_neg (by decide)]
    exact hh
  | true =>
    rw [if_pos rfl]
    obtain ⟨p, -, hp, rfl⟩ := inZ_ex (lo := 0) (hi := 7) e (by omega)
    refine isSeat_X hx h5 ?_
    have hsz : ∀ b, b < nb → ∃ n, n ≤ 8 ∧ μ 1 0 (77 + 10 * b) = nI n := fun b hb => by
      obtain ⟨n, n1, n8, en, -⟩ := hr.2.sz hb
      exact ⟨n, n8, en⟩
    have ec : seatB x s nb (fun b => σ 0 (5 * 0 + b) 1) = seatB x s nb (fun b => μ 1 0 (77 + 10 * b)) := seatB_congr (by omega) (fun b hb => (hr.1.2.2.2.1 b hb).2.1.symm)
    rw [ec]
    cases e2 : seatB x s nb (fun b => μ 1 0 (77 + 10 * b)) with
    | false =>
      rw [if_neg (by decide)]
      refine E_find0' h (fun r σ' hh => ?_)
      show f_X7_sit (nI p) x s μ _
      unfold f_X7_sit
      rw [isPerson_Y, e, if_pos rfl]
      refine isSeat_Y hy h5 hsz ?_
      rw [e2, if_neg (by decide)]
      exact hh
    | true =>
      rw [if_pos rfl]
      obtain ⟨b, t, n', hb, n8', ht, en', rfl, rfl⟩ := seatB_ex e2 (by omega) hsz
      obtain ⟨k, n, hk, n1, n8, ek, en, fk, fn, z, zz⟩ := hr.ks hb
      have : n = n' := (nI_eq (by omega) (by omega)).mp (en.symm.trans en')
      subst this
      have Y : ∀ {G : Int32 → Mm → Prop}, (if μ 1 0 (78 + 10 * b + t) < 0 then f_X7_sit_53 (nI p) (nI b) (nI t) G μ else if μ 1 0 (78 + 10 * b + t) = nI p then f_X7_sit_53 (nI p) (nI b) (nI t) G μ else f_X7_finds (-1000005 : Int32) μ (fun r19 σ18 => G r19 σ18)) → f_X7_sit (nI p) (nI b) (nI t) μ G := by
        intro G hG
        unfold f_X7_sit
        rw [isPerson_Y, e, if_pos rfl]
        refine isSeat_Y hy h5 hsz ?_
        rw [e2, if_pos rfl, at_Y (by omega) (by omega), nI_clamp (by omega)]
        exact ⟨vp_in_nI (by omega) (by omega), hG⟩
      have zt := z t (by omega)
      obtain ⟨d, e', σ1, μ1, L, L', hR, hI, hN, hB, hs1, hm1⟩ := lift2 h hr (show p < 8 by omega)
      have bb := hB b hb
      have hz : μ1 1 0 (78 + 10 * b + t) = -1 ∨ ¬ (μ 1 0 (78 + 10 * b + t) = -1 ∨ μ 1 0 (78 + 10 * b + t) = nI p) := by
        rw [bb.2.2 t (by omega)]
        show (if μ 1 0 (78 + 10 * b + t) = nI p then -1 else μ 1 0 (78 + 10 * b + t)) = -1 ∨ _
        by_cases c : μ 1 0 (78 + 10 * b + t) = nI p
        · rw [if_pos c]; exact Or.inl rfl
        · rw [if_neg c]
          by_cases c2 : μ 1 0 (78 + 10 * b + t) = -1
          · exact Or.inl c2
          · exact Or.inr (fun g => g.elim c2 c)
      have hI2 : RI (mset σ1 1 (5 * 0 + b) t (nI p)) 0 (mset μ1 1 0 (78 + 10 * b + t) (nI p) 1 0) nb := by
        rw [mset_eq]
        exact hI.seat hb (bb.2.1.trans en) n8 ht (Or.inr ⟨p, by omega, rfl⟩) (Or.inr (fun b' s' h1 h2 h3 => absurd h3 (hN b' s' h1 h2)))
      have hR2 : Rel (mset σ1 1 (5 * 0 + b) t (nI p)) (mset μ1 1 0 (78 + 10 * b + t) (nI p)) := hR.out (Out.set (by omega)) (OutY.set (by omega)) hI2
      have put : ∀ {K : Bool → Mm → Prop}, K (hoB ((mset σ1 1 (5 * 0 + b) t (nI p)) 3 0) ((mset σ1 1 (5 * 0 + b) t (nI p)) 2 0 2) ((mset σ1 1 (5 * 0 + b) t (nI p)) 4 0) ((mset σ1 1 (5 * 0 + b) t (nI p)) 2 0 3) ((mset σ1 1 (5 * 0 + b) t (nI p)) 1 (5 * 0 + b)) k n) (mset σ1 1 (5 * 0 + b) t (nI p)) → f_X2_putDown 0 (nI p) (nI b) (nI t) σ (fun σ9 => (vp_in (nI b) 5 ∧ ((5 * 0 + b) < 17 ∧ (f_X1_holds 0 (5 * 0 + b) σ9 K)))) := by
        intro K hK
        refine ⟨by omega, L _ ?_⟩
        rw [nI_clamp (n := b) (by omega), nI_clamp (n := t) (by omega)]
        refine ⟨vp_in_nI (by omega) (by omega), by omega, vp_in_nI (by omega) (by omega), _, rfl, vp_in_nI (by omega) (by omega), by omega, ?_⟩
        refine holds_X (k := k) (n := n) (by omega) (by omega) hk ?_ ?_ n1 n8 (hI2.pvs hb n8) hI2.pp hK
        · rw [mset_ne (by omega), hs1 0 _ (by omega)]; exact fk
        · rw [mset_ne (by omega), hs1 0 _ (by omega)]; exact fn
      have W : ∀ {G : Int32 → Mm → Prop}, (∀ μ', Look (mset μ1 1 0 (78 + 10 * b + t) (nI p)) b k n μ' → G (b2i (hoB ((mset σ1 1 (5 * 0 + b) t (nI p)) 3 0) ((mset σ1 1 (5 * 0 + b) t (nI p)) 2 0 2) ((mset σ1 1 (5 * 0 + b) t (nI p)) 4 0) ((mset σ1 1 (5 * 0 + b) t (nI p)) 2 0 3) ((mset σ1 1 (5 * 0 + b) t (nI p)) 1 (5 * 0 + b)) k n)) μ') → f_X7_sit_53 (nI p) (nI b) (nI t) G μ := by
        intro G hG
        unfold f_X7_sit_53
        refine L' _ ?_
        rw [at_Y (by omega) (by omega), nI_clamp (by omega)]
        refine ⟨vp_in_nI (by omega) (by omega), _, rfl, ?_⟩
        refine holds_Y hI2 hb hk ?_ ?_ n1 n8 (fun μ' hl => K_b2 (hG μ' hl))
        · rw [mset_eq, upd_ne (by omega), bb.1]; exact ek
        · rw [mset_eq, upd_ne (by omega), bb.2.1]; exact en
      refine ⟨by omega, vp_in_nI (by omega) (by omega), by rw [nI_clamp (by omega)]; omega, vp_in_nI (by omega) (by omega), ?_⟩
      rw [nI_clamp (n := b) (by omega), nI_clamp (n := t) (by omega), ← zt.1]
      by_cases c1 : μ 1 0 (78 + 10 * b + t) = -1
      · rw [if_pos c1]
        refine itf ?_
        refine put (K_b2 (K := fun r σ' => f_X7_sit (nI p) (nI b) (nI t) μ (fun r' μ' => r' = r ∧ Rel σ' μ')) (Y ?_))
        rw [if_pos ((pv_neg zt.2).1.mpr c1)]
        exact W (fun μ' hl => ⟨rfl, hR2.scr Scr.rf hl.scr⟩)
      · rw [if_neg c1]
        by_cases c2 : μ 1 0 (78 + 10 * b + t) = nI p
        · rw [if_pos c2]
          refine itf ?_
          refine put (K_b2 (K := fun r σ' => f_X7_sit (nI p) (nI b) (nI t) μ (fun r' μ' => r' = r ∧ Rel σ' μ')) (Y ?_))
          rw [if_neg (fun g => c1 ((pv_neg zt.2).1.mp g)), if_pos c2]
          exact W (fun μ' hl => ⟨rfl, hR2.scr Scr.rf hl.scr⟩)
        · rw [if_neg c2]
          refine itt ?_
          refine E_find' 4 (by decide) (-1000005 : Int32) rfl (by decide) h (fun r σ' hh => Y ?_)
          rw [if_neg (fun g => c1 ((pv_neg zt.2).1.mp g)), if_neg c2]
          exact hh
/-- the set of seats that one may ask for -/
def mayF (B : Nat → Int32) (ov : Int32) (w : Nat → Int32) (h : Int32) (v : Nat → Int32) (k n p : Nat) : Nat → Int32
  | 0 => 0
  | s + 1 => if v s = -1 ∧ hoB B ov w h (upd v s (nI p)) k n = true then mayF B ov w h v k n p s ||| ((1 : Int32) <<< (nI s &&& 31)) else mayF B ov w h v k n p s
theorem pvs_upd {v : Nat → Int32} {n s : Nat} {x : Int32} (h : pvs v n) (hx : pv x) : pvs (upd v s x) n := by
  intro j hj
  by_cases c : j = s
  · subst c; rw [upd_eq]; exact hx
  · rw [upd_ne c]; exact h j hj
theorem pv_nI {p : Nat} (h : p < 8) : pv (nI p) := Or.inr ⟨p, h, rfl⟩
theorem mayF_congr {B B' : Nat → Int32} {ov : Int32} {w w' : Nat → Int32} {h : Int32} {v v' : Nat → Int32} {k n p : Nat} (h1 : 1 ≤ n) (hB : ∀ j, j < 64 → B j = B' j) (hw : ∀ q, q < 8 → w q = w' q) (hp : p < 8) (hv : pvs v n) (e : ∀ j, j < n → v j = v' j) : ∀ s, s ≤ n → mayF B ov w h v k n p s = mayF B' ov w' h v' k n p s := by
  intro s
  induction s with
  | zero => intro _; rfl
  | succ s ih =>
    intro hs
    unfold mayF
    rw [ih (by omega), e s (by omega), hoB_congr (v := upd v s (nI p)) (v' := upd v' s (nI p)) h1 hB hw (pvs_upd hv (pv_nI hp)) (fun j hj => ?_)]
    by_cases c : j = s
    · subst c; rw [upd_eq, upd_eq]
    · rw [upd_ne c, upd_ne c]; exact e j hj
theorem seatsFor_X {r i k n p : Nat} {σ : Mm} {K : Int32 → Mm → Prop} (hr : r < 3) (hi : i < 17) (hp : p < 8) (hk : k < 7) (ek : σ 0 i 0 = nI k) (en : σ 0 i 1 = nI n) (h1 : 1 ≤ n) (h8 : n ≤ 8) (hv : pvs (σ 1 i) n) (hpp : PP (σ 3 r) (σ 2 r 2) (σ 4 r) (σ 2 r 3)) (h : K (mayF (σ 3 r) (σ 2 r 2) (σ 4 r) (σ 2 r 3) (σ 1 i) k n p n) σ) : f_X1_seatsFor r (nI p) i σ K := by
  have main : ∀ (d s : Nat), s + d = n → f_X1_seatsFor_5 r (nI p) i K (d + 1) (mayF (σ 3 r) (σ 2 r 2) (σ 4 r) (σ 2 r 3) (σ 1 i) k n p s) (nI s) σ := by
    intro d
    induction d with
    | zero =>
      intro s hs
      have : s = n := by omega
      subst this
      rw [f_X1_seatsFor_5, en, if_pos (nI_le (by omega) (by omega))]
      exact h
    | succ d ih =>
      intro s hs
      rw [f_X1_seatsFor_5, en, if_neg (nI_ge (by omega) (by omega)), nI_clamp (by omega), nI_1]
      have t : vp_in (nI s) 8 := vp_in_nI (by omega) (by omega)
      refine ⟨t, ?_⟩
      have nx := ih (s + 1) (by omega)
      by_cases c : σ 1 i s = -1
      · rw [if_pos c]
        refine ⟨t, _, rfl, ?_⟩
        refine holds_X (k := k) (n := n) hr hi hk ?_ ?_ h1 h8 ?_ ?_ ?_
        · rw [mset_ne (by omega)]; exact ek
        · rw [mset_ne (by omega)]; exact en
        · rw [mset_eq]; exact pvs_upd hv (pv_nI hp)
        · rw [mset_ne (by omega), mset_ne (by omega), mset_ne (by omega)]; exact hpp
        · rw [mset_ne (by omega), mset_ne (by omega), mset_ne (by omega), mset_eq]
          unfold mayF at nx
          cases eh : hoB (σ 3 r) (σ 2 r 2) (σ 4 r) (σ 2 r 3) (upd (σ 1 i) s (nI p)) k n with
          | true =>
            rw [eh, if_pos ⟨c, rfl⟩] at nx
            refine itt ⟨t, _, rfl, ?_⟩
            rw [mset_back c]; exact nx
          | false =>
            rw [eh, if_neg (fun g => Bool.noConfusion g.2)] at nx
            refine itf ⟨t, _, rfl, ?_⟩
            rw [mset_back c]; exact nx
      · rw [if_neg c]
        unfold mayF at nx
        rw [if_neg (fun g => c g.1)] at nx
        exact nx
  exact ⟨hr, hi, n + 1, main n 0 (by omega)⟩
/-- only what the reference keeps of a bench that it looks at -/
def SY (μ μ' : Mm) : Prop := (∀ t i, ¬ ((t = 0 ∨ t = 5) ∧ i = 0) → μ' t i = μ t i) ∧ ∀ j, j ≠ 6 → j ≠ 7 → μ' 0 0 j = μ 0 0 j
theorem SY.rf {μ : Mm} : SY μ μ := ⟨fun _ _ _ => rfl, fun _ _ _ => rfl⟩
theorem SY.tr {a b c : Mm} (h : SY a b) (k : SY b c) : SY a c := ⟨fun t i x => (k.1 t i x).trans (h.1 t i x), fun j x y => (k.2 j x y).trans (h.2 j x y)⟩
theorem SY.scr {μ μ' : Mm} (h : SY μ μ') : ScrY μ μ' := ⟨fun t ht => h.1 t 0 (by omega), h.2 3 (by omega) (by omega), h.2 12 (by omega) (by omega)⟩
theorem SY.m {μ μ' : Mm} (h : SY μ μ') : μ' 1 0 = μ 1 0 := h.1 1 0 (by omega)
theorem Look.sy {μ μ' : Mm} {b k n : Nat} (h : Look μ b k n μ') : SY μ μ' := ⟨h.2.2.2.1, h.2.2.2.2⟩
theorem SY.set {μ μ' : Mm} {s : Nat} {x : Int32} (h : SY μ μ') : SY (mset μ 1 0 s x) (mset μ' 1 0 s x) := by
  refine ⟨fun t i c => ?_, fun j c d => ?_⟩
  · by_cases e : t = 1 ∧ i = 0
    · obtain ⟨rfl, rfl⟩ := e; rw [mset_eq, mset_eq, h.m]
    · rw [mset_ne e, mset_ne e]; exact h.1 t i c
  · rw [mset_ne (by omega), mset_ne (by omega)]; exact h.2 j c d
def mayS (σ : Mm) (b k n p : Nat) : Int32 := mayF (σ 3 0) (σ 2 0 2) (σ 4 0) (σ 2 0 3) (wo (σ 1 (5 * 0 + b)) p) k n p n
theorem i32_0or (x : Int32) : x ||| (0 : Int32) = x := by
  apply b_ext
  intro i hi
  rw [b_or, b_0, Bool.or_false]
/-- the reference's loop, where the one sits nowhere -/
theorem mayL_Y {σ μ : Mm} {nb b k n p : Nat} {a4 : Int32} {K k94 : Int32 → Mm → Prop} (hr : RI σ 0 (μ 1 0) nb) (hn : Nowh (μ 1 0) nb p) (hp : p < 8) (hb : b < nb) (hk : k < 7) (ek : μ 1 0 (76 + 10 * b) = nI k) (en : μ 1 0 (77 + 10 * b) = nI n) (h1 : 1 ≤ n) (h8 : n ≤ 8) (h : ∀ μ', SY μ μ' → k94 (mayF (σ 3 0) (σ 2 0 2) (σ 4 0) (σ 2 0 3) (σ 1 (5 * 0 + b)) k n p n) μ') : ∃ m, f_X7_mayOn_18 (nI p) (nI b) a4 K k94 m (0 : Int32) (0 : Int32) μ := by
  have h5 := hr.2.nb
  have main : ∀ (d s : Nat) (μ' : Mm), s + d = n → SY μ μ' → f_X7_mayOn_18 (nI p) (nI b) a4 K k94 (d + 1) (mayF (σ 3 0) (σ 2 0 2) (σ 4 0) (σ 2 0 3) (σ 1 (5 * 0 + b)) k n p s) (nI s) μ' := by
    intro d
    induction d with
    | zero =>
      intro s μ' hs hy
      have : s = n := by omega
      subst this
      rw [f_X7_mayOn_18]
      refine seatsOf_Y (by omega) ?_
      rw [hy.m, en, if_pos (nI_le (by omega) (by omega))]
      exact h μ' hy
    | succ d ih =>
      intro s μ' hs hy
      rw [f_X7_mayOn_18]
      refine seatsOf_Y (by omega) ?_
      rw [hy.m, en, if_neg (nI_ge (by omega) (by omega)), at_Y (by omega) (by omega), nI_clamp (by omega), hy.m, nI_1]
      have t : vp_in (nI (78 + 10 * b + s)) 136 := vp_in_nI (by omega) (by omega)
      refine ⟨t, ?_⟩
      have rs := (hr.1.2.2.2.1 b hb).2.2 s (by omega)
      have pz : pv (μ 1 0 (78 + 10 * b + s)) := (hr.2.2.2.2.1 b hb).2.2 s (by omega)
      by_cases c : μ 1 0 (78 + 10 * b + s) = -1
      · rw [if_pos ((pv_neg pz).1.mpr c), at_Y (by omega) (by omega), nI_clamp (by omega)]
        refine ⟨t, _, rfl, ?_⟩
        have hI2 : RI (mset σ 1 (5 * 0 + b) s (nI p)) 0 (mset μ' 1 0 (78 + 10 * b + s) (nI p) 1 0) nb := by
          rw [mset_eq, hy.m]
          exact hr.seat hb en h8 (by omega) (pv_nI hp) (Or.inr (fun b' s' g1 g2 g3 => absurd g3 (hn b' s' g1 g2)))
        refine holds_Y hI2 hb hk ?_ ?_ h1 h8 (fun μ3 hl => ?_)
        · rw [mset_eq, upd_ne (by omega), hy.m]; exact ek
        · rw [mset_eq, upd_ne (by omega), hy.m]; exact en
        · rw [mset_ne (by omega), mset_ne (by omega), mset_ne (by omega), mset_eq]
          have hy4 : SY μ (mset μ3 1 0 (78 + 10 * b + s) (-1)) := by
            have := (hl.sy).set (s := 78 + 10 * b + s) (x := -1)
            rw [mset_back (by rw [hy.m]; exact c)] at this
            exact hy.tr this
          have nx := ih (s + 1) _ (by omega) hy4
          unfold mayF at nx
          have e74 : ∀ {x : Int32} {kk : Int32 → Int32 → Mm → Prop} {y : Int32}, kk (y ||| x) (nI (s + 1)) (mset μ3 1 0 (78 + 10 * b + s) (-1)) → f_X7_mayOn_74 (nI p) (nI b) a4 (nI s) x y K kk μ3 := by
            intro x kk y g
            unfold f_X7_mayOn_74
            rw [at_Y (by omega) (by omega), nI_clamp (by omega), nI_1]
            exact ⟨t, _, rfl, g⟩
          cases eh : hoB (σ 3 0) (σ 2 0 2) (σ 4 0) (σ 2 0 3) (upd (σ 1 (5 * 0 + b)) s (nI p)) k n with
          | true =>
            rw [eh, if_pos ⟨by rw [← rs]; exact c, rfl⟩] at nx
            exact itt (e74 nx)
          | false =>
            rw [eh, if_neg (fun g => Bool.noConfusion g.2)] at nx
            refine itf (e74 ?_)
            rw [i32_0or]; exact nx
      · rw [if_neg (fun g => c ((pv_neg pz).1.mp g))]
        have nx := ih (s + 1) μ' (by omega) hy
        unfold mayF at nx
        rw [if_neg (fun g => c (rs.trans g.1))] at nx
        exact nx
  exact ⟨n + 1, main n 0 μ (by omega) SY.rf⟩
theorem wo_no {σ : Mm} {m : Nat → Int32} {nb b p n : Nat} (hr : RI σ 0 m nb) (hn : Nowh m nb p) (hb : b < nb) (h8 : n ≤ 8) : ∀ j, j < n → wo (σ 1 (5 * 0 + b)) p j = σ 1 (5 * 0 + b) j := by
  intro j hj
  unfold wo
  rw [if_neg]
  rw [← (hr.1.2.2.2.1 b hb).2.2 j (by omega)]
  exact hn b j hb (by omega)
theorem mayOn_Y {σ μ : Mm} {nb b k n p : Nat} {K : Int32 → Mm → Prop} (hr : RI σ 0 (μ 1 0) nb) (hp : p < 8) (hb : b < nb) (hk : k < 7) (ek : μ 1 0 (76 + 10 * b) = nI k) (en : μ 1 0 (77 + 10 * b) = nI n) (h1 : 1 ≤ n) (h8 : n ≤ 8) (h : ∀ μ', SY μ μ' → K (mayS σ b k n p) μ') : f_X7_mayOn (nI p) (nI b) μ K := by
  have h5 := hr.2.nb
  rcases at_or (μ 1 0) nb p with ⟨c, s, ha⟩ | hn
  · have hc := ha.1
    have hs := ha.2.1
    have up := hr.up hp ha
    refine where_at hr.2 hp ha (rises_at hr.2 hp ha ?_)
    refine mayL_Y (σ := mset σ 1 (5 * 0 + c) s (-1)) (nb := nb) (by rw [mset_eq]; exact up.1) (by rw [mset_eq]; exact up.2) hp hb hk (by rw [mset_eq, upd_ne (by omega)]; exact ek) (by rw [mset_eq, upd_ne (by omega)]; exact en) h1 h8 (fun μ' hy => ?_)
    rw [if_neg (nI_pos (by omega)), (div10 (by omega) hs).2, (div10 (by omega) hs).1, at_Y (by omega) hs, nI_clamp (by omega)]
    refine ⟨vp_in_nI (by omega) (by omega), _, rfl, ?_⟩
    have hy2 : SY μ (mset μ' 1 0 (78 + 10 * c + s) (nI p)) := by
      have := hy.set (s := 78 + 10 * c + s) (x := nI p)
      rw [mset_back ha.2.2] at this
      exact this
    have e : mayF (mset σ 1 (5 * 0 + c) s (-1) 3 0) (mset σ 1 (5 * 0 + c) s (-1) 2 0 2) (mset σ 1 (5 * 0 + c) s (-1) 4 0) (mset σ 1 (5 * 0 + c) s (-1) 2 0 3) (mset σ 1 (5 * 0 + c) s (-1) 1 (5 * 0 + b)) k n p n = mayS σ b k n p := by
      unfold mayS
      rw [mset_ne (t' := 3) (by omega), mset_ne (t' := 2) (by omega), mset_ne (t' := 4) (by omega)]
      refine mayF_congr h1 (fun _ _ => rfl) (fun _ _ => rfl) hp ?_ ?_ n (Nat.le_refl n)
      · exact (up.1).pvs hb h8
      · intro j hj
        obtain ⟨n', -, -, -, -, sn, e1, e2⟩ := hr.atn hp ha
        rw [mset_ap]
        unfold wo
        by_cases g : b = c ∧ j = s
        · obtain ⟨rfl, rfl⟩ := g
          rw [if_pos ⟨rfl, rfl, rfl⟩, if_pos e1]
        · rw [if_neg (by omega), if_neg]
          by_cases g2 : b = c
          · subst g2; exact e2 j (by omega) (by omega)
          · exact hr.other hp ha hb g2 (by omega)
    rw [e]
    exact h _ hy2
  · refine where_no hr.2 hn (rises_no hr.2 hn ?_)
    refine mayL_Y hr hn hp hb hk ek en h1 h8 (fun μ' hy => ?_)
    rw [if_pos (by decide)]
    have e : mayF (σ 3 0) (σ 2 0 2) (σ 4 0) (σ 2 0 3) (σ 1 (5 * 0 + b)) k n p n = mayS σ b k n p :=
      mayF_congr h1 (fun _ _ => rfl) (fun _ _ => rfl) hp (hr.pvs hb h8) (fun j hj => (wo_no hr hn hb h8 j hj).symm) n (Nat.le_refl n)
    rw [e]
    exact h _ hy
/-- the class's: on the trial bench -/
theorem ask_X {σ : Mm} {m : Nat → Int32} {nb b k n p : Nat} {K : Int32 → Mm → Prop} (hr : RI σ 0 m nb) (hp : p < 8) (hb : b < nb) (hk : k < 7) (fk : σ 0 (5 * 0 + b) 0 = nI k) (fn : σ 0 (5 * 0 + b) 1 = nI n) (h1 : 1 ≤ n) (h8 : n ≤ 8) (h : ∀ σ', (∀ t x, ¬ ((t = 0 ∨ t = 1) ∧ x = 15) → σ' t x = σ t x) → σ' 0 15 0 = nI k → σ' 0 15 1 = nI n → (∀ s, s < 8 → σ' 1 15 s = wo (σ 1 (5 * 0 + b)) p s) → K (mayS σ b k n p) σ') : f_X6_seatsToAskFor (nI p) (nI b) σ K := by
  have h5 := hr.2.nb
  unfold f_X6_seatsToAskFor
  rw [nI_clamp (by omega)]
  refine ⟨vp_in_nI (by omega) (by omega), by omega, become_X (by omega) (by omega) (by omega) ?_⟩
  have b0 := bcp_0 (σ := σ) (i := 15) (j := 5 * 0 + b)
  have fin : ∀ σ4 : Mm, (∀ t x, ¬ ((t = 0 ∨ t = 1) ∧ x = 15) → σ4 t x = σ t x) → σ4 0 15 0 = nI k → σ4 0 15 1 = nI n → (∀ s, s < 8 → σ4 1 15 s = wo (σ 1 (5 * 0 + b)) p s) → f_X1_seatsFor 0 (nI p) 15 σ4 (fun r6 σ5 => (K r6 σ5)) := by
    intro σ4 g1 g2 g3 g4
    have hv : pvs (σ4 1 15) n := by
      intro j hj
      rw [g4 j (by omega)]
      unfold wo
      split
      · exact Or.inl rfl
      · exact hr.pvs hb h8 j hj
    refine seatsFor_X (by omega) (by omega) hp hk g2 g3 h1 h8 hv ?_ ?_
    · rw [g1 3 0 (by omega), g1 2 0 (by omega), g1 4 0 (by omega)]; exact hr.pp
    · have e : mayF (σ4 3 0) (σ4 2 0 2) (σ4 4 0) (σ4 2 0 3) (σ4 1 15) k n p n = mayS σ b k n p := by
        rw [g1 3 0 (by omega), g1 2 0 (by omega), g1 4 0 (by omega)]
        exact mayF_congr h1 (fun _ _ => rfl) (fun _ _ => rfl) hp hv (fun j hj => g4 j (by omega)) n (Nat.le_refl n)
      rw [e]
      exact h σ4 g1 g2 g3 g4
  by_cases c : ∃ s, s < n ∧ σ 1 (5 * 0 + b) s = nI p
  · obtain ⟨s, sn, es⟩ := c
    have ha : At m nb p b s := ⟨hb, by omega, by rw [(hr.1.2.2.2.1 b hb).2.2 s (by omega)]; exact es⟩
    obtain ⟨n', -, -, -, -, -, e1, e2⟩ := hr.atn hp ha
    refine empty_at (n := n) (s := s) (by omega) (b0.2.trans fn) h8 sn (by rw [bcp_1 (by omega)]; exact es) (fun q hq => by rw [bcp_1 (by omega)]; exact e2 q (by omega) (by omega)) (fin _ ?_ ?_ ?_ ?_)
    · intro t x g
      rw [mset_ne (by omega), bcp_ne g]
    · rw [mset_ne (by omega)]; exact b0.1.trans fk
    · rw [mset_ne (by omega)]; exact b0.2.trans fn
    · intro q hq
      rw [mset_ap]
      unfold wo
      by_cases g : q = s
      · subst g; rw [if_pos ⟨rfl, rfl, rfl⟩, if_pos es]
      · rw [if_neg (by omega), bcp_1 hq, if_neg (e2 q hq g)]
  · have hne : ∀ q, q < n → ¬ σ 1 (5 * 0 + b) q = nI p := fun q hq e => c ⟨q, hq, e⟩
    refine empty_no (n := n) (by omega) (b0.2.trans fn) h8 (fun q hq => by rw [bcp_1 (by omega)]; exact hne q hq) (fin _ (fun t x g => bcp_ne g) (b0.1.trans fk) (b0.2.trans fn) ?_)
    intro q hq
    rw [bcp_1 hq]
    unfold wo
    rw [if_neg]
    by_cases g : q < n
    · exact hne q g
    · obtain ⟨k', n', -, n1', n8', -, en', -, fn', z, zz⟩ := hr.ks hb
      have : n = n' := (nI_eq (by omega) (by omega)).mp (fn.symm.trans fn')
      subst this
      rw [← (z q hq).1, zz q (by omega) hq]
      exact fun e => nI_ne_m1 (by omega) e.symm
theorem scr15 {σ σ' : Mm} (h : ∀ t x, ¬ ((t = 0 ∨ t = 1) ∧ x = 15) → σ' t x = σ t x) : Scr σ σ' := ⟨fun t i _ _ => h t i (by omega), fun t i _ _ => h t i (by omega), fun t i _ => h t i (by omega), by rw [h 8 0 (by omega)], by rw [h 9 0 (by omega)]⟩
theorem E_may (a x : Int32) {σ μ : Mm} (h : Rel σ μ) : f_X6_may a x σ (fun r σ' => f_X7_may a x μ (fun r' μ' => r' = r ∧ Rel σ' μ')) := by
  obtain ⟨nb, h5, hx, hy, hr⟩ := h.nbx
  unfold f_X6_may
  rw [isPerson_X]
  cases e : inZ a 0 7 with
  | false =>
    rw [if_neg (by decide)]
    refine E_find0' h (fun r σ' hh => ?_)
    show f_X7_may a x μ _
    unfold f_X7_may
    rw [isPerson_Y, e, if_neg (by decide)]
    exact hh
  | true =>
    rw [if_pos rfl]
    obtain ⟨p, -, hp, rfl⟩ := inZ_ex (lo := 0) (hi := 7) e (by omega)
    rw [isBench_X hx h5]
    cases e2 : benchB x nb with
    | false =>
      rw [if_neg (by decide)]
      refine E_find0' h (fun r σ' hh => ?_)
      show f_X7_may (nI p) x μ _
      unfold f_X7_may
      rw [isPerson_Y, e, if_pos rfl, isBench_Y hy h5, e2, if_neg (by decide)]
      exact hh
    | true =>
      rw [if_pos rfl]
      obtain ⟨b, hb, rfl⟩ := benchB_ex e2 (by omega)
      obtain ⟨k, n, hk, n1, n8, ek, en, fk, fn, z, zz⟩ := hr.ks hb
      refine ask_X hr (by omega) hb hk fk fn n1 n8 (fun σ' g1 _ _ _ => ?_)
      show f_X7_may (nI p) (nI b) μ _
      unfold f_X7_may
      rw [isPerson_Y, e, if_pos rfl, isBench_Y hy h5, e2, if_pos rfl]
      exact mayOn_Y hr (by omega) hb hk ek en n1 n8 (fun μ' hy' => ⟨rfl, h.scr (scr15 g1) hy'.scr⟩)
