/-! PURE: a bench of a text; an item of a text -/
theorem Clr.tb {σ σ' : Mm} {b : Nat} {x y : Int32} (hb : b < 5) (h : Clr σ (5 * 2 + b) x y σ') {v : Int32} : TB σ (mset σ' 5 2 2 v) := fun t i a c => by
  unfold inR at a
  rw [mset_ne (by omega), h.2.2.2 t i (by omega)]
theorem bench_both {L nb k : Nat} {q : Nat × Nat × Nat × Nat} {σ μ : Mm} (hS : SS L q σ μ) (hr : RI σ 2 (μ 1 0) nb) (hk : k < 7) : ∃ σ' μ', RZ L q.2.2.1 σ μ σ' μ' (fun K => f_X5_takeBench (nI k) σ K) (fun K => f_X7_benchItem (nI k) μ K) := by
  have h5 := hr.2.nb
  have ex : σ 5 2 2 = nI nb := by rw [← hr.1.1.2.2.2]; exact hr.2.1.2.1
  have ey : μ 1 0 3 = nI nb := hr.2.1.2.1
  have b17 := hS.2.2.2.2.1
  by_cases c5 : nb = 5
  · refine RZ.no (μ' := mset μ 0 0 17 1) hS TB.rf TZ.rf TZ.bad (set17o (by omega)) set17 (fun K hk => ?_) (fun K hk => ?_)
    · unfold f_X5_takeBench
      rw [ex, if_neg (show ¬ nI nb < (5 : Int32) from nI_nlt (b := 5) (by omega) (by omega))]
      exact hk
    · unfold f_X7_benchItem
      rw [if_pos b17, if_neg (nI_pos (by omega)), ey, if_pos (by rw [c5]; rfl)]
      refine ⟨⟨true, rfl⟩, _, rfl, ?_⟩
      rw [set17, if_neg (by decide)]
      exact hk
  · have lt5 : nb < 5 := by omega
    obtain ⟨q1, σ1, μ1, S1, l1, o1, y1, k1, j1⟩ := next2 hS
    have X1 : ∀ K : Bool → Mm → Prop, (if wdB (μ1 9 0) q1 11 = true then (f_X5_step σ1 (fun σ4 => (f_X5_isNumber (1 : Int32) (8 : Int32) σ4 (fun b6 σ5 => (if b6 = true then (f_X2_addBench 2 (nI k) (σ5 11 0 6) σ5 (fun r8 σ7 => (f_X5_step σ7 (fun σ9 => (f_X5_isWord 12 σ9 (fun b11 σ10 => (if b11 = true then (f_X5_takeSitters r8 σ10 (fun b13 σ12 => (if b13 = true then (K true σ12) else (K false σ12)))) else (K true σ10)))))))) else (K false σ5)))))) else (K false σ1)) → f_X5_takeBench (nI k) σ K := by
      intro K h
      unfold f_X5_takeBench
      rw [ex, if_pos (show nI nb < (5 : Int32) from nI_lt (b := 5) lt5 (by omega))]
      exact k1 _ (S1.wX (by omega) h)
    have Y1 : ∀ K : Mm → Prop, (if wdB (μ1 9 0) q1 11 = true then f_X7_token μ1 (fun σ4 => f_X7_benchItem_58 (nI k) (0 : Int32) K σ4) else f_X7_benchItem_58 (nI k) (1 : Int32) K μ1) → f_X7_benchItem (nI k) μ K := by
      intro K h
      unfold f_X7_benchItem
      rw [if_pos b17, if_neg (nI_pos (by omega)), ey, if_neg (fun e => c5 ((lit_eq nb 5 (by omega) (by omega)).mp e))]
      refine ⟨⟨false, rfl⟩, _, rfl, ?_⟩
      rw [mset_same b17, if_pos b17]
      refine j1 _ (S1.tk (by omega) ?_)
      by_cases c : wdB (μ1 9 0) q1 11 = true
      · rw [if_pos c] at h ⊢; exact h
      · rw [if_neg c] at h ⊢; exact h
    cases w1 : wdB (μ1 9 0) q1 11 with
    | false =>
      refine RZ.no (μ' := mset (mset μ1 0 0 17 1) 0 0 17 1) S1 o1.tb y1.tz (TZ.bad.tr TZ.bad) (by rw [set17o (by omega), set17o (by omega)]) set17 (fun K hk => X1 K ?_) (fun K hk => Y1 K ?_)
      · rw [w1]; exact itf hk
      · rw [w1]
        refine itf ⟨⟨true, rfl⟩, _, rfl, num_was set17 ?_⟩
        rw [set17, if_neg (by decide)]
        exact hk
    | true =>
      rw [w1] at X1 Y1
      obtain ⟨q2, σ2, μ2, S2, l2, o2, y2, k2, j2⟩ := next2 S1
      have q12 : q1.2.1 ≤ q1.2.2.1 := S1.2.2.2.1.2.1
      have q22 : q2.2.1 ≤ q2.2.2.1 := S2.2.2.2.1.2.1
      have B2 : TB σ σ2 := o1.tb.tr o2.tb
      have Z2 : TZ μ μ2 := y1.tz.tr y2.tz
      have Y2 : ∀ K : Mm → Prop, f_X7_number (1 : Int32) (8 : Int32) (1 : Int32) μ2 (fun r9 σ8 => (if (σ8 0 0 17) = 0 then (f_X7_comes (nI k) r9 σ8 (fun σ10 => (f_X7_takes 12 σ10 (fun b12 σ11 => (if b12 = true then (f_X7_sits ((σ11 1 0 3) - (1 : Int32)) σ11 (fun σ13 => (K σ13))) else (K σ11)))))) else (K σ8))) → f_X7_benchItem (nI k) μ K := by
        intro K h
        refine Y1 K (itt (j2 _ ⟨⟨false, rfl⟩, _, rfl, ?_⟩))
        rw [mset_same S2.2.2.2.2.1]
        exact h
      cases n2 : nuB q2 1 8 with
      | false =>
        refine RZ.no (μ' := mset μ2 0 0 17 1) S2 B2 Z2 TZ.bad (set17o (by omega)) set17 (fun K hk => X1 K (itt (k2 _ (S2.nX (lo := 1) (hi := 8) (by omega) (by omega) ?_)))) (fun K hk => Y2 K (S2.bad (lo := 1) (hi := 8) (by omega) (by omega) (Or.inr n2) ?_))
        · rw [n2]; exact itf hk
        · rw [set17, if_neg (by decide)]; exact hk
      | true =>
        obtain ⟨-, w2, v2, vx2, vy2⟩ := S2.val (by omega) n2
        have r2 : RI σ2 2 (μ2 1 0) nb := by
          rw [y2.1 1 0 (by omega), y1.1 1 0 (by omega)]
          exact (hr.oc (by omega) o1).oc (by omega) o2
        have ex2 : σ2 5 2 2 = nI nb := by rw [← r2.1.1.2.2.2]; exact r2.2.1.2.1
        obtain ⟨σc, hc, hcK⟩ := clear_ex (i := 5 * 2 + nb) (a := nI k) (b := nI q2.2.2.2) (σ := σ2) (by omega)
        obtain ⟨σt, et⟩ : ∃ σt, σt = mset σc 5 2 2 (nI (nb + 1)) := ⟨_, rfl⟩
        have St : SS L q2 σt μ2 := S2.cls (by rw [et, mset_ne (by omega), hc.2.2.2 11 0 (by omega)]) (by rw [et, mset_ne (by omega), hc.2.2.2 10 0 (by omega)])
        obtain ⟨q3, σ3, μ3, S3, l3, o3, y3, k3, j3⟩ := next2 St
        have m3 : μ3 1 0 = μ2 1 0 := y3.1 1 0 (by omega)
        obtain ⟨μ4, c1, c2, c3, c4, c5', c6, c7⟩ := comes_ex (a := nI k) (b := nI q2.2.2.2) (μ := μ3) (nb := nb) (by rw [m3]; exact r2.2.1.2.1) lt5
        have S4 : SS L q3 σ3 μ4 := S3.ref (c6 0 0 (by omega)) (c6 9 0 (by omega))
        have r4 : RI σ3 2 (μ4 1 0) (nb + 1) := by
          have := RI.add (σ := σ2) (μ := μ3) (μ' := μ4) (by omega) (by rw [m3]; exact r2) lt5 hk w2 v2 hc c1 c2 c3 c4 c5'
          rw [← et] at this
          exact this.oc (by omega) o3
        have B3 : TB σ σ3 := (B2.tr (by rw [et]; exact hc.tb lt5)).tr o3.tb
        have Z4 : TZ μ μ4 := (Z2.tr y3.tz).tr ⟨fun t i _ b => c6 t i b, fun j _ => by rw [c6 0 0 (by omega)]⟩
        have X3 : ∀ K : Bool → Mm → Prop, (if wdB (μ4 9 0) q3 12 = true then (f_X5_takeSitters (nI nb) σ3 (fun b13 σ12 => (if b13 = true then (K true σ12) else (K false σ12)))) else (K true σ3)) → f_X5_takeBench (nI k) σ K := by
          intro K h
          refine X1 K (itt (k2 _ (S2.nX (lo := 1) (hi := 8) (by omega) (by omega) ?_)))
          rw [n2]
          refine itt ?_
          rw [vx2]
          unfold f_X2_addBench
          rw [ex2, nI_clamp (by omega)]
          refine ⟨by omega, vp_in_nI lt5 (by omega), by omega, hcK _ ⟨_, rfl, ?_⟩⟩
          rw [hc.2.2.2 5 2 (by omega), ex2, nI_1, ← et]
          exact k3 _ (S4.wX (by omega) h)
        have Y3 : ∀ K : Mm → Prop, (if wdB (μ4 9 0) q3 12 = true then f_X7_token μ4 (fun σ11 => f_X7_sits ((σ11 1 0 3) - (1 : Int32)) σ11 (fun σ13 => (K σ13))) else K μ4) → f_X7_benchItem (nI k) μ K := by
          intro K h
          refine Y2 K (S2.ok (lo := 1) (hi := 8) (by omega) (by omega) (by decide) n2 (j3 _ ?_))
          rw [if_pos S3.2.2.2.2.1]
          refine c7 _ (S4.tk (by omega) ?_)
          by_cases c : wdB (μ4 9 0) q3 12 = true
          · rw [if_pos c] at h ⊢; exact h
          · rw [if_neg c] at h ⊢; exact h
        cases w3 : wdB (μ4 9 0) q3 12 with
        | false =>
          refine ⟨σ3, μ4, B3, Z4, fun K hk => Y3 K ?_, Or.inl ⟨q3, nb + 1, S4, r4, by omega, fun K hk => X3 K ?_⟩⟩
          · rw [w3]; exact itf hk
          · rw [w3]; exact itf hk
        | true =>
          rw [w3] at X3 Y3
          have q32 : q3.2.1 ≤ q3.2.2.1 := S3.2.2.2.1.2.1
          obtain ⟨q5, σ5, μ5, S5, l5, o5, y5, k5, j5⟩ := next2 S4
          have m5 : μ5 1 0 = μ4 1 0 := y5.1 1 0 (by omega)
          have r5 : RI σ5 2 (μ5 1 0) (nb + 1) := by rw [m5]; exact r4.oc (by omega) o5
          have e5 : (μ5 1 0 3) - (1 : Int32) = nI nb := by
            rw [m5, c2]
            exact pk_sub (a := nb + 1) (b := 1) (by omega)
          have en5 : μ5 1 0 (77 + 10 * nb) = nI q2.2.2.2 := by rw [m5]; exact c4
          by_cases t2 : q5.1 = 2
          · obtain ⟨σ', μ', Z⟩ := sits_both (L := L) (b := nb) (n := q2.2.2.2) (N := nb + 1) lt5 (by omega) w2 v2 q2.2.2.2 0 σ5 μ5 q5 (by omega) S5 r5 en5 (fun j _ hj => by rw [m5]; exact c5' j hj) t2
            refine ⟨σ', μ', Z.lift (B3.tr o5.tb) (Z4.tr y5.tz) (by omega) (fun K h => X3 K (itt (k5 _ ?_))) (fun K h => Y3 K (itt (j5 _ ?_)))⟩
            · rw [if_pos (S5.s2.2.mpr t2)]
              obtain ⟨m, hm⟩ := h
              refine ⟨m, ?_⟩
              have eK : (fun (b13 : Bool) (σ12 : Mm) => (if b13 = true then (K true σ12) else (K false σ12))) = K := by
                funext b13 σ12
                cases b13 with
                | true => rw [if_pos rfl]
                | false => rw [if_neg (by decide)]
              rw [eK]
              exact hm
            · rw [e5]
              exact h
          · have v5 : q5.2.2.2 = 0 := S5.2.2.2.1.2.2.2.2.2.2.2.2.2 t2
            have nu5 : nuB q5 0 8 = false := decide_eq_false (fun g => t2 g.1)
            refine RZ.no (μ' := mset μ5 0 0 17 1) S5 (B3.tr o5.tb) (Z4.tr y5.tz) TZ.bad (set17o (by omega)) set17 (fun K hk => X3 K (itt (k5 _ ?_))) (fun K hk => Y3 K (itt (j5 _ ?_)))
            · rw [if_neg (fun e => t2 (S5.s2.2.mp e))]
              exact itf hk
            · rw [e5]
              refine ⟨2, ?_⟩
              have e16 : μ5 0 0 16 = nI 0 := by rw [S5.2.1.2.2.2.2, v5]
              rw [f_X7_sits_4, if_neg (by decide)]
              refine seatsOf_Y lt5 ?_
              rw [en5, if_neg (show ¬ nI q2.2.2.2 ≤ (0 : Int32) from nI_ge (a := 0) (by omega) (by omega)), e16, if_neg (by decide), isPerson_Y, show inZ (nI 0) 0 7 = true from by decide]
              refine itt ?_
              rw [e16]
              rcases at_or (μ5 1 0) (nb + 1) 0 with ⟨b', s', ha⟩ | hn
              · have hb' := ha.1
                have hs' := ha.2.1
                refine where_at r5.2 (by omega) ha ?_
                rw [if_pos (nI_pos' (by omega))]
                exact sits_bad (s := 0) S5 (Or.inr nu5) hk
              · refine where_no r5.2 hn ?_
                rw [if_neg (by decide)]
                exact sits_bad (s := 0) S5 (Or.inr nu5) hk
/-- which kind's word it is -/
def kf (T : Nat → Int32) (q : Nat × Nat × Nat × Nat) : Nat → Nat → Option Nat
  | 0, _ => none
  | d + 1, j => if wdB T q (4 + j) = true then some j else kf T q d (j + 1)
def kfv : Option Nat → Int32
  | none => -1
  | some k => nI k
theorem kf_lt {T : Nat → Int32} {q : Nat × Nat × Nat × Nat} : ∀ d j k, kf T q d j = some k → k < j + d ∧ wdB T q (4 + k) = true := by
  intro d
  induction d with
  | zero => intro j k h; exact nomatch h
  | succ d ih =>
    intro j k h
    unfold kf at h
    by_cases c : wdB T q (4 + j) = true
    · rw [if_pos c] at h; cases h; exact ⟨by omega, c⟩
    · rw [if_neg c] at h
      have := ih (j + 1) k h
      exact ⟨by omega, this.2⟩
theorem wordOf_X {j : Nat} {σ : Mm} {K : Nat → Mm → Prop} (hj : j < 7) (h : K (4 + j) σ) : f_X5_wordOf (nI j) σ K := by
  unfold f_X5_wordOf
  have ne : ∀ i, i < 7 → j ≠ i → ¬ nI j = nI i := fun i hi c e => c ((nI_eq (by omega) (by omega)).mp e)
  rcases (show j = 0 ∨ j = 1 ∨ j = 2 ∨ j = 3 ∨ j = 4 ∨ j = 5 ∨ j = 6 by omega) with c | c | c | c | c | c | c <;> subst c
  · rw [if_pos (by decide)]; exact h
  · rw [if_neg (by decide), if_pos (by decide)]; exact h
  · rw [if_neg (by decide), if_neg (by decide), if_pos (by decide)]; exact h
  · rw [if_neg (by decide), if_neg (by decide), if_neg (by decide), if_pos (by decide)]; exact h
  · rw [if_neg (by decide), if_neg (by decide), if_neg (by decide), if_neg (by decide), if_pos (by decide)]; exact h
  · rw [if_neg (by decide), if_neg (by decide), if_neg (by decide), if_neg (by decide), if_neg (by decide), if_pos (by decide)]; exact h
  · rw [if_neg (by decide), if_neg (by decide), if_neg (by decide), if_neg (by decide), if_neg (by decide), if_neg (by decide)]; exact h
def kfX (σ : Mm) (K : Bool → Mm → Prop) : Option Nat → Prop
  | none => K false σ
  | some k => f_X5_takeBench (nI k) σ K
theorem kinds_X {L : Nat} {q : Nat × Nat × Nat × Nat} {σ μ : Mm} {K : Bool → Mm → Prop} (hS : SS L q σ μ) : ∀ d j, j + d = 7 → kfX σ K (kf (μ 9 0) q d j) → f_X5_takeItem_60 K (d + 1) (nI j) σ := by
  intro d
  induction d with
  | zero =>
    intro j hj h
    have : j = 7 := by omega
    subst this
    rw [f_X5_takeItem_60, if_pos (by decide)]
    exact h
  | succ d ih =>
    intro j hj h
    rw [f_X5_takeItem_60, if_neg (show ¬ (7 : Int32) ≤ nI j from nI_ge (a := j) (b := 7) (by omega) (by omega))]
    refine wordOf_X (by omega) (hS.wX (by omega) ?_)
    unfold kf at h
    by_cases c : wdB (μ 9 0) q (4 + j) = true
    · rw [if_pos c] at h ⊢; exact h
    · rw [if_neg c] at h ⊢
      rw [nI_1]
      exact ih (j + 1) (by omega) h
theorem kinds_Y {L : Nat} {q : Nat × Nat × Nat × Nat} {σ μ : Mm} {K : Int32 → Mm → Prop} (hS : SS L q σ μ) (h : K (kfv (kf (μ 9 0) q 7 0)) μ) : f_X7_kindHere μ K := by
  have st : ∀ (d j : Nat) (A : Prop), j + (d + 1) = 7 → K (kfv (kf (μ 9 0) q (d + 1) j)) μ → (K (kfv (kf (μ 9 0) q d (j + 1))) μ → A) → ∀ x : Int32, x = nI j → f_X7_isWord (4 + j) μ (fun b2 σ1 => (if b2 = true then (K x σ1) else A)) := by
    intro d j A hj hk hA x ex
    refine hS.wY (by omega) ?_
    unfold kf at hk
    by_cases c : wdB (μ 9 0) q (4 + j) = true
    · rw [if_pos c] at hk ⊢
      rw [ex]; exact hk
    · rw [if_neg c] at hk ⊢
      exact hA hk
  have sw : ∀ (d j : Nat) (G : Mm → Prop), j + (d + 1) = 7 → K (kfv (kf (μ 9 0) q (d + 1) j)) μ → (K (kfv (kf (μ 9 0) q d (j + 1))) μ → G μ) → ∀ x : Int32, x = nI j → f_X7_isWord (4 + j) μ (fun b2 σ1 => (if b2 = true then (K x σ1) else G σ1)) := by
    intro d j G hj hk hA x ex
    refine hS.wY (by omega) ?_
    unfold kf at hk
    by_cases c : wdB (μ 9 0) q (4 + j) = true
    · rw [if_pos c] at hk ⊢
      rw [ex]; exact hk
    · rw [if_neg c] at hk ⊢
      exact hA hk
  unfold f_X7_kindHere
  exact sw 6 0 _ rfl h (fun h => sw 5 1 _ rfl h (fun h => sw 4 2 _ rfl h (fun h => sw 3 3 _ rfl h (fun h => sw 2 4 _ rfl h (fun h => sw 1 5 _ rfl h (fun h => sw 0 6 _ rfl h (fun h => h) _ rfl) _ rfl) _ rfl) _ rfl) _ rfl) _ rfl) _ rfl
theorem wd_lt {L : Nat} {q : Nat × Nat × Nat × Nat} {σ μ : Mm} {i : Nat} (hS : SS L q σ μ) (h : wdB (μ 9 0) q i = true) : q.2.1 + 1 ≤ q.2.2.1 := by
  unfold wdB at h
  have h1 := of_decide_eq_true ((Bool.and_eq_true _ _).mp h).1
  have := hS.2.2.2.1.2.2.2.2.2.1 (by omega)
  omega
theorem item_both {L nb : Nat} {q : Nat × Nat × Nat × Nat} {σ μ : Mm} (hS : SS L q σ μ) (hr : RI σ 2 (μ 1 0) nb) : ∃ σ' μ', RZ L (q.2.1 + 1) σ μ σ' μ' (fun K => f_X5_takeItem σ K) (fun K => f_X7_item μ K) := by
  have X0 : ∀ K : Bool → Mm → Prop, (if wdB (μ 9 0) q 0 = true then f_X5_takeBond (1 : Int32) σ K else if wdB (μ 9 0) q 1 = true then f_X5_takeBond (2 : Int32) σ K else if wdB (μ 9 0) q 2 = true then f_X5_takeWeight σ K else if wdB (μ 9 0) q 3 = true then f_X5_takeHeld σ K else ∃ m, f_X5_takeItem_60 K m (0 : Int32) σ) → f_X5_takeItem σ K := by
    intro K h
    unfold f_X5_takeItem
    refine hS.wX (by omega) ?_
    by_cases c0 : wdB (μ 9 0) q 0 = true
    · rw [if_pos c0] at h ⊢; exact h
    · rw [if_neg c0] at h ⊢
      refine hS.wX (by omega) ?_
      by_cases c1 : wdB (μ 9 0) q 1 = true
      · rw [if_pos c1] at h ⊢; exact h
      · rw [if_neg c1] at h ⊢
        refine hS.wX (by omega) ?_
        by_cases c2 : wdB (μ 9 0) q 2 = true
        · rw [if_pos c2] at h ⊢; exact h
        · rw [if_neg c2] at h ⊢
          refine hS.wX (by omega) ?_
          by_cases c3 : wdB (μ 9 0) q 3 = true
          · rw [if_pos c3] at h ⊢; exact h
          · rw [if_neg c3] at h ⊢; exact h
  have tkf : ∀ (i : Nat) (K : Bool → Mm → Prop), i < 13 → wdB (μ 9 0) q i = false → K false μ → f_X7_takes i μ K := by
    intro i K hi hw hk
    refine hS.tk hi ?_
    rw [hw]; exact itf hk
  have tkt : ∀ (i : Nat) (K : Bool → Mm → Prop), i < 13 → wdB (μ 9 0) q i = true → f_X7_token μ (fun μ1 => K true μ1) → f_X7_takes i μ K := by
    intro i K hi hw hk
    refine hS.tk hi ?_
    rw [hw]; exact itt hk
  cases w0 : wdB (μ 9 0) q 0 with
  | true =>
    obtain ⟨σ', μ', Z⟩ := bond_both (x := 1) hS hr (by omega)
    refine ⟨σ', μ', Z.lift TB.rf TZ.rf (wd_lt hS w0) (fun K h => X0 K ?_) (fun K h => ?_)⟩
    · rw [w0]; exact itt h
    · exact tkt 0 _ (by omega) w0 h
  | false =>
    cases w1 : wdB (μ 9 0) q 1 with
    | true =>
      obtain ⟨σ', μ', Z⟩ := bond_both (x := 2) hS hr (by omega)
      refine ⟨σ', μ', Z.lift TB.rf TZ.rf (wd_lt hS w1) (fun K h => X0 K ?_) (fun K h => ?_)⟩
      · rw [w0, w1]; exact itf (itt h)
      · exact tkf 0 _ (by omega) w0 (itf (tkt 1 _ (by omega) w1 h))
    | false =>
      cases w2 : wdB (μ 9 0) q 2 with
      | true =>
        obtain ⟨σ', μ', Z⟩ := weight_both hS hr
        refine ⟨σ', μ', Z.lift TB.rf TZ.rf (wd_lt hS w2) (fun K h => X0 K ?_) (fun K h => ?_)⟩
        · rw [w0, w1, w2]; exact itf (itf (itt h))
        · exact tkf 0 _ (by omega) w0 (itf (tkf 1 _ (by omega) w1 (itf (tkt 2 _ (by omega) w2 h))))
      | false =>
        cases w3 : wdB (μ 9 0) q 3 with
        | true =>
          obtain ⟨σ', μ', Z⟩ := held_both hS hr
          refine ⟨σ', μ', Z.lift TB.rf TZ.rf (wd_lt hS w3) (fun K h => X0 K ?_) (fun K h => ?_)⟩
          · rw [w0, w1, w2, w3]; exact itf (itf (itf (itt h)))
          · exact tkf 0 _ (by omega) w0 (itf (tkf 1 _ (by omega) w1 (itf (tkf 2 _ (by omega) w2 (itf (tkt 3 _ (by omega) w3 h))))))
        | false =>
          have X4 : ∀ K : Bool → Mm → Prop, kfX σ K (kf (μ 9 0) q 7 0) → f_X5_takeItem σ K := by
            intro K h
            refine X0 K ?_
            rw [w0, w1, w2, w3]
            exact itf (itf (itf (itf ⟨8, kinds_X hS 7 0 rfl h⟩)))
          have Y4 : ∀ K : Mm → Prop, f_X7_benchItem (kfv (kf (μ 9 0) q 7 0)) μ K → f_X7_item μ K := by
            intro K h
            exact tkf 0 _ (by omega) w0 (itf (tkf 1 _ (by omega) w1 (itf (tkf 2 _ (by omega) w2 (itf (tkf 3 _ (by omega) w3 (itf (kinds_Y hS h))))))))
          cases ek : kf (μ 9 0) q 7 0 with
          | none =>
            rw [ek] at X4 Y4
            refine RZ.no (μ' := mset μ 0 0 17 1) hS TB.rf TZ.rf TZ.bad (set17o (by omega)) set17 (fun K hk => X4 K hk) (fun K hk => Y4 K ?_)
            unfold f_X7_benchItem
            rw [if_pos hS.2.2.2.2.1, if_pos (show kfv none < 0 from m1_lt0)]
            refine ⟨⟨true, rfl⟩, _, rfl, ?_⟩
            rw [set17, if_neg (by decide)]
            exact hk
          | some k =>
            rw [ek] at X4 Y4
            have lt := kf_lt 7 0 k ek
            obtain ⟨σ', μ', Z⟩ := bench_both (k := k) hS hr (by omega)
            exact ⟨σ', μ', Z.lift TB.rf TZ.rf (wd_lt hS lt.2) (fun K h => X4 K h) (fun K h => Y4 K h)⟩
