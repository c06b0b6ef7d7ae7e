/-! PURE: items of a text: bonds, weights, what is held -/
/-- badly read, the class has stopped at this token -/
theorem RZ.no {L e : Nat} {q : Nat × Nat × Nat × Nat} {σ μ σ1 μ1 μ' : Mm} {X : (Bool → Mm → Prop) → Prop} {Y : (Mm → Prop) → Prop} (hS : SS L q σ1 μ1) (hB : TB σ σ1) (hZ : TZ μ μ1) (hZ' : TZ μ1 μ') (h14 : μ' 0 0 14 = μ1 0 0 14) (h17 : μ' 0 0 17 = 1) (hX : ∀ K : Bool → Mm → Prop, K false σ1 → X K) (hY : ∀ K : Mm → Prop, K μ' → Y K) : ∃ σ' μ', RZ L e σ μ σ' μ' X Y := by
  obtain ⟨p1, p2, p3⟩ := hS.pl
  exact ⟨σ1, μ', hB, hZ.tr hZ', hY, Or.inr ⟨q.2.1, false, p1, p2, h14.trans p3, h17, fun h => Bool.noConfusion h, hX⟩⟩
theorem bond_both {L nb x : Nat} {q : Nat × Nat × Nat × Nat} {σ μ : Mm} (hS : SS L q σ μ) (hr : RI σ 2 (μ 1 0) nb) (hx : x ≤ 2) : ∃ σ' μ', RZ L q.2.2.1 σ μ σ' μ' (fun K => f_X5_takeBond (nI x) σ K) (fun K => f_X7_token μ (fun μ1 => f_X7_friendsItem (nI x) μ1 K)) := by
  obtain ⟨q1, σ1, μ1, S1, l1, o1, y1, k1, j1⟩ := next2 hS
  cases n1 : nuB q1 0 7 with
  | false =>
    refine RZ.no (μ' := mset (mset μ1 0 0 17 1) 0 0 17 1) S1 o1.tb y1.tz (TZ.bad.tr TZ.bad) (by rw [set17o (by omega), set17o (by omega)]) set17 (fun K hk => ?_) (fun K hk => j1 _ ?_)
    · refine k1 _ (S1.nX (lo := 0) (hi := 7) (by omega) (by omega) ?_)
      rw [n1]; exact itf hk
    · unfold f_X7_friendsItem
      refine S1.bad (lo := 0) (hi := 7) (by omega) (by omega) (Or.inr n1) ?_
      have e16 : mset μ1 0 0 17 1 0 0 16 = nI q1.2.2.2 := by rw [set17o (by omega)]; exact S1.2.1.2.2.2.2
      rw [if_pos e16]
      unfold f_X7_friendsItem_26
      refine num_was set17 ?_
      rw [set17, if_neg (by decide)]
      exact hk
  | true =>
    obtain ⟨-, -, v1, vx1, vy1⟩ := S1.val (by omega) n1
    obtain ⟨q2, σ2, μ2, S2, l2, o2, y2, k2, j2⟩ := next2 S1
    have X1 : ∀ K : Bool → Mm → Prop, (f_X5_isNumber (0 : Int32) (7 : Int32) σ2 (fun b6 σ5 => (if b6 = true then (if (σ5 11 0 6) = nI q1.2.2.2 then (K false σ5) else (f_X1_tie 2 (nI q1.2.2.2) (σ5 11 0 6) (nI x) σ5 (fun σ7 => (f_X5_step σ7 (fun σ8 => (K true σ8)))))) else (K false σ5)))) → f_X5_takeBond (nI x) σ K := by
      intro K hk
      refine k1 _ (S1.nX (lo := 0) (hi := 7) (by omega) (by omega) ?_)
      rw [n1]
      refine itt (k2 _ ?_)
      rw [vx1]
      exact hk
    have Y1 : ∀ K : Mm → Prop, (if (μ2 0 0 16) = nI q1.2.2.2 then (f_X7_friendsItem_26 (nI x) (nI q1.2.2.2) (0 : Int32) (7 : Int32) (0 : Int32) K μ2) else (f_X7_friendsItem_26 (nI x) (nI q1.2.2.2) (1 : Int32) (7 : Int32) (0 : Int32) K μ2)) → f_X7_token μ (fun μ1 => f_X7_friendsItem (nI x) μ1 K) := by
      intro K hk
      refine j1 _ ?_
      unfold f_X7_friendsItem
      exact S1.ok (lo := 0) (hi := 7) (by omega) (by omega) (by decide) n1 (j2 _ hk)
    have e16 : μ2 0 0 16 = nI q2.2.2.2 := S2.2.1.2.2.2.2
    have q29 : q2.2.2.2 ≤ 9999 := S2.2.2.2.1.2.2.2.2.2.2.2.2.1
    have no2 : ∀ a3 : Int32, (a3 = 0 ∨ nuB q2 0 7 = false) → ∀ K : Mm → Prop, K (mset μ2 0 0 17 1) → f_X7_friendsItem_26 (nI x) (nI q1.2.2.2) a3 (7 : Int32) (0 : Int32) K μ2 := by
      intro a3 ha K hk
      unfold f_X7_friendsItem_26
      refine S2.bad (lo := 0) (hi := 7) (by omega) (by omega) ha ?_
      rw [set17, if_neg (by decide)]
      exact hk
    cases n2 : nuB q2 0 7 with
    | false =>
      refine RZ.no (μ' := mset μ2 0 0 17 1) S2 (o1.tb.tr o2.tb) (y1.tz.tr y2.tz) TZ.bad (set17o (by omega)) set17 (fun K hk => X1 K (S2.nX (lo := 0) (hi := 7) (by omega) (by omega) ?_)) (fun K hk => Y1 K ?_)
      · rw [n2]; exact itf hk
      · by_cases c : μ2 0 0 16 = nI q1.2.2.2
        · rw [if_pos c]; exact no2 0 (Or.inl rfl) K hk
        · rw [if_neg c]; exact no2 1 (Or.inr n2) K hk
    | true =>
      obtain ⟨-, -, v2, vx2, vy2⟩ := S2.val (by omega) n2
      by_cases c : q2.2.2.2 = q1.2.2.2
      · refine RZ.no (μ' := mset μ2 0 0 17 1) S2 (o1.tb.tr o2.tb) (y1.tz.tr y2.tz) TZ.bad (set17o (by omega)) set17 (fun K hk => X1 K (S2.nX (lo := 0) (hi := 7) (by omega) (by omega) ?_)) (fun K hk => Y1 K ?_)
        · rw [n2]
          refine itt ?_
          rw [vx2, if_pos (by rw [c])]
          exact hk
        · rw [if_pos (by rw [e16, c])]; exact no2 0 (Or.inl rfl) K hk
      · obtain ⟨σt, et⟩ : ∃ σt, σt = mset (mset σ2 3 2 (8 * q1.2.2.2 + q2.2.2.2) (nI x)) 3 2 (8 * q2.2.2.2 + q1.2.2.2) (nI x) := ⟨_, rfl⟩
        have St : SS L q2 σt μ2 := S2.cls (by rw [et, mset_ne (by omega), mset_ne (by omega)]) (by rw [et, mset_ne (by omega), mset_ne (by omega)])
        obtain ⟨q3, σ3, μ3, S3, l3, o3, y3, k3, j3⟩ := next2 St
        have hr2 : RI σ2 2 (μ3 1 0) nb := by
          rw [y3.1 1 0 (by omega), y2.1 1 0 (by omega), y1.1 1 0 (by omega)]
          exact (hr.oc (by omega) o1).oc (by omega) o2
        have hrt := hr2.tie (show q1.2.2.2 < 8 by omega) (show q2.2.2.2 < 8 by omega) (fun e => c e.symm) hx
        rw [← et] at hrt
        have q22 : q2.2.1 ≤ q2.2.2.1 := S2.2.2.2.1.2.1
        have q12 : q1.2.1 ≤ q1.2.2.1 := S1.2.2.2.1.2.1
        refine ⟨σ3, mset (mset μ3 1 0 (4 + 8 * q1.2.2.2 + q2.2.2.2) (nI x)) 1 0 (4 + 8 * q2.2.2.2 + q1.2.2.2) (nI x), ?_, ?_, ?_, Or.inl ⟨q3, nb, ?_, ?_, by omega, ?_⟩⟩
        · refine ((o1.tb.tr o2.tb).tr ?_).tr o3.tb
          rw [et]
          exact (TB.set (by unfold inR; omega)).tr (TB.set (by unfold inR; omega))
        · exact ((y1.tz.tr y2.tz).tr y3.tz).tr (TZ.row.tr TZ.row)
        · intro K hk
          refine Y1 K ?_
          rw [if_neg (by rw [e16]; exact fun e => c ((nI_eq (by omega) (by omega)).mp e))]
          unfold f_X7_friendsItem_26
          refine S2.ok (lo := 0) (hi := 7) (by omega) (by omega) (by decide) n2 (j3 _ ?_)
          rw [if_pos S3.2.2.2.2.1]
          exact befriends_Y (by omega) (by omega) hk
        · exact S3.ref (by rw [mset_ne (by omega), mset_ne (by omega)]) (by rw [mset_ne (by omega), mset_ne (by omega)])
        · rw [mset_eq, mset_eq]
          exact hrt.oc (by omega) o3
        · intro K hk
          refine X1 K (S2.nX (lo := 0) (hi := 7) (by omega) (by omega) ?_)
          rw [n2]
          refine itt ?_
          rw [vx2, if_neg (fun e => c ((nI_eq (by omega) (by omega)).mp e))]
          refine tie_X (by omega) (by omega) (by omega) ?_
          rw [← et]
          exact k3 _ hk
theorem weight_both {L nb : Nat} {q : Nat × Nat × Nat × Nat} {σ μ : Mm} (hS : SS L q σ μ) (hr : RI σ 2 (μ 1 0) nb) : ∃ σ' μ', RZ L q.2.2.1 σ μ σ' μ' (fun K => f_X5_takeWeight σ K) (fun K => f_X7_token μ (fun μ1 => f_X7_weightItem μ1 K)) := by
  obtain ⟨q1, σ1, μ1, S1, l1, o1, y1, k1, j1⟩ := next2 hS
  cases n1 : nuB q1 0 7 with
  | false =>
    refine RZ.no (μ' := mset (mset μ1 0 0 17 1) 0 0 17 1) S1 o1.tb y1.tz (TZ.bad.tr TZ.bad) (by rw [set17o (by omega), set17o (by omega)]) set17 (fun K hk => ?_) (fun K hk => j1 _ ?_)
    · refine k1 _ (S1.nX (lo := 0) (hi := 7) (by omega) (by omega) ?_)
      rw [n1]; exact itf hk
    · unfold f_X7_weightItem
      refine S1.bad (lo := 0) (hi := 7) (by omega) (by omega) (Or.inr n1) ?_
      refine num_was set17 ?_
      rw [set17, if_neg (by decide)]
      exact hk
  | true =>
    obtain ⟨-, -, v1, vx1, vy1⟩ := S1.val (by omega) n1
    obtain ⟨q2, σ2, μ2, S2, l2, o2, y2, k2, j2⟩ := next2 S1
    have X1 : ∀ K : Bool → Mm → Prop, (f_X5_isNumber (1 : Int32) (99 : Int32) σ2 (fun b6 σ5 => (if b6 = true then (vp_in (nI q1.2.2.2) 8 ∧ (∃ σ8, σ8 = mset σ5 4 2 ((nI q1.2.2.2).toNatClampNeg) (σ5 11 0 6) ∧ (f_X5_step σ8 (fun σ9 => (K true σ9))))) else (K false σ5)))) → f_X5_takeWeight σ K := by
      intro K hk
      refine k1 _ (S1.nX (lo := 0) (hi := 7) (by omega) (by omega) ?_)
      rw [n1]
      refine itt (k2 _ ?_)
      rw [vx1]
      exact hk
    have Y1 : ∀ K : Mm → Prop, (f_X7_number (1 : Int32) (99 : Int32) (1 : Int32) μ2 (fun r4 σ3 => (if (σ3 0 0 17) = 0 then (vp_in ((68 : Int32) + nI q1.2.2.2) 136 ∧ (∃ σ6, σ6 = mset σ3 1 0 (((68 : Int32) + nI q1.2.2.2).toNatClampNeg) r4 ∧ (K σ6))) else (K σ3)))) → f_X7_token μ (fun μ1 => f_X7_weightItem μ1 K) := by
      intro K hk
      refine j1 _ ?_
      unfold f_X7_weightItem
      exact S1.ok (lo := 0) (hi := 7) (by omega) (by omega) (by decide) n1 (j2 _ hk)
    cases n2 : nuB q2 1 99 with
    | false =>
      refine RZ.no (μ' := mset μ2 0 0 17 1) S2 (o1.tb.tr o2.tb) (y1.tz.tr y2.tz) TZ.bad (set17o (by omega)) set17 (fun K hk => X1 K (S2.nX (lo := 1) (hi := 99) (by omega) (by omega) ?_)) (fun K hk => Y1 K ?_)
      · rw [n2]; exact itf hk
      · refine S2.bad (lo := 1) (hi := 99) (by omega) (by omega) (Or.inr n2) ?_
        rw [set17, if_neg (by decide)]
        exact hk
    | true =>
      obtain ⟨-, w1, v2, vx2, vy2⟩ := S2.val (by omega) n2
      obtain ⟨σt, et⟩ : ∃ σt, σt = mset σ2 4 2 q1.2.2.2 (nI q2.2.2.2) := ⟨_, rfl⟩
      have St : SS L q2 σt μ2 := S2.cls (by rw [et, mset_ne (by omega)]) (by rw [et, mset_ne (by omega)])
      obtain ⟨q3, σ3, μ3, S3, l3, o3, y3, k3, j3⟩ := next2 St
      have hr2 : RI σ2 2 (μ3 1 0) nb := by
        rw [y3.1 1 0 (by omega), y2.1 1 0 (by omega), y1.1 1 0 (by omega)]
        exact (hr.oc (by omega) o1).oc (by omega) o2
      have hrt := hr2.weight (show q1.2.2.2 < 8 by omega) w1 v2
      rw [← et] at hrt
      have q22 : q2.2.1 ≤ q2.2.2.1 := S2.2.2.2.1.2.1
      have q12 : q1.2.1 ≤ q1.2.2.1 := S1.2.2.2.1.2.1
      refine ⟨σ3, mset μ3 1 0 (68 + q1.2.2.2) (nI q2.2.2.2), ?_, ?_, ?_, Or.inl ⟨q3, nb, ?_, ?_, by omega, ?_⟩⟩
      · refine ((o1.tb.tr o2.tb).tr ?_).tr o3.tb
        rw [et]
        exact TB.set (by unfold inR; omega)
      · exact ((y1.tz.tr y2.tz).tr y3.tz).tr TZ.row
      · intro K hk
        refine Y1 K (S2.ok (lo := 1) (hi := 99) (by omega) (by omega) (by decide) n2 (j3 _ ?_))
        rw [if_pos S3.2.2.2.2.1, show (68 : Int32) + nI q1.2.2.2 = nI (68 + q1.2.2.2) from nI_add 68 _, nI_clamp (by omega)]
        exact ⟨vp_in_nI (by omega) (by omega), _, rfl, hk⟩
      · exact S3.ref (by rw [mset_ne (by omega)]) (by rw [mset_ne (by omega)])
      · rw [mset_eq]
        exact hrt.oc (by omega) o3
      · intro K hk
        refine X1 K (S2.nX (lo := 1) (hi := 99) (by omega) (by omega) ?_)
        rw [n2]
        refine itt ?_
        rw [vx2, nI_clamp (by omega), ← et]
        exact ⟨vp_in_nI (by omega) (by omega), _, rfl, k3 _ hk⟩
theorem held_both {L nb : Nat} {q : Nat × Nat × Nat × Nat} {σ μ : Mm} (hS : SS L q σ μ) (hr : RI σ 2 (μ 1 0) nb) : ∃ σ' μ', RZ L q.2.2.1 σ μ σ' μ' (fun K => f_X5_takeHeld σ K) (fun K => f_X7_token μ (fun μ1 => f_X7_heldItem μ1 K)) := by
  obtain ⟨q1, σ1, μ1, S1, l1, o1, y1, k1, j1⟩ := next2 hS
  cases n1 : nuB q1 0 999 with
  | false =>
    refine RZ.no (μ' := mset μ1 0 0 17 1) S1 o1.tb y1.tz TZ.bad (set17o (by omega)) set17 (fun K hk => ?_) (fun K hk => j1 _ ?_)
    · refine k1 _ (S1.nX (lo := 0) (hi := 999) (by omega) (by omega) ?_)
      rw [n1]; exact itf hk
    · unfold f_X7_heldItem
      refine S1.bad (lo := 0) (hi := 999) (by omega) (by omega) (Or.inr n1) ?_
      rw [set17, if_neg (by decide)]
      exact hk
  | true =>
    obtain ⟨-, -, v1, vx1, vy1⟩ := S1.val (by omega) n1
    obtain ⟨σt, et⟩ : ∃ σt, σt = mset σ1 2 2 3 (nI q1.2.2.2) := ⟨_, rfl⟩
    have St : SS L q1 σt μ1 := S1.cls (by rw [et, mset_ne (by omega)]) (by rw [et, mset_ne (by omega)])
    obtain ⟨q3, σ3, μ3, S3, l3, o3, y3, k3, j3⟩ := next2 St
    have hr2 : RI σ1 2 (μ3 1 0) nb := by
      rw [y3.1 1 0 (by omega), y1.1 1 0 (by omega)]
      exact hr.oc (by omega) o1
    have hrt := hr2.held v1
    rw [← et] at hrt
    have q12 : q1.2.1 ≤ q1.2.2.1 := S1.2.2.2.1.2.1
    refine ⟨σ3, mset μ3 1 0 1 (nI q1.2.2.2), ?_, ?_, ?_, Or.inl ⟨q3, nb, ?_, ?_, by omega, ?_⟩⟩
    · refine (o1.tb.tr ?_).tr o3.tb
      rw [et]
      exact TB.set (by unfold inR; omega)
    · exact (y1.tz.tr y3.tz).tr TZ.row
    · intro K hk
      refine j1 _ ?_
      unfold f_X7_heldItem
      refine S1.ok (lo := 0) (hi := 999) (by omega) (by omega) (by decide) n1 (j3 _ ?_)
      rw [if_pos S3.2.2.2.2.1]
      exact ⟨_, rfl, hk⟩
    · exact S3.ref (by rw [mset_ne (by omega)]) (by rw [mset_ne (by omega)])
    · rw [mset_eq]
      exact hrt.oc (by omega) o3
    · intro K hk
      refine k1 _ (S1.nX (lo := 0) (hi := 999) (by omega) (by omega) ?_)
      rw [n1]
      refine itt ?_
      rw [vx1, ← et]
      exact ⟨_, rfl, k3 _ hk⟩
