def M_X6_feed : MT := (yX6_feed, cX6_feed, 4, some .int, 2)
set_option maxRecDepth 100000 in
def f_X6_feed_37 (a1 : Int32) (K : Int32 → Mm → Prop) : Nat → Int32 → Mm → Prop
  | 0, _, _ => False
  | n + 1, a3, σ => (if a3 < 0 then (K (σ 16 0 7) σ) else (vp_in (σ 16 0 7) 120 ∧ (∃ σ4, σ4 = mset σ 10 0 ((σ 16 0 7).toNatClampNeg) ((((a1).toUInt32 >>> ((((8 : Int32) * a3)).toUInt32 &&& Int32.toUInt32 31)).toInt32) &&& (255 : Int32)) ∧ (∃ σ5, σ5 = mset σ4 16 0 7 ((σ4 16 0 7) + (1 : Int32)) ∧ (f_X6_feed_37 a1 K n (a3 + (-1 : Int32)) σ5)))))
set_option maxRecDepth 100000 in
set_option maxHeartbeats 4000000 in
theorem T_X6_feed_37 {g : GG} {a1 : Int32} {K : Int32 → Mm → Prop} : ∀ (n : Nat) (a3 : Int32) (σ : Mm), f_X6_feed_37 a1 K n a3 σ → AW g 0 M_X6_feed (QI g 0 K) 37 [(0, .ref (gad g 16 0)), (1, .int a1), (3, .int a3)] [] σ := by
  intro n
  induction n with
  | zero => intro a3 σ h; exact False.elim h
  | succ n ih =>
    intro a3 σ h
    rw [f_X6_feed_37] at h
    refine AW.iload_n dX6_feed_37 2 rfl ?_
    refine AW.if_lt (tgt := 76) dX6_feed_38 rfl (fun c => ?_) (fun c => ?_)
    · replace h := ite_t c h
      refine AW.aload_n dX6_feed_76 0 rfl ?_
      refine AW.get (k := 7) (v := .int (σ 16 0 7)) (id0_16_0) rfl rfl inGX6 (Nat.le_of_ble_eq_true rfl) w_210 rfl dX6_feed_77 ?_
      exact AW.iret rfl dX6_feed_80 h
    · replace h := ite_f c h
      refine AW.aload_n dX6_feed_41 0 rfl ?_
      refine AW.get (k := 6) (v := .ref (gad g 10 0)) (id0_16_0) rfl rfl inGX6 (Nat.le_of_ble_eq_true rfl) w_209 rfl dX6_feed_42 ?_
      refine AW.aload_n dX6_feed_45 0 rfl ?_
      refine AW.get (k := 7) (v := .int (σ 16 0 7)) (id0_16_0) rfl rfl inGX6 (Nat.le_of_ble_eq_true rfl) w_210 rfl dX6_feed_46 ?_
      refine AW.iload_n dX6_feed_49 1 rfl ?_
      refine AW.bipush (v := (8 : Int32)) dX6_feed_50 rfl ?_
      refine AW.iload_n dX6_feed_52 2 rfl ?_
      refine AW.imul dX6_feed_53 ?_
      refine AW.iushr dX6_feed_54 ?_
      refine AW.sipush (v := (255 : Int32)) dX6_feed_55 rfl ?_
      refine AW.iand dX6_feed_58 ?_
      obtain ⟨hq3, h⟩ := h
      refine AW.iast (jn := ((σ 16 0 7).toNatClampNeg)) (id0_10_0) (fun _ => rfl) hq3 rfl dX6_feed_59 ?_
      obtain ⟨σ4, eσ4, h⟩ := h
      rw [← eσ4]
      refine AW.aload_n dX6_feed_60 0 rfl ?_
      refine AW.dup dX6_feed_61 rfl ?_
      refine AW.get (k := 7) (v := .int (σ4 16 0 7)) (id0_16_0) rfl rfl inGX6 (Nat.le_of_ble_eq_true rfl) w_210 rfl dX6_feed_62 ?_
      refine AW.iconst (v := (1 : Int32)) dX6_feed_65 rfl ?_
      refine AW.iadd dX6_feed_66 ?_
      refine AW.put (k := 7) (w := ((σ4 16 0 7) + (1 : Int32))) (id0_16_0) rfl rfl inGX6 tyX6_ok nmX6 (Nat.le_of_ble_eq_true rfl) w_210 rfl rfl rfl rfl (Nat.le_of_ble_eq_true rfl) rfl dX6_feed_67 ?_
      obtain ⟨σ5, eσ5, h⟩ := h
      rw [← eσ5]
      refine AW.iinc (v := (a3 + (-1 : Int32))) (L' := [(0, .ref (gad g 16 0)), (1, .int a1), (3, .int (a3 + (-1 : Int32)))]) dX6_feed_70 2 rfl rfl (Nat.le_of_ble_eq_true rfl) rfl ?_
      refine AW.goto (tgt := 37) dX6_feed_73 rfl ?_
      exact ih _ _ h
def f_X6_feed (a1 : Int32) (a2 : Int32) (σ : Mm) (K : Int32 → Mm → Prop) : Prop := (if a2 < (1 : Int32) then (f_X6_finding (0 : Int32) σ (fun r2 σ1 => (K r2 σ1))) else (if a2 ≤ (4 : Int32) then (if (σ 16 0 7) ≤ ((120 : Int32) - a2) then (∃ m, f_X6_feed_37 a1 K m (a2 - (1 : Int32)) σ) else (f_X6_finding (1 : Int32) σ (fun r7 σ6 => (K r7 σ6)))) else (f_X6_finding (0 : Int32) σ (fun r9 σ8 => (K r9 σ8)))))
set_option maxRecDepth 100000 in
set_option maxHeartbeats 4000000 in
theorem C_X6_feed {g : GG} {a1 : Int32} {a2 : Int32} {σ : Mm} {K : Int32 → Mm → Prop} (h : f_X6_feed a1 a2 σ K) : Ct g 0 M_X6_feed (QI g 0 K) [.ref (gad g 16 0), .int a1, .int a2] σ := by
  unfold f_X6_feed at h
  refine Ct.of (L := [(0, .ref (gad g 16 0)), (1, .int a1), (2, .int a2)]) (show plainName RX6 = true by decide) (Nat.le_of_ble_eq_true rfl) rfl ?_
  refine AW.iload_n dX6_feed_0 2 rfl ?_
  refine AW.iconst (v := (1 : Int32)) dX6_feed_1 rfl ?_
  refine AW.icmp_lt (tgt := 10) dX6_feed_2 rfl (fun c => ?_) (fun c => ?_)
  · replace h := ite_t c h
    refine AW.aload_n dX6_feed_10 0 rfl ?_
    refine AW.iconst (v := (0 : Int32)) dX6_feed_11 rfl ?_
    refine AW.callVI [.int (0 : Int32)] (C_X6_finding h) ok_X6_finding (id0_16_0) rfl rfl w_247 rfl (Nat.le_of_ble_eq_true rfl) (Nat.le_of_ble_eq_true rfl) rfl dX6_feed_12 (fun r2 σ1 h => ?_)
    exact AW.iret rfl dX6_feed_15 h
  · replace h := ite_f c h
    refine AW.iload_n dX6_feed_5 2 rfl ?_
    refine AW.iconst (v := (4 : Int32)) dX6_feed_6 rfl ?_
    refine AW.icmp_le (tgt := 16) dX6_feed_7 rfl (fun c => ?_) (fun c => ?_)
    · replace h := ite_t c h
      refine AW.aload_n dX6_feed_16 0 rfl ?_
      refine AW.get (k := 7) (v := .int (σ 16 0 7)) (id0_16_0) rfl rfl inGX6 (Nat.le_of_ble_eq_true rfl) w_210 rfl dX6_feed_17 ?_
      refine AW.bipush (v := (120 : Int32)) dX6_feed_20 rfl ?_
      refine AW.iload_n dX6_feed_22 2 rfl ?_
      refine AW.isub dX6_feed_23 ?_
      refine AW.icmp_le (tgt := 33) dX6_feed_24 rfl (fun c => ?_) (fun c => ?_)
      · replace h := ite_t c h
        refine AW.iload_n dX6_feed_33 2 rfl ?_
        refine AW.iconst (v := (1 : Int32)) dX6_feed_34 rfl ?_
        refine AW.isub dX6_feed_35 ?_
        refine AW.istore_n (L' := [(0, .ref (gad g 16 0)), (1, .int a1), (2, .int a2), (3, .int (a2 - (1 : Int32)))]) dX6_feed_36 (Nat.le_of_ble_eq_true rfl) rfl ?_
        obtain ⟨m, h⟩ := h
        refine AW.eqL [0, 1, 3] rfl ?_
        refine T_X6_feed_37 m _ _ h
      · replace h := ite_f c h
        refine AW.aload_n dX6_feed_27 0 rfl ?_
        refine AW.iconst (v := (1 : Int32)) dX6_feed_28 rfl ?_
        refine AW.callVI [.int (1 : Int32)] (C_X6_finding h) ok_X6_finding (id0_16_0) rfl rfl w_247 rfl (Nat.le_of_ble_eq_true rfl) (Nat.le_of_ble_eq_true rfl) rfl dX6_feed_29 (fun r7 σ6 h => ?_)
        exact AW.iret rfl dX6_feed_32 h
    · replace h := ite_f c h
      refine AW.aload_n dX6_feed_10 0 rfl ?_
      refine AW.iconst (v := (0 : Int32)) dX6_feed_11 rfl ?_
      refine AW.callVI [.int (0 : Int32)] (C_X6_finding h) ok_X6_finding (id0_16_0) rfl rfl w_247 rfl (Nat.le_of_ble_eq_true rfl) (Nat.le_of_ble_eq_true rfl) rfl dX6_feed_12 (fun r9 σ8 h => ?_)
      exact AW.iret rfl dX6_feed_15 h
theorem ok_X6_feed : OkV M_X6_feed 2 := ⟨w_622, w_623, w_1, w_624, by decide +kernel, (Nat.le_of_ble_eq_true rfl)⟩
def M_X6_wipe : MT := (yX6_wipe, cX6_wipe, 2, some .int, 1)
def f_X6_wipe (σ : Mm) (K : Int32 → Mm → Prop) : Prop := (∃ σ1, σ1 = mset σ 16 0 7 (0 : Int32) ∧ (K (σ 16 0 7) σ1))
set_option maxRecDepth 100000 in
set_option maxHeartbeats 4000000 in
theorem C_X6_wipe {g : GG} {σ : Mm} {K : Int32 → Mm → Prop} (h : f_X6_wipe σ K) : Ct g 0 M_X6_wipe (QI g 0 K) [.ref (gad g 16 0)] σ := by
  unfold f_X6_wipe at h
  refine Ct.of (L := [(0, .ref (gad g 16 0))]) (show plainName RX6 = true by decide) (Nat.le_of_ble_eq_true rfl) rfl ?_
  refine AW.aload_n dX6_wipe_0 0 rfl ?_
  refine AW.get (k := 7) (v := .int (σ 16 0 7)) (id0_16_0) rfl rfl inGX6 (Nat.le_of_ble_eq_true rfl) w_210 rfl dX6_wipe_1 ?_
  refine AW.istore_n (L' := [(0, .ref (gad g 16 0)), (1, .int (σ 16 0 7))]) dX6_wipe_4 (Nat.le_of_ble_eq_true rfl) rfl ?_
  refine AW.aload_n dX6_wipe_5 0 rfl ?_
  refine AW.iconst (v := (0 : Int32)) dX6_wipe_6 rfl ?_
  refine AW.put (k := 7) (w := (0 : Int32)) (id0_16_0) rfl rfl inGX6 tyX6_ok nmX6 (Nat.le_of_ble_eq_true rfl) w_210 rfl rfl rfl rfl (Nat.le_of_ble_eq_true rfl) rfl dX6_wipe_7 ?_
  obtain ⟨σ1, eσ1, h⟩ := h
  rw [← eσ1]
  refine AW.iload_n dX6_wipe_10 1 rfl ?_
  exact AW.iret rfl dX6_wipe_11 h
theorem ok_X6_wipe : OkV M_X6_wipe 0 := ⟨w_626, w_627, w_1, w_628, by decide +kernel, (Nat.le_of_ble_eq_true rfl)⟩
def M_X1_become : MT := (yX1_become, cX1_become, 2, none, 2)
def f_X1_become (i0 : Nat) (i1 : Nat) (σ : Mm) (K : Mm → Prop) : Prop := (i0 < 3 ∧ (i1 < 3 ∧ (∃ σ1, σ1 = mrow σ 3 i0 (va_cpy (σ 3 i1) (σ 3 i0) (0 : Int32).toNatClampNeg (0 : Int32).toNatClampNeg (64 : Int32).toNatClampNeg) ∧ (∃ σ2, σ2 = mrow σ1 4 i0 (va_cpy (σ1 4 i1) (σ1 4 i0) (0 : Int32).toNatClampNeg (0 : Int32).toNatClampNeg (8 : Int32).toNatClampNeg) ∧ (bz (σ2 2 i1 2) ∧ (∃ σ4, σ4 = mset σ2 2 i0 2 (σ2 2 i1 2) ∧ (∃ σ5, σ5 = mset σ4 2 i0 3 (σ4 2 i1 3) ∧ (K σ5))))))))
set_option maxRecDepth 100000 in
set_option maxHeartbeats 4000000 in
theorem C_X1_become {g : GG} {i0 : Nat} {i1 : Nat} {σ : Mm} {K : Mm → Prop} (h : f_X1_become i0 i1 σ K) : Ct g 0 M_X1_become (QV g 0 K) [.ref (gad g 2 i0), .ref (gad g 2 i1)] σ := by
  unfold f_X1_become at h
  obtain ⟨hi0, h⟩ := h
  obtain ⟨hi1, h⟩ := h
  refine Ct.of (L := [(0, .ref (gad g 2 i0)), (1, .ref (gad g 2 i1))]) (show plainName RX1 = true by decide) (Nat.le_of_ble_eq_true rfl) rfl ?_
  refine AW.aload_n dX1_become_0 1 rfl ?_
  refine AW.get (k := 0) (v := .ref (gad g 3 i1)) (ids_in (Nat.le_of_ble_eq_true rfl) hi1) rfl rfl inGX1 (Nat.le_of_ble_eq_true rfl) w_40 rfl dX1_become_1 ?_
  refine AW.iconst (v := (0 : Int32)) dX1_become_4 rfl ?_
  refine AW.aload_n dX1_become_5 0 rfl ?_
  refine AW.get (k := 0) (v := .ref (gad g 3 i0)) (ids_in (Nat.le_of_ble_eq_true rfl) hi0) rfl rfl inGX1 (Nat.le_of_ble_eq_true rfl) w_40 rfl dX1_become_6 ?_
  refine AW.iconst (v := (0 : Int32)) dX1_become_9 rfl ?_
  refine AW.bipush (v := (64 : Int32)) dX1_become_10 rfl ?_
  refine AW.copy (ids_in (Nat.le_of_ble_eq_true rfl) hi1) rfl (ids_in (Nat.le_of_ble_eq_true rfl) hi0) (fun _ => rfl) w_641 w_425 w_424 w_11 (by decide) (by decide) (by decide) (by decide) (by decide) (Nat.le_of_ble_eq_true rfl) (Nat.le_of_ble_eq_true rfl) dX1_become_12 ?_
  obtain ⟨σ1, eσ1, h⟩ := h
  rw [← eσ1]
  refine AW.aload_n dX1_become_15 1 rfl ?_
  refine AW.get (k := 1) (v := .ref (gad g 4 i1)) (ids_in (Nat.le_of_ble_eq_true rfl) hi1) rfl rfl inGX1 (Nat.le_of_ble_eq_true rfl) w_41 rfl dX1_become_16 ?_
  refine AW.iconst (v := (0 : Int32)) dX1_become_19 rfl ?_
  refine AW.aload_n dX1_become_20 0 rfl ?_
  refine AW.get (k := 1) (v := .ref (gad g 4 i0)) (ids_in (Nat.le_of_ble_eq_true rfl) hi0) rfl rfl inGX1 (Nat.le_of_ble_eq_true rfl) w_41 rfl dX1_become_21 ?_
  refine AW.iconst (v := (0 : Int32)) dX1_become_24 rfl ?_
  refine AW.bipush (v := (8 : Int32)) dX1_become_25 rfl ?_
  refine AW.copy (ids_in (Nat.le_of_ble_eq_true rfl) hi1) rfl (ids_in (Nat.le_of_ble_eq_true rfl) hi0) (fun _ => rfl) w_641 w_425 w_424 w_11 (by decide) (by decide) (by decide) (by decide) (by decide) (Nat.le_of_ble_eq_true rfl) (Nat.le_of_ble_eq_true rfl) dX1_become_27 ?_
  obtain ⟨σ2, eσ2, h⟩ := h
  rw [← eσ2]
  refine AW.aload_n dX1_become_30 0 rfl ?_
  refine AW.aload_n dX1_become_31 1 rfl ?_
  refine AW.get (k := 2) (v := .int (σ2 2 i1 2)) (ids_in (Nat.le_of_ble_eq_true rfl) hi1) rfl rfl inGX1 (Nat.le_of_ble_eq_true rfl) w_45 rfl dX1_become_32 ?_
  obtain ⟨hb3, h⟩ := h
  refine AW.put (k := 2) (w := (σ2 2 i1 2)) (ids_in (Nat.le_of_ble_eq_true rfl) hi0) rfl rfl inGX1 tyX1_ok nmX1 (Nat.le_of_ble_eq_true rfl) w_45 rfl rfl (bz_nar hb3) (bz_fit hb3) (Nat.le_of_ble_eq_true rfl) rfl dX1_become_35 ?_
  obtain ⟨σ4, eσ4, h⟩ := h
  rw [← eσ4]
  refine AW.aload_n dX1_become_38 0 rfl ?_
  refine AW.aload_n dX1_become_39 1 rfl ?_
  refine AW.get (k := 3) (v := .int (σ4 2 i1 3)) (ids_in (Nat.le_of_ble_eq_true rfl) hi1) rfl rfl inGX1 (Nat.le_of_ble_eq_true rfl) w_47 rfl dX1_become_40 ?_
  refine AW.put (k := 3) (w := (σ4 2 i1 3)) (ids_in (Nat.le_of_ble_eq_true rfl) hi0) rfl rfl inGX1 tyX1_ok nmX1 (Nat.le_of_ble_eq_true rfl) w_47 rfl rfl rfl rfl (Nat.le_of_ble_eq_true rfl) rfl dX1_become_43 ?_
  obtain ⟨σ5, eσ5, h⟩ := h
  rw [← eσ5]
  exact AW.vret rfl dX1_become_46 h
theorem ok_X1_become : OkV M_X1_become 1 := ⟨w_638, w_639, w_3, w_640, by decide +kernel, (Nat.le_of_ble_eq_true rfl)⟩
def M_X2_become : MT := (yX2_become, cX2_become, 3, none, 3)
set_option maxRecDepth 100000 in
def f_X2_become_13 (i0 : Nat) (i1 : Nat) (K : Mm → Prop) (k39 : Mm → Prop) : Nat → Int32 → Mm → Prop
  | 0, _, _ => False
  | n + 1, a2, σ => (if (5 : Int32) ≤ a2 then (k39 σ) else (vp_in a2 5 ∧ ((5 * i0 + a2.toNatClampNeg) < 17 ∧ (vp_in a2 5 ∧ ((5 * i1 + a2.toNatClampNeg) < 17 ∧ (f_X0_become (5 * i0 + a2.toNatClampNeg) (5 * i1 + a2.toNatClampNeg) σ (fun σ6 => (f_X2_become_13 i0 i1 K k39 n (a2 + (1 : Int32)) σ6))))))))
set_option maxRecDepth 100000 in
set_option maxHeartbeats 4000000 in
theorem T_X2_become_13 {g : GG} {i0 : Nat} {i1 : Nat} {K : Mm → Prop} {k39 : Mm → Prop} (hi0 : i0 < 3) (hi1 : i1 < 3) (hk39 : ∀  (u : Mm), k39  u → AW g 0 M_X2_become (QV g 0 K) 39 [(0, .ref (gad g 5 i0)), (1, .ref (gad g 5 i1))] [] u) : ∀ (n : Nat) (a2 : Int32) (σ : Mm), f_X2_become_13 i0 i1 K k39 n a2 σ → AW g 0 M_X2_become (QV g 0 K) 13 [(0, .ref (gad g 5 i0)), (1, .ref (gad g 5 i1)), (2, .int a2)] [] σ := by
  intro n
  induction n with
  | zero => intro a2 σ h; exact False.elim h
  | succ n ih =>
    intro a2 σ h
    rw [f_X2_become_13] at h
    refine AW.iload_n dX2_become_13 2 rfl ?_
    refine AW.iconst (v := (5 : Int32)) dX2_become_14 rfl ?_
    refine AW.icmp_ge (tgt := 39) dX2_become_15 rfl (fun c => ?_) (fun c => ?_)
    · replace h := ite_t c h
      refine AW.eqL [0, 1] rfl ?_
      exact hk39 _ h
    · replace h := ite_f c h
      refine AW.aload_n dX2_become_18 0 rfl ?_
      refine AW.get (k := 1) (v := .ref (gad g 6 i0)) (ids_in (Nat.le_of_ble_eq_true rfl) hi0) rfl rfl inGX2 (Nat.le_of_ble_eq_true rfl) w_95 rfl dX2_become_19 ?_
      refine AW.iload_n dX2_become_22 2 rfl ?_
      obtain ⟨hq2, h⟩ := h
      obtain ⟨hv3, h⟩ := h
      refine AW.aald (a' := gad g 0 (5 * i0 + a2.toNatClampNeg)) (ty := 1) (ids_in (Nat.le_of_ble_eq_true rfl) hi0) rfl rfl rfl hq2 dX2_become_23 ?_
      refine AW.aload_n dX2_become_24 1 rfl ?_
      refine AW.get (k := 1) (v := .ref (gad g 6 i1)) (ids_in (Nat.le_of_ble_eq_true rfl) hi1) rfl rfl inGX2 (Nat.le_of_ble_eq_true rfl) w_95 rfl dX2_become_25 ?_
      refine AW.iload_n dX2_become_28 2 rfl ?_
      obtain ⟨hq4, h⟩ := h
      obtain ⟨hv5, h⟩ := h
      refine AW.aald (a' := gad g 0 (5 * i1 + a2.toNatClampNeg)) (ty := 1) (ids_in (Nat.le_of_ble_eq_true rfl) hi1) rfl rfl rfl hq4 dX2_become_29 ?_
      refine AW.callVV [.ref (gad g 0 (5 * i1 + a2.toNatClampNeg))] (C_X0_become h) ok_X0_become (ids_in (Nat.le_of_ble_eq_true rfl) hv3) rfl rfl w_642 rfl (Nat.le_of_ble_eq_true rfl) (Nat.le_of_ble_eq_true rfl) rfl dX2_become_30 (fun σ6 h => ?_)
      refine AW.iinc (v := (a2 + (1 : Int32))) (L' := [(0, .ref (gad g 5 i0)), (1, .ref (gad g 5 i1)), (2, .int (a2 + (1 : Int32)))]) dX2_become_33 2 rfl rfl (Nat.le_of_ble_eq_true rfl) rfl ?_
      refine AW.goto (tgt := 13) dX2_become_36 rfl ?_
      exact ih _ _ h
def f_X2_become (i0 : Nat) (i1 : Nat) (σ : Mm) (K : Mm → Prop) : Prop := (i0 < 3 ∧ (i1 < 3 ∧ (f_X1_become i0 i1 σ (fun σ1 => (∃ m, f_X2_become_13 i0 i1 K (fun σ7 => (∃ σ8, σ8 = mset σ7 5 i0 2 (σ7 5 i1 2) ∧ (∃ σ9, σ9 = mrow σ8 7 i0 (va_cpy (σ8 7 i1) (σ8 7 i0) (0 : Int32).toNatClampNeg (0 : Int32).toNatClampNeg (10 : Int32).toNatClampNeg) ∧ (∃ σ10, σ10 = mset σ9 5 i0 4 (σ9 5 i1 4) ∧ (K σ10))))) m (0 : Int32) σ1)))))
set_option maxRecDepth 100000 in
set_option maxHeartbeats 4000000 in
theorem C_X2_become {g : GG} {i0 : Nat} {i1 : Nat} {σ : Mm} {K : Mm → Prop} (h : f_X2_become i0 i1 σ K) : Ct g 0 M_X2_become (QV g 0 K) [.ref (gad g 5 i0), .ref (gad g 5 i1)] σ := by
  unfold f_X2_become at h
  obtain ⟨hi0, h⟩ := h
  obtain ⟨hi1, h⟩ := h
  refine Ct.of (L := [(0, .ref (gad g 5 i0)), (1, .ref (gad g 5 i1))]) (show plainName RX2 = true by decide) (Nat.le_of_ble_eq_true rfl) rfl ?_
  refine AW.aload_n dX2_become_0 0 rfl ?_
  refine AW.get (k := 0) (v := .ref (gad g 2 i0)) (ids_in (Nat.le_of_ble_eq_true rfl) hi0) rfl rfl inGX2 (Nat.le_of_ble_eq_true rfl) w_92 rfl dX2_become_1 ?_
  refine AW.aload_n dX2_become_4 1 rfl ?_
  refine AW.get (k := 0) (v := .ref (gad g 2 i1)) (ids_in (Nat.le_of_ble_eq_true rfl) hi1) rfl rfl inGX2 (Nat.le_of_ble_eq_true rfl) w_92 rfl dX2_become_5 ?_
  refine AW.callVV [.ref (gad g 2 i1)] (C_X1_become h) ok_X1_become (ids_in (Nat.le_of_ble_eq_true rfl) hi0) rfl rfl w_637 rfl (Nat.le_of_ble_eq_true rfl) (Nat.le_of_ble_eq_true rfl) rfl dX2_become_8 (fun σ1 h => ?_)
  refine AW.iconst (v := (0 : Int32)) dX2_become_11 rfl ?_
  refine AW.istore_n (L' := [(0, .ref (gad g 5 i0)), (1, .ref (gad g 5 i1)), (2, .int (0 : Int32))]) dX2_become_12 (Nat.le_of_ble_eq_true rfl) rfl ?_
  obtain ⟨m, h⟩ := h
  refine T_X2_become_13 hi0 hi1 (fun σ7 h => ?_) m _ _ h
  refine AW.aload_n dX2_become_39 0 rfl ?_
  refine AW.aload_n dX2_become_40 1 rfl ?_
  refine AW.get (k := 2) (v := .int (σ7 5 i1 2)) (ids_in (Nat.le_of_ble_eq_true rfl) hi1) rfl rfl inGX2 (Nat.le_of_ble_eq_true rfl) w_98 rfl dX2_become_41 ?_
  refine AW.put (k := 2) (w := (σ7 5 i1 2)) (ids_in (Nat.le_of_ble_eq_true rfl) hi0) rfl rfl inGX2 tyX2_ok nmX2 (Nat.le_of_ble_eq_true rfl) w_98 rfl rfl rfl rfl (Nat.le_of_ble_eq_true rfl) rfl dX2_become_44 ?_
  obtain ⟨σ8, eσ8, h⟩ := h
  rw [← eσ8]
  refine AW.aload_n dX2_become_47 1 rfl ?_
  refine AW.get (k := 3) (v := .ref (gad g 7 i1)) (ids_in (Nat.le_of_ble_eq_true rfl) hi1) rfl rfl inGX2 (Nat.le_of_ble_eq_true rfl) w_101 rfl dX2_become_48 ?_
  refine AW.iconst (v := (0 : Int32)) dX2_become_51 rfl ?_
  refine AW.aload_n dX2_become_52 0 rfl ?_
  refine AW.get (k := 3) (v := .ref (gad g 7 i0)) (ids_in (Nat.le_of_ble_eq_true rfl) hi0) rfl rfl inGX2 (Nat.le_of_ble_eq_true rfl) w_101 rfl dX2_become_53 ?_
  refine AW.iconst (v := (0 : Int32)) dX2_become_56 rfl ?_
  refine AW.bipush (v := (10 : Int32)) dX2_become_57 rfl ?_
  refine AW.copy (ids_in (Nat.le_of_ble_eq_true rfl) hi1) rfl (ids_in (Nat.le_of_ble_eq_true rfl) hi0) (fun _ => rfl) w_539 w_425 w_424 w_11 (by decide) (by decide) (by decide) (by decide) (by decide) (Nat.le_of_ble_eq_true rfl) (Nat.le_of_ble_eq_true rfl) dX2_become_59 ?_
  obtain ⟨σ9, eσ9, h⟩ := h
  rw [← eσ9]
  refine AW.aload_n dX2_become_62 0 rfl ?_
  refine AW.aload_n dX2_become_63 1 rfl ?_
  refine AW.get (k := 4) (v := .int (σ9 5 i1 4)) (ids_in (Nat.le_of_ble_eq_true rfl) hi1) rfl rfl inGX2 (Nat.le_of_ble_eq_true rfl) w_103 rfl dX2_become_64 ?_
  refine AW.put (k := 4) (w := (σ9 5 i1 4)) (ids_in (Nat.le_of_ble_eq_true rfl) hi0) rfl rfl inGX2 tyX2_ok nmX2 (Nat.le_of_ble_eq_true rfl) w_103 rfl rfl rfl rfl (Nat.le_of_ble_eq_true rfl) rfl dX2_become_67 ?_
  obtain ⟨σ10, eσ10, h⟩ := h
  rw [← eσ10]
  exact AW.vret rfl dX2_become_70 h
theorem ok_X2_become : OkV M_X2_become 1 := ⟨w_634, w_635, w_2, w_636, by decide +kernel, (Nat.le_of_ble_eq_true rfl)⟩
def M_X5_isLetter : MT := (yX5_isLetter, cX5_isLetter, 1, some .boolean, 1)
def f_X5_isLetter (a0 : Int32) (σ : Mm) (K : Bool → Mm → Prop) : Prop := (if a0 < (97 : Int32) then (K false σ) else (if (122 : Int32) < a0 then (K false σ) else (K true σ)))
set_option maxRecDepth 100000 in
set_option maxHeartbeats 4000000 in
theorem C_X5_isLetter {g : GG} {a0 : Int32} {σ : Mm} {K : Bool → Mm → Prop} (h : f_X5_isLetter a0 σ K) : Ct g 0 M_X5_isLetter (QB g 0 K) [.int a0] σ := by
  unfold f_X5_isLetter at h
  refine Ct.of (L := [(0, .int a0)]) (show plainName RX5 = true by decide) (Nat.le_of_ble_eq_true rfl) rfl ?_
  refine AW.iload_n dX5_isLetter_0 0 rfl ?_
  refine AW.bipush (v := (97 : Int32)) dX5_isLetter_1 rfl ?_
  refine AW.icmp_lt (tgt := 16) dX5_isLetter_3 rfl (fun c => ?_) (fun c => ?_)
  · replace h := ite_t c h
    refine AW.iconst (v := (0 : Int32)) dX5_isLetter_16 rfl ?_
    exact AW.bret false rfl rfl dX5_isLetter_17 h
  · replace h := ite_f c h
    refine AW.iload_n dX5_isLetter_6 0 rfl ?_
    refine AW.bipush (v := (122 : Int32)) dX5_isLetter_7 rfl ?_
    refine AW.icmp_gt (tgt := 16) dX5_isLetter_9 rfl (fun c => ?_) (fun c => ?_)
    · replace h := ite_t c h
      refine AW.iconst (v := (0 : Int32)) dX5_isLetter_16 rfl ?_
      exact AW.bret false rfl rfl dX5_isLetter_17 h
    · replace h := ite_f c h
      refine AW.iconst (v := (1 : Int32)) dX5_isLetter_12 rfl ?_
      refine AW.goto (tgt := 17) dX5_isLetter_13 rfl ?_
      exact AW.bret true rfl rfl dX5_isLetter_17 h
theorem ok_X5_isLetter : OkS M_X5_isLetter 1 := ⟨w_652, w_7, w_653, by decide +kernel, (Nat.le_of_ble_eq_true rfl)⟩
def M_X5_isDigit : MT := (yX5_isDigit, cX5_isDigit, 1, some .boolean, 1)
def f_X5_isDigit (a0 : Int32) (σ : Mm) (K : Bool → Mm → Prop) : Prop := (if a0 < (48 : Int32) then (K false σ) else (if (57 : Int32) < a0 then (K false σ) else (K true σ)))
set_option maxRecDepth 100000 in
set_option maxHeartbeats 4000000 in
theorem C_X5_isDigit {g : GG} {a0 : Int32} {σ : Mm} {K : Bool → Mm → Prop} (h : f_X5_isDigit a0 σ K) : Ct g 0 M_X5_isDigit (QB g 0 K) [.int a0] σ := by
  unfold f_X5_isDigit at h
  refine Ct.of (L := [(0, .int a0)]) (show plainName RX5 = true by decide) (Nat.le_of_ble_eq_true rfl) rfl ?_
  refine AW.iload_n dX5_isDigit_0 0 rfl ?_
  refine AW.bipush (v := (48 : Int32)) dX5_isDigit_1 rfl ?_
  refine AW.icmp_lt (tgt := 16) dX5_isDigit_3 rfl (fun c => ?_) (fun c => ?_)
  · replace h := ite_t c h
    refine AW.iconst (v := (0 : Int32)) dX5_isDigit_16 rfl ?_
    exact AW.bret false rfl rfl dX5_isDigit_17 h
  · replace h := ite_f c h
    refine AW.iload_n dX5_isDigit_6 0 rfl ?_
    refine AW.bipush (v := (57 : Int32)) dX5_isDigit_7 rfl ?_
    refine AW.icmp_gt (tgt := 16) dX5_isDigit_9 rfl (fun c => ?_) (fun c => ?_)
    · replace h := ite_t c h
      refine AW.iconst (v := (0 : Int32)) dX5_isDigit_16 rfl ?_
      exact AW.bret false rfl rfl dX5_isDigit_17 h
    · replace h := ite_f c h
      refine AW.iconst (v := (1 : Int32)) dX5_isDigit_12 rfl ?_
      refine AW.goto (tgt := 17) dX5_isDigit_13 rfl ?_
      exact AW.bret true rfl rfl dX5_isDigit_17 h
theorem ok_X5_isDigit : OkS M_X5_isDigit 1 := ⟨w_655, w_7, w_656, by decide +kernel, (Nat.le_of_ble_eq_true rfl)⟩
def M_X5_step : MT := (yX5_step, cX5_step, 1, none, 2)
set_option maxRecDepth 100000 in
def f_X5_step_8 (K : Mm → Prop) (k46 : Mm → Prop) : Nat → Mm → Prop
  | 0, _ => False
  | n + 1, σ => (if (σ 11 0 2) ≤ (σ 11 0 4) then (k46 σ) else (vp_in (σ 11 0 4) 120 ∧ (if (σ 10 0 ((σ 11 0 4).toNatClampNeg)) = (32 : Int32) then (∃ σ3, σ3 = mset σ 11 0 4 ((σ 11 0 4) + (1 : Int32)) ∧ (f_X5_step_8 K k46 n σ3)) else (k46 σ))))
set_option maxRecDepth 100000 in
set_option maxHeartbeats 4000000 in
theorem T_X5_step_8 {g : GG} {K : Mm → Prop} {k46 : Mm → Prop} (hk46 : ∀  (u : Mm), k46  u → AW g 0 M_X5_step (QV g 0 K) 46 [(0, .ref (gad g 11 0))] [] u) : ∀ (n : Nat) (σ : Mm), f_X5_step_8 K k46 n σ → AW g 0 M_X5_step (QV g 0 K) 8 [(0, .ref (gad g 11 0))] [] σ := by
  intro n
  induction n with
  | zero => intro σ h; exact False.elim h
  | succ n ih =>
    intro σ h
    rw [f_X5_step_8] at h
    refine AW.aload_n dX5_step_8 0 rfl ?_
    refine AW.get (k := 4) (v := .int (σ 11 0 4)) (id0_11_0) rfl rfl inGX5 (Nat.le_of_ble_eq_true rfl) w_165 rfl dX5_step_9 ?_
    refine AW.aload_n dX5_step_12 0 rfl ?_
    refine AW.get (k := 2) (v := .int (σ 11 0 2)) (id0_11_0) rfl rfl inGX5 (Nat.le_of_ble_eq_true rfl) w_163 rfl dX5_step_13 ?_
    refine AW.icmp_ge (tgt := 46) dX5_step_16 rfl (fun c => ?_) (fun c => ?_)
    · replace h := ite_t c h
      exact hk46 _ h
    · replace h := ite_f c h
      refine AW.aload_n dX5_step_19 0 rfl ?_
      refine AW.get (k := 0) (v := .ref (gad g 10 0)) (id0_11_0) rfl rfl inGX5 (Nat.le_of_ble_eq_true rfl) w_161 rfl dX5_step_20 ?_
      refine AW.aload_n dX5_step_23 0 rfl ?_
      refine AW.get (k := 4) (v := .int (σ 11 0 4)) (id0_11_0) rfl rfl inGX5 (Nat.le_of_ble_eq_true rfl) w_165 rfl dX5_step_24 ?_
      obtain ⟨hq2, h⟩ := h
      refine AW.iald (jn := ((σ 11 0 4).toNatClampNeg)) (id0_10_0) rfl hq2 rfl dX5_step_27 ?_
      refine AW.bipush (v := (32 : Int32)) dX5_step_28 rfl ?_
      refine AW.icmp_ne (tgt := 46) dX5_step_30 rfl (fun c => ?_) (fun c => ?_)
      · replace h := ite_f c h
        exact hk46 _ h
      · replace h := ite_t c h
        refine AW.aload_n dX5_step_33 0 rfl ?_
        refine AW.dup dX5_step_34 rfl ?_
        refine AW.get (k := 4) (v := .int (σ 11 0 4)) (id0_11_0) rfl rfl inGX5 (Nat.le_of_ble_eq_true rfl) w_165 rfl dX5_step_35 ?_
        refine AW.iconst (v := (1 : Int32)) dX5_step_38 rfl ?_
        refine AW.iadd dX5_step_39 ?_
        refine AW.put (k := 4) (w := ((σ 11 0 4) + (1 : Int32))) (id0_11_0) rfl rfl inGX5 tyX5_ok nmX5 (Nat.le_of_ble_eq_true rfl) w_165 rfl rfl rfl rfl (Nat.le_of_ble_eq_true rfl) rfl dX5_step_40 ?_
        obtain ⟨σ3, eσ3, h⟩ := h
        rw [← eσ3]
        refine AW.goto (tgt := 8) dX5_step_43 rfl ?_
        exact ih _ h
set_option maxRecDepth 100000 in
def f_X5_step_157 (K : Mm → Prop) : Nat → Mm → Prop
  | 0, _ => False
  | n + 1, σ => (if (σ 11 0 2) ≤ (σ 11 0 5) then (K σ) else (vp_in (σ 11 0 5) 120 ∧ (f_X5_isDigit (σ 10 0 ((σ 11 0 5).toNatClampNeg)) σ (fun b21 σ20 => (if b21 = true then (vp_in (σ20 11 0 5) 120 ∧ (∃ σ23, σ23 = mset σ20 11 0 6 (if (1000 : Int32) < ((((10 : Int32) * (σ20 11 0 6)) + (σ20 10 0 ((σ20 11 0 5).toNatClampNeg))) - (48 : Int32)) then (1000 : Int32) else ((((10 : Int32) * (σ20 11 0 6)) + (σ20 10 0 ((σ20 11 0 5).toNatClampNeg))) - (48 : Int32))) ∧ (∃ σ24, σ24 = mset σ23 11 0 5 ((σ23 11 0 5) + (1 : Int32)) ∧ (f_X5_step_157 K n σ24)))) else (K σ20))))))
set_option maxRecDepth 100000 in
set_option maxHeartbeats 4000000 in
theorem T_X5_step_157 {g : GG} {K : Mm → Prop} : ∀ (n : Nat) (σ : Mm), f_X5_step_157 K n σ → AW g 0 M_X5_step (QV g 0 K) 157 [(0, .ref (gad g 11 0))] [] σ := by
  intro n
  induction n with
  | zero => intro σ h; exact False.elim h
  | succ n ih =>
    intro σ h
    rw [f_X5_step_157] at h
    refine AW.aload_n dX5_step_157 0 rfl ?_
    refine AW.get (k := 5) (v := .int (σ 11 0 5)) (id0_11_0) rfl rfl inGX5 (Nat.le_of_ble_eq_true rfl) w_166 rfl dX5_step_158 ?_
    refine AW.aload_n dX5_step_161 0 rfl ?_
    refine AW.get (k := 2) (v := .int (σ 11 0 2)) (id0_11_0) rfl rfl inGX5 (Nat.le_of_ble_eq_true rfl) w_163 rfl dX5_step_162 ?_
    refine AW.icmp_ge (tgt := 259) dX5_step_165 rfl (fun c => ?_) (fun c => ?_)
    · replace h := ite_t c h
      exact AW.vret rfl dX5_step_259 h
    · replace h := ite_f c h
      refine AW.aload_n dX5_step_168 0 rfl ?_
      refine AW.get (k := 0) (v := .ref (gad g 10 0)) (id0_11_0) rfl rfl inGX5 (Nat.le_of_ble_eq_true rfl) w_161 rfl dX5_step_169 ?_
      refine AW.aload_n dX5_step_172 0 rfl ?_
      refine AW.get (k := 5) (v := .int (σ 11 0 5)) (id0_11_0) rfl rfl inGX5 (Nat.le_of_ble_eq_true rfl) w_166 rfl dX5_step_173 ?_
      obtain ⟨hq19, h⟩ := h
      refine AW.iald (jn := ((σ 11 0 5).toNatClampNeg)) (id0_10_0) rfl hq19 rfl dX5_step_176 ?_
      refine AW.callSB [.int (σ 10 0 ((σ 11 0 5).toNatClampNeg))] (C_X5_isDigit h) ok_X5_isDigit w_654 rfl (Nat.le_of_ble_eq_true rfl) (Nat.le_of_ble_eq_true rfl) rfl dX5_step_177 (fun b21 σ20 h => ?_)
      refine AW.ifb_eq (tgt := 259) dX5_step_180 rfl (fun c => ?_) (fun c => ?_)
      · replace h := ite_f c h
        exact AW.vret rfl dX5_step_259 h
      · replace h := ite_t c h
        refine AW.aload_n dX5_step_183 0 rfl ?_
        refine AW.bipush (v := (10 : Int32)) dX5_step_184 rfl ?_
        refine AW.aload_n dX5_step_186 0 rfl ?_
        refine AW.get (k := 6) (v := .int (σ20 11 0 6)) (id0_11_0) rfl rfl inGX5 (Nat.le_of_ble_eq_true rfl) w_167 rfl dX5_step_187 ?_
        refine AW.imul dX5_step_190 ?_
        refine AW.aload_n dX5_step_191 0 rfl ?_
        refine AW.get (k := 0) (v := .ref (gad g 10 0)) (id0_11_0) rfl rfl inGX5 (Nat.le_of_ble_eq_true rfl) w_161 rfl dX5_step_192 ?_
        refine AW.aload_n dX5_step_195 0 rfl ?_
        refine AW.get (k := 5) (v := .int (σ20 11 0 5)) (id0_11_0) rfl rfl inGX5 (Nat.le_of_ble_eq_true rfl) w_166 rfl dX5_step_196 ?_
        obtain ⟨hq22, h⟩ := h
        refine AW.iald (jn := ((σ20 11 0 5).toNatClampNeg)) (id0_10_0) rfl hq22 rfl dX5_step_199 ?_
        refine AW.iadd dX5_step_200 ?_
        refine AW.bipush (v := (48 : Int32)) dX5_step_201 rfl ?_
        refine AW.isub dX5_step_203 ?_
        refine AW.sipush (v := (1000 : Int32)) dX5_step_204 rfl ?_
        refine AW.mmin w_657 w_506 w_10 w_507 (Nat.le_of_ble_eq_true rfl) (Nat.le_of_ble_eq_true rfl) dX5_step_207 ?_
        refine AW.put (k := 6) (w := (if (1000 : Int32) < ((((10 : Int32) * (σ20 11 0 6)) + (σ20 10 0 ((σ20 11 0 5).toNatClampNeg))) - (48 : Int32)) then (1000 : Int32) else ((((10 : Int32) * (σ20 11 0 6)) + (σ20 10 0 ((σ20 11 0 5).toNatClampNeg))) - (48 : Int32)))) (id0_11_0) rfl rfl inGX5 tyX5_ok nmX5 (Nat.le_of_ble_eq_true rfl) w_167 rfl rfl rfl rfl (Nat.le_of_ble_eq_true rfl) rfl dX5_step_210 ?_
        obtain ⟨σ23, eσ23, h⟩ := h
        rw [← eσ23]
        refine AW.aload_n dX5_step_213 0 rfl ?_
        refine AW.dup dX5_step_214 rfl ?_
        refine AW.get (k := 5) (v := .int (σ23 11 0 5)) (id0_11_0) rfl rfl inGX5 (Nat.le_of_ble_eq_true rfl) w_166 rfl dX5_step_215 ?_
        refine AW.iconst (v := (1 : Int32)) dX5_step_218 rfl ?_
        refine AW.iadd dX5_step_219 ?_
        refine AW.put (k := 5) (w := ((σ23 11 0 5) + (1 : Int32))) (id0_11_0) rfl rfl inGX5 tyX5_ok nmX5 (Nat.le_of_ble_eq_true rfl) w_166 rfl rfl rfl rfl (Nat.le_of_ble_eq_true rfl) rfl dX5_step_220 ?_
        obtain ⟨σ24, eσ24, h⟩ := h
        rw [← eσ24]
        refine AW.goto (tgt := 157) dX5_step_223 rfl ?_
        exact ih _ h
set_option maxRecDepth 100000 in
def f_X5_step_93 (K : Mm → Prop) : Nat → Mm → Prop
  | 0, _ => False
  | n + 1, σ => (if (σ 11 0 2) ≤ (σ 11 0 5) then (K σ) else (vp_in (σ 11 0 5) 120 ∧ (f_X5_isLetter (σ 10 0 ((σ 11 0 5).toNatClampNeg)) σ (fun b28 σ27 => (if b28 = true then (∃ σ29, σ29 = mset σ27 11 0 5 ((σ27 11 0 5) + (1 : Int32)) ∧ (f_X5_step_93 K n σ29)) else (K σ27))))))
set_option maxRecDepth 100000 in
set_option maxHeartbeats 4000000 in
theorem T_X5_step_93 {g : GG} {K : Mm → Prop} : ∀ (n : Nat) (σ : Mm), f_X5_step_93 K n σ → AW g 0 M_X5_step (QV g 0 K) 93 [(0, .ref (gad g 11 0))] [] σ := by
  intro n
  induction n with
  | zero => intro σ h; exact False.elim h
  | succ n ih =>
    intro σ h
    rw [f_X5_step_93] at h
    refine AW.aload_n dX5_step_93 0 rfl ?_
    refine AW.get (k := 5) (v := .int (σ 11 0 5)) (id0_11_0) rfl rfl inGX5 (Nat.le_of_ble_eq_true rfl) w_166 rfl dX5_step_94 ?_
    refine AW.aload_n dX5_step_97 0 rfl ?_
    refine AW.get (k := 2) (v := .int (σ 11 0 2)) (id0_11_0) rfl rfl inGX5 (Nat.le_of_ble_eq_true rfl) w_163 rfl dX5_step_98 ?_
    refine AW.icmp_ge (tgt := 259) dX5_step_101 rfl (fun c => ?_) (fun c => ?_)
    · replace h := ite_t c h
      exact AW.vret rfl dX5_step_259 h
    · replace h := ite_f c h
      refine AW.aload_n dX5_step_104 0 rfl ?_
      refine AW.get (k := 0) (v := .ref (gad g 10 0)) (id0_11_0) rfl rfl inGX5 (Nat.le_of_ble_eq_true rfl) w_161 rfl dX5_step_105 ?_
      refine AW.aload_n dX5_step_108 0 rfl ?_
      refine AW.get (k := 5) (v := .int (σ 11 0 5)) (id0_11_0) rfl rfl inGX5 (Nat.le_of_ble_eq_true rfl) w_166 rfl dX5_step_109 ?_
      obtain ⟨hq26, h⟩ := h
      refine AW.iald (jn := ((σ 11 0 5).toNatClampNeg)) (id0_10_0) rfl hq26 rfl dX5_step_112 ?_
      refine AW.callSB [.int (σ 10 0 ((σ 11 0 5).toNatClampNeg))] (C_X5_isLetter h) ok_X5_isLetter w_651 rfl (Nat.le_of_ble_eq_true rfl) (Nat.le_of_ble_eq_true rfl) rfl dX5_step_113 (fun b28 σ27 h => ?_)
      refine AW.ifb_eq (tgt := 259) dX5_step_116 rfl (fun c => ?_) (fun c => ?_)
      · replace h := ite_f c h
        exact AW.vret rfl dX5_step_259 h
      · replace h := ite_t c h
        refine AW.aload_n dX5_step_119 0 rfl ?_
        refine AW.dup dX5_step_120 rfl ?_
        refine AW.get (k := 5) (v := .int (σ27 11 0 5)) (id0_11_0) rfl rfl inGX5 (Nat.le_of_ble_eq_true rfl) w_166 rfl dX5_step_121 ?_
        refine AW.iconst (v := (1 : Int32)) dX5_step_124 rfl ?_
        refine AW.iadd dX5_step_125 ?_
        refine AW.put (k := 5) (w := ((σ27 11 0 5) + (1 : Int32))) (id0_11_0) rfl rfl inGX5 tyX5_ok nmX5 (Nat.le_of_ble_eq_true rfl) w_166 rfl rfl rfl rfl (Nat.le_of_ble_eq_true rfl) rfl dX5_step_126 ?_
        obtain ⟨σ29, eσ29, h⟩ := h
        rw [← eσ29]
        refine AW.goto (tgt := 93) dX5_step_129 rfl ?_
        exact ih _ h
def f_X5_step_46 (K : Mm → Prop) (σ : Mm) : Prop := (∃ σ5, σ5 = mset σ 11 0 5 (σ 11 0 4) ∧ (if (σ5 11 0 4) < (σ5 11 0 2) then (vp_in (σ5 11 0 4) 120 ∧ (f_X5_isLetter (σ5 10 0 ((σ5 11 0 4).toNatClampNeg)) σ5 (fun b8 σ7 => (if b8 = true then (∃ σ25, σ25 = mset σ7 11 0 3 (1 : Int32) ∧ (∃ m, f_X5_step_93 K m σ25)) else (vp_in (σ7 11 0 4) 120 ∧ (f_X5_isDigit (σ7 10 0 ((σ7 11 0 4).toNatClampNeg)) σ7 (fun b11 σ10 => (if b11 = true then (∃ σ17, σ17 = mset σ10 11 0 3 (2 : Int32) ∧ (∃ σ18, σ18 = mset σ17 11 0 6 (0 : Int32) ∧ (∃ m, f_X5_step_157 K m σ18))) else (vp_in (σ10 11 0 4) 120 ∧ (if (σ10 10 0 ((σ10 11 0 4).toNatClampNeg)) = (59 : Int32) then (∃ σ15, σ15 = mset σ10 11 0 3 (3 : Int32) ∧ (∃ σ16, σ16 = mset σ15 11 0 5 ((σ15 11 0 5) + (1 : Int32)) ∧ (K σ16))) else (∃ σ13, σ13 = mset σ10 11 0 3 (4 : Int32) ∧ (∃ σ14, σ14 = mset σ13 11 0 5 ((σ13 11 0 5) + (1 : Int32)) ∧ (K σ14))))))))))))) else (∃ σ30, σ30 = mset σ5 11 0 3 (0 : Int32) ∧ (K σ30))))
set_option maxRecDepth 100000 in
set_option maxHeartbeats 4000000 in
theorem T_X5_step_46 {g : GG} {K : Mm → Prop} {σ : Mm} (h : f_X5_step_46 K σ) : AW g 0 M_X5_step (QV g 0 K) 46 [(0, .ref (gad g 11 0))] [] σ := by
  unfold f_X5_step_46 at h
  refine AW.aload_n dX5_step_46 0 rfl ?_
  refine AW.aload_n dX5_step_47 0 rfl ?_
  refine AW.get (k := 4) (v := .int (σ 11 0 4)) (id0_11_0) rfl rfl inGX5 (Nat.le_of_ble_eq_true rfl) w_165 rfl dX5_step_48 ?_
  refine AW.put (k := 5) (w := (σ 11 0 4)) (id0_11_0) rfl rfl inGX5 tyX5_ok nmX5 (Nat.le_of_ble_eq_true rfl) w_166 rfl rfl rfl rfl (Nat.le_of_ble_eq_true rfl) rfl dX5_step_51 ?_
  obtain ⟨σ5, eσ5, h⟩ := h
  rw [← eσ5]
  refine AW.aload_n dX5_step_54 0 rfl ?_
  refine AW.get (k := 4) (v := .int (σ5 11 0 4)) (id0_11_0) rfl rfl inGX5 (Nat.le_of_ble_eq_true rfl) w_165 rfl dX5_step_55 ?_
  refine AW.aload_n dX5_step_58 0 rfl ?_
  refine AW.get (k := 2) (v := .int (σ5 11 0 2)) (id0_11_0) rfl rfl inGX5 (Nat.le_of_ble_eq_true rfl) w_163 rfl dX5_step_59 ?_
  refine AW.icmp_lt (tgt := 73) dX5_step_62 rfl (fun c => ?_) (fun c => ?_)
  · replace h := ite_t c h
    refine AW.aload_n dX5_step_73 0 rfl ?_
    refine AW.get (k := 0) (v := .ref (gad g 10 0)) (id0_11_0) rfl rfl inGX5 (Nat.le_of_ble_eq_true rfl) w_161 rfl dX5_step_74 ?_
    refine AW.aload_n dX5_step_77 0 rfl ?_
    refine AW.get (k := 4) (v := .int (σ5 11 0 4)) (id0_11_0) rfl rfl inGX5 (Nat.le_of_ble_eq_true rfl) w_165 rfl dX5_step_78 ?_
    obtain ⟨hq6, h⟩ := h
    refine AW.iald (jn := ((σ5 11 0 4).toNatClampNeg)) (id0_10_0) rfl hq6 rfl dX5_step_81 ?_
    refine AW.callSB [.int (σ5 10 0 ((σ5 11 0 4).toNatClampNeg))] (C_X5_isLetter h) ok_X5_isLetter w_651 rfl (Nat.le_of_ble_eq_true rfl) (Nat.le_of_ble_eq_true rfl) rfl dX5_step_82 (fun b8 σ7 h => ?_)
    refine AW.ifb_eq (tgt := 132) dX5_step_85 rfl (fun c => ?_) (fun c => ?_)
    · replace h := ite_f c h
      refine AW.aload_n dX5_step_132 0 rfl ?_
      refine AW.get (k := 0) (v := .ref (gad g 10 0)) (id0_11_0) rfl rfl inGX5 (Nat.le_of_ble_eq_true rfl) w_161 rfl dX5_step_133 ?_
      refine AW.aload_n dX5_step_136 0 rfl ?_
      refine AW.get (k := 4) (v := .int (σ7 11 0 4)) (id0_11_0) rfl rfl inGX5 (Nat.le_of_ble_eq_true rfl) w_165 rfl dX5_step_137 ?_
      obtain ⟨hq9, h⟩ := h
      refine AW.iald (jn := ((σ7 11 0 4).toNatClampNeg)) (id0_10_0) rfl hq9 rfl dX5_step_140 ?_
      refine AW.callSB [.int (σ7 10 0 ((σ7 11 0 4).toNatClampNeg))] (C_X5_isDigit h) ok_X5_isDigit w_654 rfl (Nat.le_of_ble_eq_true rfl) (Nat.le_of_ble_eq_true rfl) rfl dX5_step_141 (fun b11 σ10 h => ?_)
      refine AW.ifb_eq (tgt := 226) dX5_step_144 rfl (fun c => ?_) (fun c => ?_)
      · replace h := ite_f c h
        refine AW.aload_n dX5_step_226 0 rfl ?_
        refine AW.aload_n dX5_step_227 0 rfl ?_
        refine AW.get (k := 0) (v := .ref (gad g 10 0)) (id0_11_0) rfl rfl inGX5 (Nat.le_of_ble_eq_true rfl) w_161 rfl dX5_step_228 ?_
        refine AW.aload_n dX5_step_231 0 rfl ?_
        refine AW.get (k := 4) (v := .int (σ10 11 0 4)) (id0_11_0) rfl rfl inGX5 (Nat.le_of_ble_eq_true rfl) w_165 rfl dX5_step_232 ?_
        obtain ⟨hq12, h⟩ := h
        refine AW.iald (jn := ((σ10 11 0 4).toNatClampNeg)) (id0_10_0) rfl hq12 rfl dX5_step_235 ?_
        refine AW.bipush (v := (59 : Int32)) dX5_step_236 rfl ?_
        refine AW.icmp_ne (tgt := 245) dX5_step_238 rfl (fun c => ?_) (fun c => ?_)
        · replace h := ite_f c h
          refine AW.iconst (v := (4 : Int32)) dX5_step_245 rfl ?_
          refine AW.put (k := 3) (w := (4 : Int32)) (id0_11_0) rfl rfl inGX5 tyX5_ok nmX5 (Nat.le_of_ble_eq_true rfl) w_164 rfl rfl rfl rfl (Nat.le_of_ble_eq_true rfl) rfl dX5_step_246 ?_
          obtain ⟨σ13, eσ13, h⟩ := h
          rw [← eσ13]
          refine AW.aload_n dX5_step_249 0 rfl ?_
          refine AW.dup dX5_step_250 rfl ?_
          refine AW.get (k := 5) (v := .int (σ13 11 0 5)) (id0_11_0) rfl rfl inGX5 (Nat.le_of_ble_eq_true rfl) w_166 rfl dX5_step_251 ?_
          refine AW.iconst (v := (1 : Int32)) dX5_step_254 rfl ?_
          refine AW.iadd dX5_step_255 ?_
          refine AW.put (k := 5) (w := ((σ13 11 0 5) + (1 : Int32))) (id0_11_0) rfl rfl inGX5 tyX5_ok nmX5 (Nat.le_of_ble_eq_true rfl) w_166 rfl rfl rfl rfl (Nat.le_of_ble_eq_true rfl) rfl dX5_step_256 ?_
          obtain ⟨σ14, eσ14, h⟩ := h
          rw [← eσ14]
          exact AW.vret rfl dX5_step_259 h
        · replace h := ite_t c h
          refine AW.iconst (v := (3 : Int32)) dX5_step_241 rfl ?_
          refine AW.goto (tgt := 246) dX5_step_242 rfl ?_
          refine AW.put (k := 3) (w := (3 : Int32)) (id0_11_0) rfl rfl inGX5 tyX5_ok nmX5 (Nat.le_of_ble_eq_true rfl) w_164 rfl rfl rfl rfl (Nat.le_of_ble_eq_true rfl) rfl dX5_step_246 ?_
          obtain ⟨σ15, eσ15, h⟩ := h
          rw [← eσ15]
          refine AW.aload_n dX5_step_249 0 rfl ?_
          refine AW.dup dX5_step_250 rfl ?_
          refine AW.get (k := 5) (v := .int (σ15 11 0 5)) (id0_11_0) rfl rfl inGX5 (Nat.le_of_ble_eq_true rfl) w_166 rfl dX5_step_251 ?_
          refine AW.iconst (v := (1 : Int32)) dX5_step_254 rfl ?_
          refine AW.iadd dX5_step_255 ?_
          refine AW.put (k := 5) (w := ((σ15 11 0 5) + (1 : Int32))) (id0_11_0) rfl rfl inGX5 tyX5_ok nmX5 (Nat.le_of_ble_eq_true rfl) w_166 rfl rfl rfl rfl (Nat.le_of_ble_eq_true rfl) rfl dX5_step_256 ?_
          obtain ⟨σ16, eσ16, h⟩ := h
          rw [← eσ16]
          exact AW.vret rfl dX5_step_259 h
      · replace h := ite_t c h
        refine AW.aload_n dX5_step_147 0 rfl ?_
        refine AW.iconst (v := (2 : Int32)) dX5_step_148 rfl ?_
        refine AW.put (k := 3) (w := (2 : Int32)) (id0_11_0) rfl rfl inGX5 tyX5_ok nmX5 (Nat.le_of_ble_eq_true rfl) w_164 rfl rfl rfl rfl (Nat.le_of_ble_eq_true rfl) rfl dX5_step_149 ?_
        obtain ⟨σ17, eσ17, h⟩ := h
        rw [← eσ17]
        refine AW.aload_n dX5_step_152 0 rfl ?_
        refine AW.iconst (v := (0 : Int32)) dX5_step_153 rfl ?_
        refine AW.put (k := 6) (w := (0 : Int32)) (id0_11_0) rfl rfl inGX5 tyX5_ok nmX5 (Nat.le_of_ble_eq_true rfl) w_167 rfl rfl rfl rfl (Nat.le_of_ble_eq_true rfl) rfl dX5_step_154 ?_
        obtain ⟨σ18, eσ18, h⟩ := h
        rw [← eσ18]
        obtain ⟨m, h⟩ := h
        refine T_X5_step_157 m _ h
    · replace h := ite_t c h
      refine AW.aload_n dX5_step_88 0 rfl ?_
      refine AW.iconst (v := (1 : Int32)) dX5_step_89 rfl ?_
      refine AW.put (k := 3) (w := (1 : Int32)) (id0_11_0) rfl rfl inGX5 tyX5_ok nmX5 (Nat.le_of_ble_eq_true rfl) w_164 rfl rfl rfl rfl (Nat.le_of_ble_eq_true rfl) rfl dX5_step_90 ?_
      obtain ⟨σ25, eσ25, h⟩ := h
      rw [← eσ25]
      obtain ⟨m, h⟩ := h
      refine T_X5_step_93 m _ h
  · replace h := ite_f c h
    refine AW.aload_n dX5_step_65 0 rfl ?_
    refine AW.iconst (v := (0 : Int32)) dX5_step_66 rfl ?_
    refine AW.put (k := 3) (w := (0 : Int32)) (id0_11_0) rfl rfl inGX5 tyX5_ok nmX5 (Nat.le_of_ble_eq_true rfl) w_164 rfl rfl rfl rfl (Nat.le_of_ble_eq_true rfl) rfl dX5_step_67 ?_
    obtain ⟨σ30, eσ30, h⟩ := h
    rw [← eσ30]
    refine AW.goto (tgt := 259) dX5_step_70 rfl ?_
    exact AW.vret rfl dX5_step_259 h
def f_X5_step (σ : Mm) (K : Mm → Prop) : Prop := (∃ σ1, σ1 = mset σ 11 0 4 (σ 11 0 5) ∧ (∃ m, f_X5_step_8 K (fun σ4 => (f_X5_step_46 K σ4)) m σ1))
set_option maxRecDepth 100000 in
set_option maxHeartbeats 4000000 in
theorem C_X5_step {g : GG} {σ : Mm} {K : Mm → Prop} (h : f_X5_step σ K) : Ct g 0 M_X5_step (QV g 0 K) [.ref (gad g 11 0)] σ := by
  unfold f_X5_step at h
  refine Ct.of (L := [(0, .ref (gad g 11 0))]) (show plainName RX5 = true by decide) (Nat.le_of_ble_eq_true rfl) rfl ?_
  refine AW.aload_n dX5_step_0 0 rfl ?_
  refine AW.aload_n dX5_step_1 0 rfl ?_
  refine AW.get (k := 5) (v := .int (σ 11 0 5)) (id0_11_0) rfl rfl inGX5 (Nat.le_of_ble_eq_true rfl) w_166 rfl dX5_step_2 ?_
  refine AW.put (k := 4) (w := (σ 11 0 5)) (id0_11_0) rfl rfl inGX5 tyX5_ok nmX5 (Nat.le_of_ble_eq_true rfl) w_165 rfl rfl rfl rfl (Nat.le_of_ble_eq_true rfl) rfl dX5_step_5 ?_
  obtain ⟨σ1, eσ1, h⟩ := h
  rw [← eσ1]
  obtain ⟨m, h⟩ := h
  refine T_X5_step_8 (fun σ4 h => ?_) m _ h
  exact T_X5_step_46 h
theorem ok_X5_step : OkV M_X5_step 0 := ⟨w_649, wp_16, w_7, w_650, by decide +kernel, (Nat.le_of_ble_eq_true rfl)⟩
def M_J0_coder_7d493 : MT := (yJ0_coder_7d493, cJ0_coder_7d493, 1, some .byte, 1)
def f_J0_coder_7d493 (i0 : Nat) (σ : Mm) (K : Int32 → Mm → Prop) : Prop := (i0 < 13 ∧ (narrow .byte (.int (0 : Int32)) = .int (0 : Int32) ∧ K (0 : Int32) σ))
set_option maxRecDepth 100000 in
set_option maxHeartbeats 4000000 in
theorem C_J0_coder_7d493 {g : GG} {i0 : Nat} {σ : Mm} {K : Int32 → Mm → Prop} (h : f_J0_coder_7d493 i0 σ K) : Ct g 0 M_J0_coder_7d493 (QI g 0 K) [.ref (gaK g i0)] σ := by
  unfold f_J0_coder_7d493 at h
  obtain ⟨hi0, h⟩ := h
  refine Ct.of (L := [(0, .ref (gaK g i0))]) (show plainName RJ0 = true by decide) (Nat.le_of_ble_eq_true rfl) rfl ?_
  refine AW.getsC w_675 dJ0_coder_7d493_0 ?_
  refine AW.if_eq (tgt := 13) dJ0_coder_7d493_3 rfl (fun c => absurd c (by decide)) (fun _ => ?_)
  refine AW.aload_n dJ0_coder_7d493_6 0 rfl ?_
  refine AW.scod hi0 w_1381 dJ0_coder_7d493_7 ?_
  refine AW.goto (tgt := 14) dJ0_coder_7d493_10 rfl ?_
  obtain ⟨hn1, h⟩ := h
  exact AW.nret rfl hn1 dJ0_coder_7d493_14 h
theorem ok_J0_coder_7d493 : OkV M_J0_coder_7d493 0 := ⟨w_672, w_673, w_13, w_674, by decide +kernel, (Nat.le_of_ble_eq_true rfl)⟩
def M_J0_length_8abf5 : MT := (yJ0_length_8abf5, cJ0_length_8abf5, 1, some .int, 2)
def f_J0_length_8abf5 (i0 : Nat) (σ : Mm) (K : Int32 → Mm → Prop) : Prop := (i0 < 13 ∧ (f_J0_coder_7d493 i0 σ (fun r2 σ1 => (K ((Int32.ofNat (strLn.getD i0 0)) >>> (r2 &&& 31)) σ1))))
set_option maxRecDepth 100000 in
set_option maxHeartbeats 4000000 in
theorem C_J0_length_8abf5 {g : GG} {i0 : Nat} {σ : Mm} {K : Int32 → Mm → Prop} (h : f_J0_length_8abf5 i0 σ K) : Ct g 0 M_J0_length_8abf5 (QI g 0 K) [.ref (gaK g i0)] σ := by
  unfold f_J0_length_8abf5 at h
  obtain ⟨hi0, h⟩ := h
  refine Ct.of (L := [(0, .ref (gaK g i0))]) (show plainName RJ0 = true by decide) (Nat.le_of_ble_eq_true rfl) rfl ?_
  refine AW.aload_n dJ0_length_8abf5_0 0 rfl ?_
  refine AW.sval hi0 w_1380 dJ0_length_8abf5_1 ?_
  refine AW.slen hi0 dJ0_length_8abf5_4 ?_
  refine AW.aload_n dJ0_length_8abf5_5 0 rfl ?_
  refine AW.callStrI [] (C_J0_coder_7d493 h) ok_J0_coder_7d493 hi0 w_671 rfl (Nat.le_of_ble_eq_true rfl) (Nat.le_of_ble_eq_true rfl) rfl dJ0_length_8abf5_6 rfl (fun r2 σ1 h => ?_)
  refine AW.ishr dJ0_length_8abf5_9 ?_
  exact AW.iret rfl dJ0_length_8abf5_10 h
theorem ok_J0_length_8abf5 : OkV M_J0_length_8abf5 0 := ⟨w_668, w_669, w_13, w_670, by decide +kernel, (Nat.le_of_ble_eq_true rfl)⟩
def M_J0_isLatin1_aae02 : MT := (yJ0_isLatin1_aae02, cJ0_isLatin1_aae02, 1, some .boolean, 1)
def f_J0_isLatin1_aae02 (i0 : Nat) (σ : Mm) (K : Bool → Mm → Prop) : Prop := (i0 < 13 ∧ (K true σ))
set_option maxRecDepth 100000 in
set_option maxHeartbeats 4000000 in
theorem C_J0_isLatin1_aae02 {g : GG} {i0 : Nat} {σ : Mm} {K : Bool → Mm → Prop} (h : f_J0_isLatin1_aae02 i0 σ K) : Ct g 0 M_J0_isLatin1_aae02 (QB g 0 K) [.ref (gaK g i0)] σ := by
  unfold f_J0_isLatin1_aae02 at h
  obtain ⟨hi0, h⟩ := h
  refine Ct.of (L := [(0, .ref (gaK g i0))]) (show plainName RJ0 = true by decide) (Nat.le_of_ble_eq_true rfl) rfl ?_
  refine AW.getsC w_675 dJ0_isLatin1_aae02_0 ?_
  refine AW.if_eq (tgt := 17) dJ0_isLatin1_aae02_3 rfl (fun c => absurd c (by decide)) (fun _ => ?_)
  refine AW.aload_n dJ0_isLatin1_aae02_6 0 rfl ?_
  refine AW.scod hi0 w_1381 dJ0_isLatin1_aae02_7 ?_
  refine AW.if_ne (tgt := 17) dJ0_isLatin1_aae02_10 rfl (fun c => absurd c (by decide)) (fun _ => ?_)
  refine AW.iconst (v := (1 : Int32)) dJ0_isLatin1_aae02_13 rfl ?_
  refine AW.goto (tgt := 18) dJ0_isLatin1_aae02_14 rfl ?_
  exact AW.bret true rfl rfl dJ0_isLatin1_aae02_18 h
theorem ok_J0_isLatin1_aae02 : OkV M_J0_isLatin1_aae02 0 := ⟨w_682, w_683, w_13, w_684, by decide +kernel, (Nat.le_of_ble_eq_true rfl)⟩
def M_J1_charAt_3b067_sby : MT := (yJ1_charAt_3b067, cJ1_charAt_3b067, 2, some .char, 3)
def f_J1_charAt_3b067_sby (i0 : Nat) (a1 : Int32) (σ : Mm) (K : Int32 → Mm → Prop) : Prop := (i0 < 13 ∧ (f_J0_checkIndex_df160 a1 (Int32.ofNat (strLn.getD i0 0)) σ (fun σ1 => (vp_in a1 (strLn.getD i0 0) ∧ (narrow .char (.int (((((strBy.getD i0 []).getD (a1.toNatClampNeg) 0) &&& (255 : Int32))).toUInt32.toUInt16.toUInt32.toInt32)) = .int (((((strBy.getD i0 []).getD (a1.toNatClampNeg) 0) &&& (255 : Int32))).toUInt32.toUInt16.toUInt32.toInt32) ∧ K (((((strBy.getD i0 []).getD (a1.toNatClampNeg) 0) &&& (255 : Int32))).toUInt32.toUInt16.toUInt32.toInt32) σ1)))))
set_option maxRecDepth 100000 in
set_option maxHeartbeats 4000000 in
theorem C_J1_charAt_3b067_sby {g : GG} {i0 : Nat} {a1 : Int32} {σ : Mm} {K : Int32 → Mm → Prop} (h : f_J1_charAt_3b067_sby i0 a1 σ K) : Ct g 0 M_J1_charAt_3b067_sby (QI g 0 K) [.ref (gaV g i0), .int a1] σ := by
  unfold f_J1_charAt_3b067_sby at h
  obtain ⟨hi0, h⟩ := h
  refine Ct.of (L := [(0, .ref (gaV g i0)), (1, .int a1)]) (show plainName RJ1 = true by decide) (Nat.le_of_ble_eq_true rfl) rfl ?_
  refine AW.iload_n dJ1_charAt_3b067_0 1 rfl ?_
  refine AW.aload_n dJ1_charAt_3b067_1 0 rfl ?_
  refine AW.slen hi0 dJ1_charAt_3b067_2 ?_
  refine AW.callSV [.int a1, .int (Int32.ofNat (strLn.getD i0 0))] (C_J0_checkIndex_df160 h) ok_J0_checkIndex_df160 w_688 rfl (Nat.le_of_ble_eq_true rfl) (Nat.le_of_ble_eq_true rfl) rfl dJ1_charAt_3b067_3 (fun σ1 h => ?_)
  refine AW.aload_n dJ1_charAt_3b067_6 0 rfl ?_
  refine AW.iload_n dJ1_charAt_3b067_7 1 rfl ?_
  obtain ⟨hq2, h⟩ := h
  refine AW.sbald hi0 hq2 dJ1_charAt_3b067_8 ?_
  refine AW.sipush (v := (255 : Int32)) dJ1_charAt_3b067_9 rfl ?_
  refine AW.iand dJ1_charAt_3b067_12 ?_
  refine AW.i2c dJ1_charAt_3b067_13 ?_
  obtain ⟨hn3, h⟩ := h
  exact AW.nret rfl hn3 dJ1_charAt_3b067_14 h
theorem ok_J1_charAt_3b067_sby : OkS M_J1_charAt_3b067_sby 2 := ⟨w_686, w_14, w_687, by decide +kernel, (Nat.le_of_ble_eq_true rfl)⟩
def M_J0_charAt_5068e : MT := (yJ0_charAt_5068e, cJ0_charAt_5068e, 2, some .char, 4)
def f_J0_charAt_5068e (i0 : Nat) (a1 : Int32) (σ : Mm) (K : Int32 → Mm → Prop) : Prop := (i0 < 13 ∧ (f_J0_isLatin1_aae02 i0 σ (fun b2 σ1 => (if b2 = true then (f_J1_charAt_3b067_sby i0 a1 σ1 (fun r4 σ3 => (narrow .char (.int r4) = .int r4 ∧ K r4 σ3))) else False))))
set_option maxRecDepth 100000 in
set_option maxHeartbeats 4000000 in
theorem C_J0_charAt_5068e {g : GG} {i0 : Nat} {a1 : Int32} {σ : Mm} {K : Int32 → Mm → Prop} (h : f_J0_charAt_5068e i0 a1 σ K) : Ct g 0 M_J0_charAt_5068e (QI g 0 K) [.ref (gaK g i0), .int a1] σ := by
  unfold f_J0_charAt_5068e at h
  obtain ⟨hi0, h⟩ := h
  refine Ct.of (L := [(0, .ref (gaK g i0)), (1, .int a1)]) (show plainName RJ0 = true by decide) (Nat.le_of_ble_eq_true rfl) rfl ?_
  refine AW.aload_n dJ0_charAt_5068e_0 0 rfl ?_
  refine AW.callStrB [] (C_J0_isLatin1_aae02 h) ok_J0_isLatin1_aae02 hi0 w_681 rfl (Nat.le_of_ble_eq_true rfl) (Nat.le_of_ble_eq_true rfl) rfl dJ0_charAt_5068e_1 rfl (fun b2 σ1 h => ?_)
  refine AW.ifb_eq (tgt := 16) dJ0_charAt_5068e_4 rfl (fun c => ?_) (fun c => ?_)
  · replace h := ite_f c h
    refine AW.aload_n dJ0_charAt_5068e_16 0 rfl ?_
    refine AW.sval hi0 w_1380 dJ0_charAt_5068e_17 ?_
    refine AW.iload_n dJ0_charAt_5068e_20 1 rfl ?_
    exact False.elim h
  · replace h := ite_t c h
    refine AW.aload_n dJ0_charAt_5068e_7 0 rfl ?_
    refine AW.sval hi0 w_1380 dJ0_charAt_5068e_8 ?_
    refine AW.iload_n dJ0_charAt_5068e_11 1 rfl ?_
    refine AW.callSI [.ref (gaV g i0), .int a1] (C_J1_charAt_3b067_sby h) ok_J1_charAt_3b067_sby w_685 rfl (Nat.le_of_ble_eq_true rfl) (Nat.le_of_ble_eq_true rfl) rfl dJ0_charAt_5068e_12 (fun r4 σ3 h => ?_)
    obtain ⟨hn5, h⟩ := h
    exact AW.nret rfl hn5 dJ0_charAt_5068e_15 h
theorem ok_J0_charAt_5068e : OkV M_J0_charAt_5068e 1 := ⟨w_678, w_679, w_13, w_680, by decide +kernel, (Nat.le_of_ble_eq_true rfl)⟩
def M_X5_isWord : MT := (yX5_isWord, cX5_isWord, 3, some .boolean, 5)
set_option maxRecDepth 100000 in
def f_X5_isWord_28 (i1 : Nat) (K : Bool → Mm → Prop) : Nat → Int32 → Mm → Prop
  | 0, _, _ => False
  | n + 1, a2, σ => (f_J0_length_8abf5 i1 σ (fun r4 σ3 => (if r4 ≤ a2 then (K true σ3) else (vp_in ((σ3 11 0 4) + a2) 120 ∧ (f_J0_charAt_5068e i1 a2 σ3 (fun r7 σ6 => (if (σ3 10 0 (((σ3 11 0 4) + a2).toNatClampNeg)) = r7 then (f_X5_isWord_28 i1 K n (a2 + (1 : Int32)) σ6) else (K false σ6))))))))
set_option maxRecDepth 100000 in
set_option maxHeartbeats 4000000 in
theorem T_X5_isWord_28 {g : GG} {i1 : Nat} {K : Bool → Mm → Prop} (hi1 : i1 < 13) : ∀ (n : Nat) (a2 : Int32) (σ : Mm), f_X5_isWord_28 i1 K n a2 σ → AW g 0 M_X5_isWord (QB g 0 K) 28 [(0, .ref (gad g 11 0)), (1, .ref (gaK g i1)), (2, .int a2)] [] σ := by
  intro n
  induction n with
  | zero => intro a2 σ h; exact False.elim h
  | succ n ih =>
    intro a2 σ h
    rw [f_X5_isWord_28] at h
    refine AW.iload_n dX5_isWord_28 2 rfl ?_
    refine AW.aload_n dX5_isWord_29 1 rfl ?_
    refine AW.callStrI [] (C_J0_length_8abf5 h) ok_J0_length_8abf5 hi1 w_667 rfl (Nat.le_of_ble_eq_true rfl) (Nat.le_of_ble_eq_true rfl) rfl dX5_isWord_30 rfl (fun r4 σ3 h => ?_)
    refine AW.icmp_ge (tgt := 63) dX5_isWord_33 rfl (fun c => ?_) (fun c => ?_)
    · replace h := ite_t c h
      refine AW.iconst (v := (1 : Int32)) dX5_isWord_63 rfl ?_
      exact AW.bret true rfl rfl dX5_isWord_64 h
    · replace h := ite_f c h
      refine AW.aload_n dX5_isWord_36 0 rfl ?_
      refine AW.get (k := 0) (v := .ref (gad g 10 0)) (id0_11_0) rfl rfl inGX5 (Nat.le_of_ble_eq_true rfl) w_161 rfl dX5_isWord_37 ?_
      refine AW.aload_n dX5_isWord_40 0 rfl ?_
      refine AW.get (k := 4) (v := .int (σ3 11 0 4)) (id0_11_0) rfl rfl inGX5 (Nat.le_of_ble_eq_true rfl) w_165 rfl dX5_isWord_41 ?_
      refine AW.iload_n dX5_isWord_44 2 rfl ?_
      refine AW.iadd dX5_isWord_45 ?_
      obtain ⟨hq5, h⟩ := h
      refine AW.iald (jn := (((σ3 11 0 4) + a2).toNatClampNeg)) (id0_10_0) rfl hq5 rfl dX5_isWord_46 ?_
      refine AW.aload_n dX5_isWord_47 1 rfl ?_
      refine AW.iload_n dX5_isWord_48 2 rfl ?_
      refine AW.callStrI [.int a2] (C_J0_charAt_5068e h) ok_J0_charAt_5068e hi1 w_677 rfl (Nat.le_of_ble_eq_true rfl) (Nat.le_of_ble_eq_true rfl) rfl dX5_isWord_49 rfl (fun r7 σ6 h => ?_)
      refine AW.icmp_eq (tgt := 57) dX5_isWord_52 rfl (fun c => ?_) (fun c => ?_)
      · replace h := ite_t c h
        refine AW.iinc (v := (a2 + (1 : Int32))) (L' := [(0, .ref (gad g 11 0)), (1, .ref (gaK g i1)), (2, .int (a2 + (1 : Int32)))]) dX5_isWord_57 2 rfl rfl (Nat.le_of_ble_eq_true rfl) rfl ?_
        refine AW.goto (tgt := 28) dX5_isWord_60 rfl ?_
        exact ih _ _ h
      · replace h := ite_f c h
        refine AW.iconst (v := (0 : Int32)) dX5_isWord_55 rfl ?_
        exact AW.bret false rfl rfl dX5_isWord_56 h
def f_X5_isWord (i1 : Nat) (σ : Mm) (K : Bool → Mm → Prop) : Prop := (i1 < 13 ∧ (if (σ 11 0 3) = (1 : Int32) then (f_J0_length_8abf5 i1 σ (fun r2 σ1 => (if r2 = ((σ1 11 0 5) - (σ1 11 0 4)) then (∃ m, f_X5_isWord_28 i1 K m (0 : Int32) σ1) else (K false σ1)))) else (K false σ)))
set_option maxRecDepth 100000 in
set_option maxHeartbeats 4000000 in
theorem C_X5_isWord {g : GG} {i1 : Nat} {σ : Mm} {K : Bool → Mm → Prop} (h : f_X5_isWord i1 σ K) : Ct g 0 M_X5_isWord (QB g 0 K) [.ref (gad g 11 0), .ref (gaK g i1)] σ := by
  unfold f_X5_isWord at h
  obtain ⟨hi1, h⟩ := h
  refine Ct.of (L := [(0, .ref (gad g 11 0)), (1, .ref (gaK g i1))]) (show plainName RX5 = true by decide) (Nat.le_of_ble_eq_true rfl) rfl ?_
  refine AW.aload_n dX5_isWord_0 0 rfl ?_
  refine AW.get (k := 3) (v := .int (σ 11 0 3)) (id0_11_0) rfl rfl inGX5 (Nat.le_of_ble_eq_true rfl) w_164 rfl dX5_isWord_1 ?_
  refine AW.iconst (v := (1 : Int32)) dX5_isWord_4 rfl ?_
  refine AW.icmp_ne (tgt := 24) dX5_isWord_5 rfl (fun c => ?_) (fun c => ?_)
  · replace h := ite_f c h
    refine AW.iconst (v := (0 : Int32)) dX5_isWord_24 rfl ?_
    exact AW.bret false rfl rfl dX5_isWord_25 h
  · replace h := ite_t c h
    refine AW.aload_n dX5_isWord_8 1 rfl ?_
    refine AW.callStrI [] (C_J0_length_8abf5 h) ok_J0_length_8abf5 hi1 w_667 rfl (Nat.le_of_ble_eq_true rfl) (Nat.le_of_ble_eq_true rfl) rfl dX5_isWord_9 rfl (fun r2 σ1 h => ?_)
    refine AW.aload_n dX5_isWord_12 0 rfl ?_
    refine AW.get (k := 5) (v := .int (σ1 11 0 5)) (id0_11_0) rfl rfl inGX5 (Nat.le_of_ble_eq_true rfl) w_166 rfl dX5_isWord_13 ?_
    refine AW.aload_n dX5_isWord_16 0 rfl ?_
    refine AW.get (k := 4) (v := .int (σ1 11 0 4)) (id0_11_0) rfl rfl inGX5 (Nat.le_of_ble_eq_true rfl) w_165 rfl dX5_isWord_17 ?_
    refine AW.isub dX5_isWord_20 ?_
    refine AW.icmp_eq (tgt := 26) dX5_isWord_21 rfl (fun c => ?_) (fun c => ?_)
    · replace h := ite_t c h
      refine AW.iconst (v := (0 : Int32)) dX5_isWord_26 rfl ?_
      refine AW.istore_n (L' := [(0, .ref (gad g 11 0)), (1, .ref (gaK g i1)), (2, .int (0 : Int32))]) dX5_isWord_27 (Nat.le_of_ble_eq_true rfl) rfl ?_
      obtain ⟨m, h⟩ := h
      refine T_X5_isWord_28 hi1 m _ _ h
    · replace h := ite_f c h
      refine AW.iconst (v := (0 : Int32)) dX5_isWord_24 rfl ?_
      exact AW.bret false rfl rfl dX5_isWord_25 h
theorem ok_X5_isWord : OkV M_X5_isWord 1 := ⟨w_665, wp_18, w_7, w_666, by decide +kernel, (Nat.le_of_ble_eq_true rfl)⟩
def M_X5_wordOf : MT := (yX5_wordOf, cX5_wordOf, 1, some (.object "java/lang/String"), 1)
def f_X5_wordOf (a0 : Int32) (σ : Mm) (K : Nat → Mm → Prop) : Prop := (if a0 = (0 : Int32) then (K 4 σ) else (if a0 = (1 : Int32) then (K 5 σ) else (if a0 = (2 : Int32) then (K 6 σ) else (if a0 = (3 : Int32) then (K 7 σ) else (if a0 = (4 : Int32) then (K 8 σ) else (if a0 = (5 : Int32) then (K 9 σ) else (K 10 σ)))))))
set_option maxRecDepth 100000 in
set_option maxHeartbeats 4000000 in
theorem C_X5_wordOf {g : GG} {a0 : Int32} {σ : Mm} {K : Nat → Mm → Prop} (h : f_X5_wordOf a0 σ K) : Ct g 0 M_X5_wordOf (QS g 0 K) [.int a0] σ := by
  unfold f_X5_wordOf at h
  refine Ct.of (L := [(0, .int a0)]) (show plainName RX5 = true by decide) (Nat.le_of_ble_eq_true rfl) rfl ?_
  refine AW.iload_n dX5_wordOf_0 0 rfl ?_
  by_cases c0 : a0 = (0 : Int32)
  · replace h := ite_t c0 h
    refine AW.tswIn (tgt := 40) (0 : Int32) dX5_wordOf_1 c0 (by decide) (by decide) rfl rfl ?_
    refine AW.ldcS (tx := "bench") (n := 4) dX5_wordOf_40 (by decide) ?_
    exact AW.sret (Nat.le_of_ble_eq_true rfl) rfl dX5_wordOf_42 h
  · replace h := ite_f c0 h
    by_cases c1 : a0 = (1 : Int32)
    · replace h := ite_t c1 h
      refine AW.tswIn (tgt := 43) (1 : Int32) dX5_wordOf_1 c1 (by decide) (by decide) rfl rfl ?_
      refine AW.ldcS (tx := "pew") (n := 5) dX5_wordOf_43 (by decide) ?_
      exact AW.sret (Nat.le_of_ble_eq_true rfl) rfl dX5_wordOf_45 h
    · replace h := ite_f c1 h
      by_cases c2 : a0 = (2 : Int32)
      · replace h := ite_t c2 h
        refine AW.tswIn (tgt := 46) (2 : Int32) dX5_wordOf_1 c2 (by decide) (by decide) rfl rfl ?_
        refine AW.ldcS (tx := "ring") (n := 6) dX5_wordOf_46 (by decide) ?_
        exact AW.sret (Nat.le_of_ble_eq_true rfl) rfl dX5_wordOf_48 h
      · replace h := ite_f c2 h
        by_cases c3 : a0 = (3 : Int32)
        · replace h := ite_t c3 h
          refine AW.tswIn (tgt := 49) (3 : Int32) dX5_wordOf_1 c3 (by decide) (by decide) rfl rfl ?_
          refine AW.ldcS (tx := "boat") (n := 7) dX5_wordOf_49 (by decide) ?_
          exact AW.sret (Nat.le_of_ble_eq_true rfl) rfl dX5_wordOf_51 h
        · replace h := ite_f c3 h
          by_cases c4 : a0 = (4 : Int32)
          · replace h := ite_t c4 h
            refine AW.tswIn (tgt := 52) (4 : Int32) dX5_wordOf_1 c4 (by decide) (by decide) rfl rfl ?_
            refine AW.ldcS (tx := "bed") (n := 8) dX5_wordOf_52 (by decide) ?_
            exact AW.sret (Nat.le_of_ble_eq_true rfl) rfl dX5_wordOf_54 h
          · replace h := ite_f c4 h
            by_cases c5 : a0 = (5 : Int32)
            · replace h := ite_t c5 h
              refine AW.tswIn (tgt := 55) (5 : Int32) dX5_wordOf_1 c5 (by decide) (by decide) rfl rfl ?_
              refine AW.ldcS (tx := "table") (n := 9) dX5_wordOf_55 (by decide) ?_
              exact AW.sret (Nat.le_of_ble_eq_true rfl) rfl dX5_wordOf_57 h
            · replace h := ite_f c5 h
              refine AW.tswOut (tgt := 58) dX5_wordOf_1 (tsw_out fun k h1 h2 => ?_) rfl ?_
              · rcases (show k = 0 ∨ k = 1 ∨ k = 2 ∨ k = 3 ∨ k = 4 ∨ k = 5 by omega) with rfl | rfl | rfl | rfl | rfl | rfl
                all_goals assumption
              · refine AW.ldcS (tx := "raft") (n := 10) dX5_wordOf_58 (by decide) ?_
                exact AW.sret (Nat.le_of_ble_eq_true rfl) rfl dX5_wordOf_60 h
theorem ok_X5_wordOf : OkS M_X5_wordOf 1 := ⟨w_736, w_7, w_737, by decide +kernel, (Nat.le_of_ble_eq_true rfl)⟩
def M_X5_isNumber : MT := (yX5_isNumber, cX5_isNumber, 3, some .boolean, 1)
def f_X5_isNumber (a1 : Int32) (a2 : Int32) (σ : Mm) (K : Bool → Mm → Prop) : Prop := (if (σ 11 0 3) = (2 : Int32) then (if (σ 11 0 6) < a1 then (K false σ) else (if a2 < (σ 11 0 6) then (K false σ) else (K true σ))) else (K false σ))
set_option maxRecDepth 100000 in
set_option maxHeartbeats 4000000 in
theorem C_X5_isNumber {g : GG} {a1 : Int32} {a2 : Int32} {σ : Mm} {K : Bool → Mm → Prop} (h : f_X5_isNumber a1 a2 σ K) : Ct g 0 M_X5_isNumber (QB g 0 K) [.ref (gad g 11 0), .int a1, .int a2] σ := by
  unfold f_X5_isNumber at h
  refine Ct.of (L := [(0, .ref (gad g 11 0)), (1, .int a1), (2, .int a2)]) (show plainName RX5 = true by decide) (Nat.le_of_ble_eq_true rfl) rfl ?_
  refine AW.aload_n dX5_isNumber_0 0 rfl ?_
  refine AW.get (k := 3) (v := .int (σ 11 0 3)) (id0_11_0) rfl rfl inGX5 (Nat.le_of_ble_eq_true rfl) w_164 rfl dX5_isNumber_1 ?_
  refine AW.iconst (v := (2 : Int32)) dX5_isNumber_4 rfl ?_
  refine AW.icmp_ne (tgt := 28) dX5_isNumber_5 rfl (fun c => ?_) (fun c => ?_)
  · replace h := ite_f c h
    refine AW.iconst (v := (0 : Int32)) dX5_isNumber_28 rfl ?_
    exact AW.bret false rfl rfl dX5_isNumber_29 h
  · replace h := ite_t c h
    refine AW.aload_n dX5_isNumber_8 0 rfl ?_
    refine AW.get (k := 6) (v := .int (σ 11 0 6)) (id0_11_0) rfl rfl inGX5 (Nat.le_of_ble_eq_true rfl) w_167 rfl dX5_isNumber_9 ?_
    refine AW.iload_n dX5_isNumber_12 1 rfl ?_
    refine AW.icmp_lt (tgt := 28) dX5_isNumber_13 rfl (fun c => ?_) (fun c => ?_)
    · replace h := ite_t c h
      refine AW.iconst (v := (0 : Int32)) dX5_isNumber_28 rfl ?_
      exact AW.bret false rfl rfl dX5_isNumber_29 h
    · replace h := ite_f c h
      refine AW.aload_n dX5_isNumber_16 0 rfl ?_
      refine AW.get (k := 6) (v := .int (σ 11 0 6)) (id0_11_0) rfl rfl inGX5 (Nat.le_of_ble_eq_true rfl) w_167 rfl dX5_isNumber_17 ?_
      refine AW.iload_n dX5_isNumber_20 2 rfl ?_
      refine AW.icmp_gt (tgt := 28) dX5_isNumber_21 rfl (fun c => ?_) (fun c => ?_)
      · replace h := ite_t c h
        refine AW.iconst (v := (0 : Int32)) dX5_isNumber_28 rfl ?_
        exact AW.bret false rfl rfl dX5_isNumber_29 h
      · replace h := ite_f c h
        refine AW.iconst (v := (1 : Int32)) dX5_isNumber_24 rfl ?_
        refine AW.goto (tgt := 29) dX5_isNumber_25 rfl ?_
        exact AW.bret true rfl rfl dX5_isNumber_29 h
theorem ok_X5_isNumber : OkV M_X5_isNumber 2 := ⟨w_721, wp_20, w_7, w_722, by decide +kernel, (Nat.le_of_ble_eq_true rfl)⟩
def M_X5_takeSitters : MT := (yX5_takeSitters, cX5_takeSitters, 3, some .boolean, 3)
def f_X5_takeSitters_96 (a1 : Int32) (a2 : Int32) (K : Bool → Mm → Prop) (k16 : Int32 → Mm → Prop) (σ : Mm) : Prop := (f_X5_step σ (fun σ6 => (k16 (a2 + (1 : Int32)) σ6)))
set_option maxRecDepth 100000 in
set_option maxHeartbeats 4000000 in
theorem T_X5_takeSitters_96 {g : GG} {a1 : Int32} {a2 : Int32} {K : Bool → Mm → Prop} {k16 : Int32 → Mm → Prop} {σ : Mm} (hk16 : ∀ (x2 : Int32) (u : Mm), k16 x2 u → AW g 0 M_X5_takeSitters (QB g 0 K) 16 [(0, .ref (gad g 11 0)), (1, .int a1), (2, .int x2)] [] u) (h : f_X5_takeSitters_96 a1 a2 K k16 σ) : AW g 0 M_X5_takeSitters (QB g 0 K) 96 [(0, .ref (gad g 11 0)), (1, .int a1), (2, .int a2)] [] σ := by
  unfold f_X5_takeSitters_96 at h
  refine AW.aload_n dX5_takeSitters_96 0 rfl ?_
  refine AW.callVV [] (C_X5_step h) ok_X5_step (id0_11_0) rfl rfl w_647 rfl (Nat.le_of_ble_eq_true rfl) (Nat.le_of_ble_eq_true rfl) rfl dX5_takeSitters_97 (fun σ6 h => ?_)
  refine AW.iinc (v := (a2 + (1 : Int32))) (L' := [(0, .ref (gad g 11 0)), (1, .int a1), (2, .int (a2 + (1 : Int32)))]) dX5_takeSitters_100 2 rfl rfl (Nat.le_of_ble_eq_true rfl) rfl ?_
  refine AW.goto (tgt := 16) dX5_takeSitters_103 rfl ?_
  exact hk16 _ _ h
set_option maxRecDepth 100000 in
def f_X5_takeSitters_16 (a1 : Int32) (K : Bool → Mm → Prop) : Nat → Int32 → Mm → Prop
  | 0, _, _ => False
  | n + 1, a2, σ => (vp_in a1 5 ∧ ((5 * 2 + a1.toNatClampNeg) < 17 ∧ (if (σ 0 (5 * 2 + a1.toNatClampNeg) 1) ≤ a2 then (K true σ) else (if (σ 11 0 3) = (2 : Int32) then (f_X5_isNumber (0 : Int32) (8 : Int32) σ (fun b5 σ4 => (if b5 = true then (if (σ4 11 0 6) = (8 : Int32) then (f_X5_takeSitters_96 a1 a2 K (f_X5_takeSitters_16 a1 K n) σ4) else (f_X2_benchWith 2 (σ4 11 0 6) σ4 (fun r8 σ7 => (if r8 = (-1 : Int32) then (vp_in a1 5 ∧ (vp_in a2 8 ∧ (∃ σ11, σ11 = mset σ7 1 (5 * 2 + a1.toNatClampNeg) (a2.toNatClampNeg) (σ7 11 0 6) ∧ (f_X5_takeSitters_96 a1 a2 K (f_X5_takeSitters_16 a1 K n) σ11)))) else (K false σ7))))) else (K false σ4)))) else (K true σ)))))
set_option maxRecDepth 100000 in
set_option maxHeartbeats 4000000 in
theorem T_X5_takeSitters_16 {g : GG} {a1 : Int32} {K : Bool → Mm → Prop} : ∀ (n : Nat) (a2 : Int32) (σ : Mm), f_X5_takeSitters_16 a1 K n a2 σ → AW g 0 M_X5_takeSitters (QB g 0 K) 16 [(0, .ref (gad g 11 0)), (1, .int a1), (2, .int a2)] [] σ := by
  intro n
  induction n with
  | zero => intro a2 σ h; exact False.elim h
  | succ n ih =>
    intro a2 σ h
    rw [f_X5_takeSitters_16] at h
    refine AW.iload_n dX5_takeSitters_16 2 rfl ?_
    refine AW.aload_n dX5_takeSitters_17 0 rfl ?_
    refine AW.get (k := 1) (v := .ref (gad g 5 2)) (id0_11_0) rfl rfl inGX5 (Nat.le_of_ble_eq_true rfl) w_162 rfl dX5_takeSitters_18 ?_
    refine AW.get (k := 1) (v := .ref (gad g 6 2)) (id0_5_2) rfl rfl inGX2 (Nat.le_of_ble_eq_true rfl) w_97 rfl dX5_takeSitters_21 ?_
    refine AW.iload_n dX5_takeSitters_24 1 rfl ?_
    obtain ⟨hq2, h⟩ := h
    obtain ⟨hv3, h⟩ := h
    refine AW.aald (a' := gad g 0 (5 * 2 + a1.toNatClampNeg)) (ty := 1) (id0_6_2) rfl rfl rfl hq2 dX5_takeSitters_25 ?_
    refine AW.get (k := 1) (v := .int (σ 0 (5 * 2 + a1.toNatClampNeg) 1)) (ids_in (Nat.le_of_ble_eq_true rfl) hv3) rfl rfl inGX0 (Nat.le_of_ble_eq_true rfl) w_77 rfl dX5_takeSitters_26 ?_
    refine AW.icmp_ge (tgt := 106) dX5_takeSitters_29 rfl (fun c => ?_) (fun c => ?_)
    · replace h := ite_t c h
      refine AW.iconst (v := (1 : Int32)) dX5_takeSitters_106 rfl ?_
      exact AW.bret true rfl rfl dX5_takeSitters_107 h
    · replace h := ite_f c h
      refine AW.aload_n dX5_takeSitters_32 0 rfl ?_
      refine AW.get (k := 3) (v := .int (σ 11 0 3)) (id0_11_0) rfl rfl inGX5 (Nat.le_of_ble_eq_true rfl) w_164 rfl dX5_takeSitters_33 ?_
      refine AW.iconst (v := (2 : Int32)) dX5_takeSitters_36 rfl ?_
      refine AW.icmp_ne (tgt := 106) dX5_takeSitters_37 rfl (fun c => ?_) (fun c => ?_)
      · replace h := ite_f c h
        refine AW.iconst (v := (1 : Int32)) dX5_takeSitters_106 rfl ?_
        exact AW.bret true rfl rfl dX5_takeSitters_107 h
      · replace h := ite_t c h
        refine AW.aload_n dX5_takeSitters_40 0 rfl ?_
        refine AW.iconst (v := (0 : Int32)) dX5_takeSitters_41 rfl ?_
        refine AW.bipush (v := (8 : Int32)) dX5_takeSitters_42 rfl ?_
        refine AW.callVB [.int (0 : Int32), .int (8 : Int32)] (C_X5_isNumber h) ok_X5_isNumber (id0_11_0) rfl rfl w_719 rfl (Nat.le_of_ble_eq_true rfl) (Nat.le_of_ble_eq_true rfl) rfl dX5_takeSitters_44 (fun b5 σ4 h => ?_)
        refine AW.ifb_ne (tgt := 52) dX5_takeSitters_47 rfl (fun c => ?_) (fun c => ?_)
        · replace h := ite_t c h
          refine AW.aload_n dX5_takeSitters_52 0 rfl ?_
          refine AW.get (k := 6) (v := .int (σ4 11 0 6)) (id0_11_0) rfl rfl inGX5 (Nat.le_of_ble_eq_true rfl) w_167 rfl dX5_takeSitters_53 ?_
          refine AW.bipush (v := (8 : Int32)) dX5_takeSitters_56 rfl ?_
          refine AW.icmp_eq (tgt := 96) dX5_takeSitters_58 rfl (fun c => ?_) (fun c => ?_)
          · replace h := ite_t c h
            exact T_X5_takeSitters_96 ih h
          · replace h := ite_f c h
            refine AW.aload_n dX5_takeSitters_61 0 rfl ?_
            refine AW.get (k := 1) (v := .ref (gad g 5 2)) (id0_11_0) rfl rfl inGX5 (Nat.le_of_ble_eq_true rfl) w_162 rfl dX5_takeSitters_62 ?_
            refine AW.aload_n dX5_takeSitters_65 0 rfl ?_
            refine AW.get (k := 6) (v := .int (σ4 11 0 6)) (id0_11_0) rfl rfl inGX5 (Nat.le_of_ble_eq_true rfl) w_167 rfl dX5_takeSitters_66 ?_
            refine AW.callVI [.int (σ4 11 0 6)] (C_X2_benchWith h) ok_X2_benchWith (id0_5_2) rfl rfl w_756 rfl (Nat.le_of_ble_eq_true rfl) (Nat.le_of_ble_eq_true rfl) rfl dX5_takeSitters_69 (fun r8 σ7 h => ?_)
            refine AW.iconst (v := (-1 : Int32)) dX5_takeSitters_72 rfl ?_
            refine AW.icmp_eq (tgt := 78) dX5_takeSitters_73 rfl (fun c => ?_) (fun c => ?_)
            · replace h := ite_t c h
              refine AW.aload_n dX5_takeSitters_78 0 rfl ?_
              refine AW.get (k := 1) (v := .ref (gad g 5 2)) (id0_11_0) rfl rfl inGX5 (Nat.le_of_ble_eq_true rfl) w_162 rfl dX5_takeSitters_79 ?_
              refine AW.get (k := 1) (v := .ref (gad g 6 2)) (id0_5_2) rfl rfl inGX2 (Nat.le_of_ble_eq_true rfl) w_97 rfl dX5_takeSitters_82 ?_
              refine AW.iload_n dX5_takeSitters_85 1 rfl ?_
              obtain ⟨hq9, h⟩ := h
              refine AW.aald (a' := gad g 0 (5 * 2 + a1.toNatClampNeg)) (ty := 1) (id0_6_2) rfl rfl rfl hq9 dX5_takeSitters_86 ?_
              refine AW.get (k := 2) (v := .ref (gad g 1 (5 * 2 + a1.toNatClampNeg))) (ids_in (Nat.le_of_ble_eq_true rfl) hv3) rfl rfl inGX0 (Nat.le_of_ble_eq_true rfl) w_83 rfl dX5_takeSitters_87 ?_
              refine AW.iload_n dX5_takeSitters_90 2 rfl ?_
              refine AW.aload_n dX5_takeSitters_91 0 rfl ?_
              refine AW.get (k := 6) (v := .int (σ7 11 0 6)) (id0_11_0) rfl rfl inGX5 (Nat.le_of_ble_eq_true rfl) w_167 rfl dX5_takeSitters_92 ?_
              obtain ⟨hq10, h⟩ := h
              refine AW.iast (jn := (a2.toNatClampNeg)) (ids_in (Nat.le_of_ble_eq_true rfl) hv3) (fun _ => rfl) hq10 rfl dX5_takeSitters_95 ?_
              obtain ⟨σ11, eσ11, h⟩ := h
              rw [← eσ11]
              exact T_X5_takeSitters_96 ih h
            · replace h := ite_f c h
              refine AW.iconst (v := (0 : Int32)) dX5_takeSitters_76 rfl ?_
              exact AW.bret false rfl rfl dX5_takeSitters_77 h
        · replace h := ite_f c h
          refine AW.iconst (v := (0 : Int32)) dX5_takeSitters_50 rfl ?_
          exact AW.bret false rfl rfl dX5_takeSitters_51 h
def f_X5_takeSitters (a1 : Int32) (σ : Mm) (K : Bool → Mm → Prop) : Prop := (f_X5_step σ (fun σ1 => (if (σ1 11 0 3) = (2 : Int32) then (∃ m, f_X5_takeSitters_16 a1 K m (0 : Int32) σ1) else (K false σ1))))
set_option maxRecDepth 100000 in
set_option maxHeartbeats 4000000 in
theorem C_X5_takeSitters {g : GG} {a1 : Int32} {σ : Mm} {K : Bool → Mm → Prop} (h : f_X5_takeSitters a1 σ K) : Ct g 0 M_X5_takeSitters (QB g 0 K) [.ref (gad g 11 0), .int a1] σ := by
  unfold f_X5_takeSitters at h
  refine Ct.of (L := [(0, .ref (gad g 11 0)), (1, .int a1)]) (show plainName RX5 = true by decide) (Nat.le_of_ble_eq_true rfl) rfl ?_
  refine AW.aload_n dX5_takeSitters_0 0 rfl ?_
  refine AW.callVV [] (C_X5_step h) ok_X5_step (id0_11_0) rfl rfl w_647 rfl (Nat.le_of_ble_eq_true rfl) (Nat.le_of_ble_eq_true rfl) rfl dX5_takeSitters_1 (fun σ1 h => ?_)
  refine AW.aload_n dX5_takeSitters_4 0 rfl ?_
  refine AW.get (k := 3) (v := .int (σ1 11 0 3)) (id0_11_0) rfl rfl inGX5 (Nat.le_of_ble_eq_true rfl) w_164 rfl dX5_takeSitters_5 ?_
  refine AW.iconst (v := (2 : Int32)) dX5_takeSitters_8 rfl ?_
  refine AW.icmp_eq (tgt := 14) dX5_takeSitters_9 rfl (fun c => ?_) (fun c => ?_)
  · replace h := ite_t c h
    refine AW.iconst (v := (0 : Int32)) dX5_takeSitters_14 rfl ?_
    refine AW.istore_n (L' := [(0, .ref (gad g 11 0)), (1, .int a1), (2, .int (0 : Int32))]) dX5_takeSitters_15 (Nat.le_of_ble_eq_true rfl) rfl ?_
    obtain ⟨m, h⟩ := h
    refine T_X5_takeSitters_16 m _ _ h
  · replace h := ite_f c h
    refine AW.iconst (v := (0 : Int32)) dX5_takeSitters_12 rfl ?_
    exact AW.bret false rfl rfl dX5_takeSitters_13 h
theorem ok_X5_takeSitters : OkV M_X5_takeSitters 1 := ⟨w_754, wp_24, w_7, w_755, by decide +kernel, (Nat.le_of_ble_eq_true rfl)⟩
