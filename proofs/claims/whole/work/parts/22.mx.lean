def M_X6_sit : MT := (yX6_sit, cX6_sit, 4, some .int, 5)
def f_X6_sit (a1 : Int32) (a2 : Int32) (a3 : Int32) (σ : Mm) (K : Int32 → Mm → Prop) : Prop := (f_X6_isPerson a1 σ (fun b2 σ1 => (if b2 = true then (f_X6_isSeat a2 a3 σ1 (fun b6 σ5 => (if b6 = true then (f_X2_isTakenByAnother 0 a2 a3 a1 σ5 (fun b8 σ7 => (if b8 = true then (f_X6_finding (4 : Int32) σ7 (fun r15 σ14 => (K r15 σ14))) else (f_X2_putDown 0 a1 a2 a3 σ7 (fun σ9 => (vp_in a2 5 ∧ ((5 * 0 + a2.toNatClampNeg) < 17 ∧ (f_X1_holds 0 (5 * 0 + a2.toNatClampNeg) σ9 (fun b13 σ12 => (if b13 = true then (K (1 : Int32) σ12) else (K (0 : Int32) σ12))))))))))) else (f_X6_finding (0 : Int32) σ5 (fun r17 σ16 => (K r17 σ16)))))) else (f_X6_finding (0 : Int32) σ1 (fun r4 σ3 => (K r4 σ3))))))
set_option maxRecDepth 100000 in
set_option maxHeartbeats 4000000 in
theorem C_X6_sit {g : GG} {a1 : Int32} {a2 : Int32} {a3 : Int32} {σ : Mm} {K : Int32 → Mm → Prop} (h : f_X6_sit a1 a2 a3 σ K) : Ct g 0 M_X6_sit (QI g 0 K) [.ref (gad g 16 0), .int a1, .int a2, .int a3] σ := by
  unfold f_X6_sit at h
  refine Ct.of (L := [(0, .ref (gad g 16 0)), (1, .int a1), (2, .int a2), (3, .int a3)]) (show plainName RX6 = true by decide) (Nat.le_of_ble_eq_true rfl) rfl ?_
  refine AW.iload_n dX6_sit_0 1 rfl ?_
  refine AW.callSB [.int a1] (C_X6_isPerson h) ok_X6_isPerson w_244 rfl (Nat.le_of_ble_eq_true rfl) (Nat.le_of_ble_eq_true rfl) rfl dX6_sit_1 (fun b2 σ1 h => ?_)
  refine AW.ifb_eq (tgt := 16) dX6_sit_4 rfl (fun c => ?_) (fun c => ?_)
  · replace h := ite_f c h
    refine AW.aload_n dX6_sit_16 0 rfl ?_
    refine AW.iconst (v := (0 : Int32)) dX6_sit_17 rfl ?_
    refine AW.callVI [.int (0 : Int32)] (C_X6_finding h) ok_X6_finding (id0_16_0) rfl rfl w_247 rfl (Nat.le_of_ble_eq_true rfl) (Nat.le_of_ble_eq_true rfl) rfl dX6_sit_18 (fun r4 σ3 h => ?_)
    exact AW.iret rfl dX6_sit_21 h
  · replace h := ite_t c h
    refine AW.aload_n dX6_sit_7 0 rfl ?_
    refine AW.iload_n dX6_sit_8 2 rfl ?_
    refine AW.iload_n dX6_sit_9 3 rfl ?_
    refine AW.callVB [.int a2, .int a3] (C_X6_isSeat h) ok_X6_isSeat (id0_16_0) rfl rfl w_357 rfl (Nat.le_of_ble_eq_true rfl) (Nat.le_of_ble_eq_true rfl) rfl dX6_sit_10 (fun b6 σ5 h => ?_)
    refine AW.ifb_ne (tgt := 22) dX6_sit_13 rfl (fun c => ?_) (fun c => ?_)
    · replace h := ite_t c h
      refine AW.aload_n dX6_sit_22 0 rfl ?_
      refine AW.get (k := 0) (v := .ref (gad g 5 0)) (id0_16_0) rfl rfl inGX6 (Nat.le_of_ble_eq_true rfl) w_203 rfl dX6_sit_23 ?_
      refine AW.iload_n dX6_sit_26 2 rfl ?_
      refine AW.iload_n dX6_sit_27 3 rfl ?_
      refine AW.iload_n dX6_sit_28 1 rfl ?_
      refine AW.callVB [.int a2, .int a3, .int a1] (C_X2_isTakenByAnother h) ok_X2_isTakenByAnother (id0_5_0) rfl rfl w_375 rfl (Nat.le_of_ble_eq_true rfl) (Nat.le_of_ble_eq_true rfl) rfl dX6_sit_29 (fun b8 σ7 h => ?_)
      refine AW.ifb_eq (tgt := 41) dX6_sit_32 rfl (fun c => ?_) (fun c => ?_)
      · replace h := ite_f c h
        refine AW.aload_n dX6_sit_41 0 rfl ?_
        refine AW.get (k := 0) (v := .ref (gad g 5 0)) (id0_16_0) rfl rfl inGX6 (Nat.le_of_ble_eq_true rfl) w_203 rfl dX6_sit_42 ?_
        refine AW.iload_n dX6_sit_45 1 rfl ?_
        refine AW.iload_n dX6_sit_46 2 rfl ?_
        refine AW.iload_n dX6_sit_47 3 rfl ?_
        refine AW.callVV [.int a1, .int a2, .int a3] (C_X2_putDown h) ok_X2_putDown (id0_5_0) rfl rfl w_379 rfl (Nat.le_of_ble_eq_true rfl) (Nat.le_of_ble_eq_true rfl) rfl dX6_sit_48 (fun σ9 h => ?_)
        refine AW.aload_n dX6_sit_51 0 rfl ?_
        refine AW.get (k := 0) (v := .ref (gad g 5 0)) (id0_16_0) rfl rfl inGX6 (Nat.le_of_ble_eq_true rfl) w_203 rfl dX6_sit_52 ?_
        refine AW.get (k := 0) (v := .ref (gad g 2 0)) (id0_5_0) rfl rfl inGX2 (Nat.le_of_ble_eq_true rfl) w_93 rfl dX6_sit_55 ?_
        refine AW.aload_n dX6_sit_58 0 rfl ?_
        refine AW.get (k := 0) (v := .ref (gad g 5 0)) (id0_16_0) rfl rfl inGX6 (Nat.le_of_ble_eq_true rfl) w_203 rfl dX6_sit_59 ?_
        refine AW.get (k := 1) (v := .ref (gad g 6 0)) (id0_5_0) rfl rfl inGX2 (Nat.le_of_ble_eq_true rfl) w_96 rfl dX6_sit_62 ?_
        refine AW.iload_n dX6_sit_65 2 rfl ?_
        obtain ⟨hq10, h⟩ := h
        obtain ⟨hv11, h⟩ := h
        refine AW.aald (a' := gad g 0 (5 * 0 + a2.toNatClampNeg)) (ty := 1) (id0_6_0) rfl rfl rfl hq10 dX6_sit_66 ?_
        refine AW.callVB [.ref (gad g 0 (5 * 0 + a2.toNatClampNeg))] (C_X1_holds h) ok_X1_holds (id0_2_0) rfl rfl w_324 rfl (Nat.le_of_ble_eq_true rfl) (Nat.le_of_ble_eq_true rfl) rfl dX6_sit_67 (fun b13 σ12 h => ?_)
        refine AW.ifb_eq (tgt := 77) dX6_sit_70 rfl (fun c => ?_) (fun c => ?_)
        · replace h := ite_f c h
          refine AW.iconst (v := (0 : Int32)) dX6_sit_77 rfl ?_
          exact AW.iret rfl dX6_sit_78 h
        · replace h := ite_t c h
          refine AW.iconst (v := (1 : Int32)) dX6_sit_73 rfl ?_
          refine AW.goto (tgt := 78) dX6_sit_74 rfl ?_
          exact AW.iret rfl dX6_sit_78 h
      · replace h := ite_t c h
        refine AW.aload_n dX6_sit_35 0 rfl ?_
        refine AW.iconst (v := (4 : Int32)) dX6_sit_36 rfl ?_
        refine AW.callVI [.int (4 : Int32)] (C_X6_finding h) ok_X6_finding (id0_16_0) rfl rfl w_247 rfl (Nat.le_of_ble_eq_true rfl) (Nat.le_of_ble_eq_true rfl) rfl dX6_sit_37 (fun r15 σ14 h => ?_)
        exact AW.iret rfl dX6_sit_40 h
    · replace h := ite_f c h
      refine AW.aload_n dX6_sit_16 0 rfl ?_
      refine AW.iconst (v := (0 : Int32)) dX6_sit_17 rfl ?_
      refine AW.callVI [.int (0 : Int32)] (C_X6_finding h) ok_X6_finding (id0_16_0) rfl rfl w_247 rfl (Nat.le_of_ble_eq_true rfl) (Nat.le_of_ble_eq_true rfl) rfl dX6_sit_18 (fun r17 σ16 h => ?_)
      exact AW.iret rfl dX6_sit_21 h
theorem ok_X6_sit : OkV M_X6_sit 3 := ⟨w_372, w_373, w_1, w_374, by decide +kernel, (Nat.le_of_ble_eq_true rfl)⟩
def M_X6_rise : MT := (yX6_rise, cX6_rise, 2, some .int, 4)
def f_X6_rise (a1 : Int32) (σ : Mm) (K : Int32 → Mm → Prop) : Prop := (f_X6_isPerson a1 σ (fun b2 σ1 => (if b2 = true then (f_X2_lift 0 a1 σ1 (fun b4 σ3 => (if b4 = true then (K (1 : Int32) σ3) else (K (0 : Int32) σ3)))) else (f_X6_finding (0 : Int32) σ1 (fun r6 σ5 => (K r6 σ5))))))
set_option maxRecDepth 100000 in
set_option maxHeartbeats 4000000 in
theorem C_X6_rise {g : GG} {a1 : Int32} {σ : Mm} {K : Int32 → Mm → Prop} (h : f_X6_rise a1 σ K) : Ct g 0 M_X6_rise (QI g 0 K) [.ref (gad g 16 0), .int a1] σ := by
  unfold f_X6_rise at h
  refine Ct.of (L := [(0, .ref (gad g 16 0)), (1, .int a1)]) (show plainName RX6 = true by decide) (Nat.le_of_ble_eq_true rfl) rfl ?_
  refine AW.iload_n dX6_rise_0 1 rfl ?_
  refine AW.callSB [.int a1] (C_X6_isPerson h) ok_X6_isPerson w_244 rfl (Nat.le_of_ble_eq_true rfl) (Nat.le_of_ble_eq_true rfl) rfl dX6_rise_1 (fun b2 σ1 h => ?_)
  refine AW.ifb_ne (tgt := 13) dX6_rise_4 rfl (fun c => ?_) (fun c => ?_)
  · replace h := ite_t c h
    refine AW.aload_n dX6_rise_13 0 rfl ?_
    refine AW.get (k := 0) (v := .ref (gad g 5 0)) (id0_16_0) rfl rfl inGX6 (Nat.le_of_ble_eq_true rfl) w_203 rfl dX6_rise_14 ?_
    refine AW.iload_n dX6_rise_17 1 rfl ?_
    refine AW.callVB [.int a1] (C_X2_lift h) ok_X2_lift (id0_5_0) rfl rfl w_404 rfl (Nat.le_of_ble_eq_true rfl) (Nat.le_of_ble_eq_true rfl) rfl dX6_rise_18 (fun b4 σ3 h => ?_)
    refine AW.ifb_eq (tgt := 28) dX6_rise_21 rfl (fun c => ?_) (fun c => ?_)
    · replace h := ite_f c h
      refine AW.iconst (v := (0 : Int32)) dX6_rise_28 rfl ?_
      exact AW.iret rfl dX6_rise_29 h
    · replace h := ite_t c h
      refine AW.iconst (v := (1 : Int32)) dX6_rise_24 rfl ?_
      refine AW.goto (tgt := 29) dX6_rise_25 rfl ?_
      exact AW.iret rfl dX6_rise_29 h
  · replace h := ite_f c h
    refine AW.aload_n dX6_rise_7 0 rfl ?_
    refine AW.iconst (v := (0 : Int32)) dX6_rise_8 rfl ?_
    refine AW.callVI [.int (0 : Int32)] (C_X6_finding h) ok_X6_finding (id0_16_0) rfl rfl w_247 rfl (Nat.le_of_ble_eq_true rfl) (Nat.le_of_ble_eq_true rfl) rfl dX6_rise_9 (fun r6 σ5 h => ?_)
    exact AW.iret rfl dX6_rise_12 h
theorem ok_X6_rise : OkV M_X6_rise 1 := ⟨w_401, w_402, w_1, w_403, by decide +kernel, (Nat.le_of_ble_eq_true rfl)⟩
def M_X6_where : MT := (yX6_where, cX6_where, 3, some .int, 3)
def f_X6_where (a1 : Int32) (σ : Mm) (K : Int32 → Mm → Prop) : Prop := (f_X6_isPerson a1 σ (fun b2 σ1 => (if b2 = true then (f_X2_benchWith 0 a1 σ1 (fun r4 σ3 => (if r4 = (-1 : Int32) then (f_X6_finding (3 : Int32) σ3 (fun r10 σ9 => (K r10 σ9))) else (vp_in r4 5 ∧ ((5 * 0 + r4.toNatClampNeg) < 17 ∧ (f_X0_seatOf (5 * 0 + r4.toNatClampNeg) a1 σ3 (fun r8 σ7 => (K (((10 : Int32) * r4) + r8) σ7)))))))) else (f_X6_finding (0 : Int32) σ1 (fun r12 σ11 => (K r12 σ11))))))
set_option maxRecDepth 100000 in
set_option maxHeartbeats 4000000 in
theorem C_X6_where {g : GG} {a1 : Int32} {σ : Mm} {K : Int32 → Mm → Prop} (h : f_X6_where a1 σ K) : Ct g 0 M_X6_where (QI g 0 K) [.ref (gad g 16 0), .int a1] σ := by
  unfold f_X6_where at h
  refine Ct.of (L := [(0, .ref (gad g 16 0)), (1, .int a1)]) (show plainName RX6 = true by decide) (Nat.le_of_ble_eq_true rfl) rfl ?_
  refine AW.iload_n dX6_where_0 1 rfl ?_
  refine AW.callSB [.int a1] (C_X6_isPerson h) ok_X6_isPerson w_244 rfl (Nat.le_of_ble_eq_true rfl) (Nat.le_of_ble_eq_true rfl) rfl dX6_where_1 (fun b2 σ1 h => ?_)
  refine AW.ifb_ne (tgt := 13) dX6_where_4 rfl (fun c => ?_) (fun c => ?_)
  · replace h := ite_t c h
    refine AW.aload_n dX6_where_13 0 rfl ?_
    refine AW.get (k := 0) (v := .ref (gad g 5 0)) (id0_16_0) rfl rfl inGX6 (Nat.le_of_ble_eq_true rfl) w_203 rfl dX6_where_14 ?_
    refine AW.iload_n dX6_where_17 1 rfl ?_
    refine AW.callVI [.int a1] (C_X2_benchWith h) ok_X2_benchWith (id0_5_0) rfl rfl w_409 rfl (Nat.le_of_ble_eq_true rfl) (Nat.le_of_ble_eq_true rfl) rfl dX6_where_18 (fun r4 σ3 h => ?_)
    refine AW.istore_n (L' := [(0, .ref (gad g 16 0)), (1, .int a1), (2, .int r4)]) dX6_where_21 (Nat.le_of_ble_eq_true rfl) rfl ?_
    refine AW.iload_n dX6_where_22 2 rfl ?_
    refine AW.iconst (v := (-1 : Int32)) dX6_where_23 rfl ?_
    refine AW.icmp_ne (tgt := 33) dX6_where_24 rfl (fun c => ?_) (fun c => ?_)
    · replace h := ite_f c h
      refine AW.bipush (v := (10 : Int32)) dX6_where_33 rfl ?_
      refine AW.iload_n dX6_where_35 2 rfl ?_
      refine AW.imul dX6_where_36 ?_
      refine AW.aload_n dX6_where_37 0 rfl ?_
      refine AW.get (k := 0) (v := .ref (gad g 5 0)) (id0_16_0) rfl rfl inGX6 (Nat.le_of_ble_eq_true rfl) w_203 rfl dX6_where_38 ?_
      refine AW.get (k := 1) (v := .ref (gad g 6 0)) (id0_5_0) rfl rfl inGX2 (Nat.le_of_ble_eq_true rfl) w_96 rfl dX6_where_41 ?_
      refine AW.iload_n dX6_where_44 2 rfl ?_
      obtain ⟨hq5, h⟩ := h
      obtain ⟨hv6, h⟩ := h
      refine AW.aald (a' := gad g 0 (5 * 0 + r4.toNatClampNeg)) (ty := 1) (id0_6_0) rfl rfl rfl hq5 dX6_where_45 ?_
      refine AW.iload_n dX6_where_46 1 rfl ?_
      refine AW.callVI [.int a1] (C_X0_seatOf h) ok_X0_seatOf (ids_in (Nat.le_of_ble_eq_true rfl) hv6) rfl rfl w_410 rfl (Nat.le_of_ble_eq_true rfl) (Nat.le_of_ble_eq_true rfl) rfl dX6_where_47 (fun r8 σ7 h => ?_)
      refine AW.iadd dX6_where_50 ?_
      exact AW.iret rfl dX6_where_51 h
    · replace h := ite_t c h
      refine AW.aload_n dX6_where_27 0 rfl ?_
      refine AW.iconst (v := (3 : Int32)) dX6_where_28 rfl ?_
      refine AW.callVI [.int (3 : Int32)] (C_X6_finding h) ok_X6_finding (id0_16_0) rfl rfl w_247 rfl (Nat.le_of_ble_eq_true rfl) (Nat.le_of_ble_eq_true rfl) rfl dX6_where_29 (fun r10 σ9 h => ?_)
      exact AW.iret rfl dX6_where_32 h
  · replace h := ite_f c h
    refine AW.aload_n dX6_where_7 0 rfl ?_
    refine AW.iconst (v := (0 : Int32)) dX6_where_8 rfl ?_
    refine AW.callVI [.int (0 : Int32)] (C_X6_finding h) ok_X6_finding (id0_16_0) rfl rfl w_247 rfl (Nat.le_of_ble_eq_true rfl) (Nat.le_of_ble_eq_true rfl) rfl dX6_where_9 (fun r12 σ11 h => ?_)
    exact AW.iret rfl dX6_where_12 h
theorem ok_X6_where : OkV M_X6_where 1 := ⟨w_406, w_407, w_1, w_408, by decide +kernel, (Nat.le_of_ble_eq_true rfl)⟩
def M_X0_become : MT := (yX0_become, cX0_become, 2, none, 2)
def f_X0_become (i0 : Nat) (i1 : Nat) (σ : Mm) (K : Mm → Prop) : Prop := (i0 < 17 ∧ (i1 < 17 ∧ (∃ σ1, σ1 = mset σ 0 i0 0 (σ 0 i1 0) ∧ (∃ σ2, σ2 = mset σ1 0 i0 1 (σ1 0 i1 1) ∧ (∃ σ3, σ3 = mrow σ2 1 i0 (va_cpy (σ2 1 i1) (σ2 1 i0) (0 : Int32).toNatClampNeg (0 : Int32).toNatClampNeg (8 : Int32).toNatClampNeg) ∧ (K σ3))))))
set_option maxRecDepth 100000 in
set_option maxHeartbeats 4000000 in
theorem C_X0_become {g : GG} {i0 : Nat} {i1 : Nat} {σ : Mm} {K : Mm → Prop} (h : f_X0_become i0 i1 σ K) : Ct g 0 M_X0_become (QV g 0 K) [.ref (gad g 0 i0), .ref (gad g 0 i1)] σ := by
  unfold f_X0_become at h
  obtain ⟨hi0, h⟩ := h
  obtain ⟨hi1, h⟩ := h
  refine Ct.of (L := [(0, .ref (gad g 0 i0)), (1, .ref (gad g 0 i1))]) (show plainName RX0 = true by decide) (Nat.le_of_ble_eq_true rfl) rfl ?_
  refine AW.aload_n dX0_become_0 0 rfl ?_
  refine AW.aload_n dX0_become_1 1 rfl ?_
  refine AW.get (k := 0) (v := .int (σ 0 i1 0)) (ids_in (Nat.le_of_ble_eq_true rfl) hi1) rfl rfl inGX0 (Nat.le_of_ble_eq_true rfl) w_68 rfl dX0_become_2 ?_
  refine AW.put (k := 0) (w := (σ 0 i1 0)) (ids_in (Nat.le_of_ble_eq_true rfl) hi0) rfl rfl inGX0 tyX0_ok nmX0 (Nat.le_of_ble_eq_true rfl) w_68 rfl rfl rfl rfl (Nat.le_of_ble_eq_true rfl) rfl dX0_become_5 ?_
  obtain ⟨σ1, eσ1, h⟩ := h
  rw [← eσ1]
  refine AW.aload_n dX0_become_8 0 rfl ?_
  refine AW.aload_n dX0_become_9 1 rfl ?_
  refine AW.get (k := 1) (v := .int (σ1 0 i1 1)) (ids_in (Nat.le_of_ble_eq_true rfl) hi1) rfl rfl inGX0 (Nat.le_of_ble_eq_true rfl) w_72 rfl dX0_become_10 ?_
  refine AW.put (k := 1) (w := (σ1 0 i1 1)) (ids_in (Nat.le_of_ble_eq_true rfl) hi0) rfl rfl inGX0 tyX0_ok nmX0 (Nat.le_of_ble_eq_true rfl) w_72 rfl rfl rfl rfl (Nat.le_of_ble_eq_true rfl) rfl dX0_become_13 ?_
  obtain ⟨σ2, eσ2, h⟩ := h
  rw [← eσ2]
  refine AW.aload_n dX0_become_16 1 rfl ?_
  refine AW.get (k := 2) (v := .ref (gad g 1 i1)) (ids_in (Nat.le_of_ble_eq_true rfl) hi1) rfl rfl inGX0 (Nat.le_of_ble_eq_true rfl) w_78 rfl dX0_become_17 ?_
  refine AW.iconst (v := (0 : Int32)) dX0_become_20 rfl ?_
  refine AW.aload_n dX0_become_21 0 rfl ?_
  refine AW.get (k := 2) (v := .ref (gad g 1 i0)) (ids_in (Nat.le_of_ble_eq_true rfl) hi0) rfl rfl inGX0 (Nat.le_of_ble_eq_true rfl) w_78 rfl dX0_become_22 ?_
  refine AW.iconst (v := (0 : Int32)) dX0_become_25 rfl ?_
  refine AW.bipush (v := (8 : Int32)) dX0_become_26 rfl ?_
  refine AW.copy (ids_in (Nat.le_of_ble_eq_true rfl) hi1) rfl (ids_in (Nat.le_of_ble_eq_true rfl) hi0) (fun _ => rfl) w_423 w_425 w_424 w_11 (by decide) (by decide) (by decide) (by decide) (by decide) (Nat.le_of_ble_eq_true rfl) (Nat.le_of_ble_eq_true rfl) dX0_become_28 ?_
  obtain ⟨σ3, eσ3, h⟩ := h
  rw [← eσ3]
  exact AW.vret rfl dX0_become_31 h
theorem ok_X0_become : OkV M_X0_become 1 := ⟨w_420, w_421, w_5, w_422, by decide +kernel, (Nat.le_of_ble_eq_true rfl)⟩
def M_X1_seatsFor : MT := (yX1_seatsFor, cX1_seatsFor, 5, some .int, 5)
set_option maxRecDepth 100000 in
def f_X1_seatsFor_5 (i0 : Nat) (a1 : Int32) (i2 : Nat) (K : Int32 → Mm → Prop) : Nat → Int32 → Int32 → Mm → Prop
  | 0, _, _, _ => False
  | n + 1, a3, a4, σ => (if (σ 0 i2 1) ≤ a4 then (K a3 σ) else (vp_in a4 8 ∧ (if (σ 1 i2 (a4.toNatClampNeg)) = (-1 : Int32) then (vp_in a4 8 ∧ (∃ σ3, σ3 = mset σ 1 i2 (a4.toNatClampNeg) a1 ∧ (f_X1_holds i0 i2 σ3 (fun b5 σ4 => (if b5 = true then (vp_in a4 8 ∧ (∃ σ9, σ9 = mset σ4 1 i2 (a4.toNatClampNeg) (-1 : Int32) ∧ (f_X1_seatsFor_5 i0 a1 i2 K n (a3 ||| ((1 : Int32) <<< (a4 &&& 31))) (a4 + (1 : Int32)) σ9))) else (vp_in a4 8 ∧ (∃ σ7, σ7 = mset σ4 1 i2 (a4.toNatClampNeg) (-1 : Int32) ∧ (f_X1_seatsFor_5 i0 a1 i2 K n a3 (a4 + (1 : Int32)) σ7)))))))) else (f_X1_seatsFor_5 i0 a1 i2 K n a3 (a4 + (1 : Int32)) σ))))
set_option maxRecDepth 100000 in
set_option maxHeartbeats 4000000 in
theorem T_X1_seatsFor_5 {g : GG} {i0 : Nat} {a1 : Int32} {i2 : Nat} {K : Int32 → Mm → Prop} (hi0 : i0 < 3) (hi2 : i2 < 17) : ∀ (n : Nat) (a3 : Int32) (a4 : Int32) (σ : Mm), f_X1_seatsFor_5 i0 a1 i2 K n a3 a4 σ → AW g 0 M_X1_seatsFor (QI g 0 K) 5 [(0, .ref (gad g 2 i0)), (1, .int a1), (2, .ref (gad g 0 i2)), (3, .int a3), (4, .int a4)] [] σ := by
  intro n
  induction n with
  | zero => intro a3 a4 σ h; exact False.elim h
  | succ n ih =>
    intro a3 a4 σ h
    rw [f_X1_seatsFor_5] at h
    refine AW.iload dX1_seatsFor_5 4 rfl ?_
    refine AW.aload_n dX1_seatsFor_7 2 rfl ?_
    refine AW.get (k := 1) (v := .int (σ 0 i2 1)) (ids_in (Nat.le_of_ble_eq_true rfl) hi2) rfl rfl inGX0 (Nat.le_of_ble_eq_true rfl) w_76 rfl dX1_seatsFor_8 ?_
    refine AW.icmp_ge (tgt := 62) dX1_seatsFor_11 rfl (fun c => ?_) (fun c => ?_)
    · replace h := ite_t c h
      refine AW.iload_n dX1_seatsFor_62 3 rfl ?_
      exact AW.iret rfl dX1_seatsFor_63 h
    · replace h := ite_f c h
      refine AW.aload_n dX1_seatsFor_14 2 rfl ?_
      refine AW.get (k := 2) (v := .ref (gad g 1 i2)) (ids_in (Nat.le_of_ble_eq_true rfl) hi2) rfl rfl inGX0 (Nat.le_of_ble_eq_true rfl) w_81 rfl dX1_seatsFor_15 ?_
      refine AW.iload dX1_seatsFor_18 4 rfl ?_
      obtain ⟨hq1, h⟩ := h
      refine AW.iald (jn := (a4.toNatClampNeg)) (ids_in (Nat.le_of_ble_eq_true rfl) hi2) rfl hq1 rfl dX1_seatsFor_20 ?_
      refine AW.iconst (v := (-1 : Int32)) dX1_seatsFor_21 rfl ?_
      refine AW.icmp_ne (tgt := 56) dX1_seatsFor_22 rfl (fun c => ?_) (fun c => ?_)
      · replace h := ite_f c h
        refine AW.iinc (v := (a4 + (1 : Int32))) (L' := [(0, .ref (gad g 2 i0)), (1, .int a1), (2, .ref (gad g 0 i2)), (3, .int a3), (4, .int (a4 + (1 : Int32)))]) dX1_seatsFor_56 4 rfl rfl (Nat.le_of_ble_eq_true rfl) rfl ?_
        refine AW.goto (tgt := 5) dX1_seatsFor_59 rfl ?_
        exact ih _ _ _ h
      · replace h := ite_t c h
        refine AW.aload_n dX1_seatsFor_25 2 rfl ?_
        refine AW.get (k := 2) (v := .ref (gad g 1 i2)) (ids_in (Nat.le_of_ble_eq_true rfl) hi2) rfl rfl inGX0 (Nat.le_of_ble_eq_true rfl) w_81 rfl dX1_seatsFor_26 ?_
        refine AW.iload dX1_seatsFor_29 4 rfl ?_
        refine AW.iload_n dX1_seatsFor_31 1 rfl ?_
        obtain ⟨hq2, h⟩ := h
        refine AW.iast (jn := (a4.toNatClampNeg)) (ids_in (Nat.le_of_ble_eq_true rfl) hi2) (fun _ => rfl) hq2 rfl dX1_seatsFor_32 ?_
        obtain ⟨σ3, eσ3, h⟩ := h
        rw [← eσ3]
        refine AW.aload_n dX1_seatsFor_33 0 rfl ?_
        refine AW.aload_n dX1_seatsFor_34 2 rfl ?_
        refine AW.callVB [.ref (gad g 0 i2)] (C_X1_holds h) ok_X1_holds (ids_in (Nat.le_of_ble_eq_true rfl) hi0) rfl rfl w_431 rfl (Nat.le_of_ble_eq_true rfl) (Nat.le_of_ble_eq_true rfl) rfl dX1_seatsFor_35 (fun b5 σ4 h => ?_)
        refine AW.ifb_eq (tgt := 48) dX1_seatsFor_38 rfl (fun c => ?_) (fun c => ?_)
        · replace h := ite_f c h
          refine AW.aload_n dX1_seatsFor_48 2 rfl ?_
          refine AW.get (k := 2) (v := .ref (gad g 1 i2)) (ids_in (Nat.le_of_ble_eq_true rfl) hi2) rfl rfl inGX0 (Nat.le_of_ble_eq_true rfl) w_81 rfl dX1_seatsFor_49 ?_
          refine AW.iload dX1_seatsFor_52 4 rfl ?_
          refine AW.iconst (v := (-1 : Int32)) dX1_seatsFor_54 rfl ?_
          obtain ⟨hq6, h⟩ := h
          refine AW.iast (jn := (a4.toNatClampNeg)) (ids_in (Nat.le_of_ble_eq_true rfl) hi2) (fun _ => rfl) hq6 rfl dX1_seatsFor_55 ?_
          obtain ⟨σ7, eσ7, h⟩ := h
          rw [← eσ7]
          refine AW.iinc (v := (a4 + (1 : Int32))) (L' := [(0, .ref (gad g 2 i0)), (1, .int a1), (2, .ref (gad g 0 i2)), (3, .int a3), (4, .int (a4 + (1 : Int32)))]) dX1_seatsFor_56 4 rfl rfl (Nat.le_of_ble_eq_true rfl) rfl ?_
          refine AW.goto (tgt := 5) dX1_seatsFor_59 rfl ?_
          exact ih _ _ _ h
        · replace h := ite_t c h
          refine AW.iload_n dX1_seatsFor_41 3 rfl ?_
          refine AW.iconst (v := (1 : Int32)) dX1_seatsFor_42 rfl ?_
          refine AW.iload dX1_seatsFor_43 4 rfl ?_
          refine AW.ishl dX1_seatsFor_45 ?_
          refine AW.ior dX1_seatsFor_46 ?_
          refine AW.istore_n (L' := [(0, .ref (gad g 2 i0)), (1, .int a1), (2, .ref (gad g 0 i2)), (3, .int (a3 ||| ((1 : Int32) <<< (a4 &&& 31)))), (4, .int a4)]) dX1_seatsFor_47 (Nat.le_of_ble_eq_true rfl) rfl ?_
          refine AW.aload_n dX1_seatsFor_48 2 rfl ?_
          refine AW.get (k := 2) (v := .ref (gad g 1 i2)) (ids_in (Nat.le_of_ble_eq_true rfl) hi2) rfl rfl inGX0 (Nat.le_of_ble_eq_true rfl) w_81 rfl dX1_seatsFor_49 ?_
          refine AW.iload dX1_seatsFor_52 4 rfl ?_
          refine AW.iconst (v := (-1 : Int32)) dX1_seatsFor_54 rfl ?_
          obtain ⟨hq8, h⟩ := h
          refine AW.iast (jn := (a4.toNatClampNeg)) (ids_in (Nat.le_of_ble_eq_true rfl) hi2) (fun _ => rfl) hq8 rfl dX1_seatsFor_55 ?_
          obtain ⟨σ9, eσ9, h⟩ := h
          rw [← eσ9]
          refine AW.iinc (v := (a4 + (1 : Int32))) (L' := [(0, .ref (gad g 2 i0)), (1, .int a1), (2, .ref (gad g 0 i2)), (3, .int (a3 ||| ((1 : Int32) <<< (a4 &&& 31)))), (4, .int (a4 + (1 : Int32)))]) dX1_seatsFor_56 4 rfl rfl (Nat.le_of_ble_eq_true rfl) rfl ?_
          refine AW.goto (tgt := 5) dX1_seatsFor_59 rfl ?_
          exact ih _ _ _ h
def f_X1_seatsFor (i0 : Nat) (a1 : Int32) (i2 : Nat) (σ : Mm) (K : Int32 → Mm → Prop) : Prop := (i0 < 3 ∧ (i2 < 17 ∧ (∃ m, f_X1_seatsFor_5 i0 a1 i2 K m (0 : Int32) (0 : Int32) σ)))
set_option maxRecDepth 100000 in
set_option maxHeartbeats 4000000 in
theorem C_X1_seatsFor {g : GG} {i0 : Nat} {a1 : Int32} {i2 : Nat} {σ : Mm} {K : Int32 → Mm → Prop} (h : f_X1_seatsFor i0 a1 i2 σ K) : Ct g 0 M_X1_seatsFor (QI g 0 K) [.ref (gad g 2 i0), .int a1, .ref (gad g 0 i2)] σ := by
  unfold f_X1_seatsFor at h
  obtain ⟨hi0, h⟩ := h
  obtain ⟨hi2, h⟩ := h
  refine Ct.of (L := [(0, .ref (gad g 2 i0)), (1, .int a1), (2, .ref (gad g 0 i2))]) (show plainName RX1 = true by decide) (Nat.le_of_ble_eq_true rfl) rfl ?_
  refine AW.iconst (v := (0 : Int32)) dX1_seatsFor_0 rfl ?_
  refine AW.istore_n (L' := [(0, .ref (gad g 2 i0)), (1, .int a1), (2, .ref (gad g 0 i2)), (3, .int (0 : Int32))]) dX1_seatsFor_1 (Nat.le_of_ble_eq_true rfl) rfl ?_
  refine AW.iconst (v := (0 : Int32)) dX1_seatsFor_2 rfl ?_
  refine AW.istore (L' := [(0, .ref (gad g 2 i0)), (1, .int a1), (2, .ref (gad g 0 i2)), (3, .int (0 : Int32)), (4, .int (0 : Int32))]) dX1_seatsFor_3 (Nat.le_of_ble_eq_true rfl) rfl ?_
  obtain ⟨m, h⟩ := h
  refine T_X1_seatsFor_5 hi0 hi2 m _ _ _ h
theorem ok_X1_seatsFor : OkV M_X1_seatsFor 2 := ⟨w_428, w_429, w_3, w_430, by decide +kernel, (Nat.le_of_ble_eq_true rfl)⟩
def M_X6_seatsToAskFor : MT := (yX6_seatsToAskFor, cX6_seatsToAskFor, 3, some .int, 6)
def f_X6_seatsToAskFor (a1 : Int32) (a2 : Int32) (σ : Mm) (K : Int32 → Mm → Prop) : Prop := (vp_in a2 5 ∧ ((5 * 0 + a2.toNatClampNeg) < 17 ∧ (f_X0_become 15 (5 * 0 + a2.toNatClampNeg) σ (fun σ3 => (f_X0_empty 15 a1 σ3 (fun σ4 => (f_X1_seatsFor 0 a1 15 σ4 (fun r6 σ5 => (K r6 σ5)))))))))
set_option maxRecDepth 100000 in
set_option maxHeartbeats 4000000 in
theorem C_X6_seatsToAskFor {g : GG} {a1 : Int32} {a2 : Int32} {σ : Mm} {K : Int32 → Mm → Prop} (h : f_X6_seatsToAskFor a1 a2 σ K) : Ct g 0 M_X6_seatsToAskFor (QI g 0 K) [.ref (gad g 16 0), .int a1, .int a2] σ := by
  unfold f_X6_seatsToAskFor at h
  refine Ct.of (L := [(0, .ref (gad g 16 0)), (1, .int a1), (2, .int a2)]) (show plainName RX6 = true by decide) (Nat.le_of_ble_eq_true rfl) rfl ?_
  refine AW.aload_n dX6_seatsToAskFor_0 0 rfl ?_
  refine AW.get (k := 4) (v := .ref (gad g 0 15)) (id0_16_0) rfl rfl inGX6 (Nat.le_of_ble_eq_true rfl) w_207 rfl dX6_seatsToAskFor_1 ?_
  refine AW.aload_n dX6_seatsToAskFor_4 0 rfl ?_
  refine AW.get (k := 0) (v := .ref (gad g 5 0)) (id0_16_0) rfl rfl inGX6 (Nat.le_of_ble_eq_true rfl) w_203 rfl dX6_seatsToAskFor_5 ?_
  refine AW.get (k := 1) (v := .ref (gad g 6 0)) (id0_5_0) rfl rfl inGX2 (Nat.le_of_ble_eq_true rfl) w_96 rfl dX6_seatsToAskFor_8 ?_
  refine AW.iload_n dX6_seatsToAskFor_11 2 rfl ?_
  obtain ⟨hq1, h⟩ := h
  obtain ⟨hv2, h⟩ := h
  refine AW.aald (a' := gad g 0 (5 * 0 + a2.toNatClampNeg)) (ty := 1) (id0_6_0) rfl rfl rfl hq1 dX6_seatsToAskFor_12 ?_
  refine AW.callVV [.ref (gad g 0 (5 * 0 + a2.toNatClampNeg))] (C_X0_become h) ok_X0_become (id0_0_15) rfl rfl w_419 rfl (Nat.le_of_ble_eq_true rfl) (Nat.le_of_ble_eq_true rfl) rfl dX6_seatsToAskFor_13 (fun σ3 h => ?_)
  refine AW.aload_n dX6_seatsToAskFor_16 0 rfl ?_
  refine AW.get (k := 4) (v := .ref (gad g 0 15)) (id0_16_0) rfl rfl inGX6 (Nat.le_of_ble_eq_true rfl) w_207 rfl dX6_seatsToAskFor_17 ?_
  refine AW.iload_n dX6_seatsToAskFor_20 1 rfl ?_
  refine AW.callVV [.int a1] (C_X0_empty h) ok_X0_empty (id0_0_15) rfl rfl w_426 rfl (Nat.le_of_ble_eq_true rfl) (Nat.le_of_ble_eq_true rfl) rfl dX6_seatsToAskFor_21 (fun σ4 h => ?_)
  refine AW.aload_n dX6_seatsToAskFor_24 0 rfl ?_
  refine AW.get (k := 0) (v := .ref (gad g 5 0)) (id0_16_0) rfl rfl inGX6 (Nat.le_of_ble_eq_true rfl) w_203 rfl dX6_seatsToAskFor_25 ?_
  refine AW.get (k := 0) (v := .ref (gad g 2 0)) (id0_5_0) rfl rfl inGX2 (Nat.le_of_ble_eq_true rfl) w_93 rfl dX6_seatsToAskFor_28 ?_
  refine AW.iload_n dX6_seatsToAskFor_31 1 rfl ?_
  refine AW.aload_n dX6_seatsToAskFor_32 0 rfl ?_
  refine AW.get (k := 4) (v := .ref (gad g 0 15)) (id0_16_0) rfl rfl inGX6 (Nat.le_of_ble_eq_true rfl) w_207 rfl dX6_seatsToAskFor_33 ?_
  refine AW.callVI [.int a1, .ref (gad g 0 15)] (C_X1_seatsFor h) ok_X1_seatsFor (id0_2_0) rfl rfl w_427 rfl (Nat.le_of_ble_eq_true rfl) (Nat.le_of_ble_eq_true rfl) rfl dX6_seatsToAskFor_36 (fun r6 σ5 h => ?_)
  exact AW.iret rfl dX6_seatsToAskFor_39 h
theorem ok_X6_seatsToAskFor : OkV M_X6_seatsToAskFor 2 := ⟨w_417, wp_3, w_1, w_418, by decide +kernel, (Nat.le_of_ble_eq_true rfl)⟩
def M_X6_may : MT := (yX6_may, cX6_may, 3, some .int, 7)
def f_X6_may (a1 : Int32) (a2 : Int32) (σ : Mm) (K : Int32 → Mm → Prop) : Prop := (f_X6_isPerson a1 σ (fun b2 σ1 => (if b2 = true then (f_X6_isBench a2 σ1 (fun b6 σ5 => (if b6 = true then (f_X6_seatsToAskFor a1 a2 σ5 (fun r8 σ7 => (K r8 σ7))) else (f_X6_finding (0 : Int32) σ5 (fun r10 σ9 => (K r10 σ9)))))) else (f_X6_finding (0 : Int32) σ1 (fun r4 σ3 => (K r4 σ3))))))
set_option maxRecDepth 100000 in
set_option maxHeartbeats 4000000 in
theorem C_X6_may {g : GG} {a1 : Int32} {a2 : Int32} {σ : Mm} {K : Int32 → Mm → Prop} (h : f_X6_may a1 a2 σ K) : Ct g 0 M_X6_may (QI g 0 K) [.ref (gad g 16 0), .int a1, .int a2] σ := by
  unfold f_X6_may at h
  refine Ct.of (L := [(0, .ref (gad g 16 0)), (1, .int a1), (2, .int a2)]) (show plainName RX6 = true by decide) (Nat.le_of_ble_eq_true rfl) rfl ?_
  refine AW.iload_n dX6_may_0 1 rfl ?_
  refine AW.callSB [.int a1] (C_X6_isPerson h) ok_X6_isPerson w_244 rfl (Nat.le_of_ble_eq_true rfl) (Nat.le_of_ble_eq_true rfl) rfl dX6_may_1 (fun b2 σ1 h => ?_)
  refine AW.ifb_eq (tgt := 15) dX6_may_4 rfl (fun c => ?_) (fun c => ?_)
  · replace h := ite_f c h
    refine AW.aload_n dX6_may_15 0 rfl ?_
    refine AW.iconst (v := (0 : Int32)) dX6_may_16 rfl ?_
    refine AW.callVI [.int (0 : Int32)] (C_X6_finding h) ok_X6_finding (id0_16_0) rfl rfl w_247 rfl (Nat.le_of_ble_eq_true rfl) (Nat.le_of_ble_eq_true rfl) rfl dX6_may_17 (fun r4 σ3 h => ?_)
    exact AW.iret rfl dX6_may_20 h
  · replace h := ite_t c h
    refine AW.aload_n dX6_may_7 0 rfl ?_
    refine AW.iload_n dX6_may_8 2 rfl ?_
    refine AW.callVB [.int a2] (C_X6_isBench h) ok_X6_isBench (id0_16_0) rfl rfl w_308 rfl (Nat.le_of_ble_eq_true rfl) (Nat.le_of_ble_eq_true rfl) rfl dX6_may_9 (fun b6 σ5 h => ?_)
    refine AW.ifb_ne (tgt := 21) dX6_may_12 rfl (fun c => ?_) (fun c => ?_)
    · replace h := ite_t c h
      refine AW.aload_n dX6_may_21 0 rfl ?_
      refine AW.iload_n dX6_may_22 1 rfl ?_
      refine AW.iload_n dX6_may_23 2 rfl ?_
      refine AW.callVI [.int a1, .int a2] (C_X6_seatsToAskFor h) ok_X6_seatsToAskFor (id0_16_0) rfl rfl w_415 rfl (Nat.le_of_ble_eq_true rfl) (Nat.le_of_ble_eq_true rfl) rfl dX6_may_24 (fun r8 σ7 h => ?_)
      exact AW.iret rfl dX6_may_27 h
    · replace h := ite_f c h
      refine AW.aload_n dX6_may_15 0 rfl ?_
      refine AW.iconst (v := (0 : Int32)) dX6_may_16 rfl ?_
      refine AW.callVI [.int (0 : Int32)] (C_X6_finding h) ok_X6_finding (id0_16_0) rfl rfl w_247 rfl (Nat.le_of_ble_eq_true rfl) (Nat.le_of_ble_eq_true rfl) rfl dX6_may_17 (fun r10 σ9 h => ?_)
      exact AW.iret rfl dX6_may_20 h
theorem ok_X6_may : OkV M_X6_may 2 := ⟨w_412, w_413, w_1, w_414, by decide +kernel, (Nat.le_of_ble_eq_true rfl)⟩
def M_X6_has : MT := (yX6_has, cX6_has, 2, some .boolean, 1)
def f_X6_has (a0 : Int32) (a1 : Int32) (σ : Mm) (K : Bool → Mm → Prop) : Prop := (if ((a0 >>> (a1 &&& 31)) &&& (1 : Int32)) = 0 then (K false σ) else (K true σ))
set_option maxRecDepth 100000 in
set_option maxHeartbeats 4000000 in
theorem C_X6_has {g : GG} {a0 : Int32} {a1 : Int32} {σ : Mm} {K : Bool → Mm → Prop} (h : f_X6_has a0 a1 σ K) : Ct g 0 M_X6_has (QB g 0 K) [.int a0, .int a1] σ := by
  unfold f_X6_has at h
  refine Ct.of (L := [(0, .int a0), (1, .int a1)]) (show plainName RX6 = true by decide) (Nat.le_of_ble_eq_true rfl) rfl ?_
  refine AW.iload_n dX6_has_0 0 rfl ?_
  refine AW.iload_n dX6_has_1 1 rfl ?_
  refine AW.ishr dX6_has_2 ?_
  refine AW.iconst (v := (1 : Int32)) dX6_has_3 rfl ?_
  refine AW.iand dX6_has_4 ?_
  refine AW.if_eq (tgt := 12) dX6_has_5 rfl (fun c => ?_) (fun c => ?_)
  · replace h := ite_t c h
    refine AW.iconst (v := (0 : Int32)) dX6_has_12 rfl ?_
    exact AW.bret false rfl rfl dX6_has_13 h
  · replace h := ite_f c h
    refine AW.iconst (v := (1 : Int32)) dX6_has_8 rfl ?_
    refine AW.goto (tgt := 13) dX6_has_9 rfl ?_
    exact AW.bret true rfl rfl dX6_has_13 h
theorem ok_X6_has : OkS M_X6_has 2 := ⟨w_437, w_1, w_438, by decide +kernel, (Nat.le_of_ble_eq_true rfl)⟩
def M_X2_isSeated : MT := (yX2_isSeated, cX2_isSeated, 2, some .boolean, 3)
def f_X2_isSeated (i0 : Nat) (a1 : Int32) (σ : Mm) (K : Bool → Mm → Prop) : Prop := (i0 < 3 ∧ (f_X2_benchWith i0 a1 σ (fun r2 σ1 => (if r2 = (-1 : Int32) then (K false σ1) else (K true σ1)))))
set_option maxRecDepth 100000 in
set_option maxHeartbeats 4000000 in
theorem C_X2_isSeated {g : GG} {i0 : Nat} {a1 : Int32} {σ : Mm} {K : Bool → Mm → Prop} (h : f_X2_isSeated i0 a1 σ K) : Ct g 0 M_X2_isSeated (QB g 0 K) [.ref (gad g 5 i0), .int a1] σ := by
  unfold f_X2_isSeated at h
  obtain ⟨hi0, h⟩ := h
  refine Ct.of (L := [(0, .ref (gad g 5 i0)), (1, .int a1)]) (show plainName RX2 = true by decide) (Nat.le_of_ble_eq_true rfl) rfl ?_
  refine AW.aload_n dX2_isSeated_0 0 rfl ?_
  refine AW.iload_n dX2_isSeated_1 1 rfl ?_
  refine AW.callVI [.int a1] (C_X2_benchWith h) ok_X2_benchWith (ids_in (Nat.le_of_ble_eq_true rfl) hi0) rfl rfl w_387 rfl (Nat.le_of_ble_eq_true rfl) (Nat.le_of_ble_eq_true rfl) rfl dX2_isSeated_2 (fun r2 σ1 h => ?_)
  refine AW.iconst (v := (-1 : Int32)) dX2_isSeated_5 rfl ?_
  refine AW.icmp_eq (tgt := 13) dX2_isSeated_6 rfl (fun c => ?_) (fun c => ?_)
  · replace h := ite_t c h
    refine AW.iconst (v := (0 : Int32)) dX2_isSeated_13 rfl ?_
    exact AW.bret false rfl rfl dX2_isSeated_14 h
  · replace h := ite_f c h
    refine AW.iconst (v := (1 : Int32)) dX2_isSeated_9 rfl ?_
    refine AW.goto (tgt := 14) dX2_isSeated_10 rfl ?_
    exact AW.bret true rfl rfl dX2_isSeated_14 h
theorem ok_X2_isSeated : OkV M_X2_isSeated 1 := ⟨w_444, w_445, w_2, w_446, by decide +kernel, (Nat.le_of_ble_eq_true rfl)⟩
def M_X6_othersWithSeat : MT := (yX6_othersWithSeat, cX6_othersWithSeat, 4, some .int, 6)
set_option maxRecDepth 100000 in
def f_X6_othersWithSeat_4 (a1 : Int32) (K : Int32 → Mm → Prop) : Nat → Int32 → Int32 → Mm → Prop
  | 0, _, _, _ => False
  | n + 1, a2, a3, σ => (if (8 : Int32) ≤ a3 then (K a2 σ) else (if a3 = a1 then (f_X6_othersWithSeat_4 a1 K n a2 (a3 + (1 : Int32)) σ) else (f_X2_isSeated 0 a3 σ (fun b2 σ1 => (if b2 = true then (f_X6_othersWithSeat_4 a1 K n a2 (a3 + (1 : Int32)) σ1) else (f_X1_seatsFor 0 a3 15 σ1 (fun r4 σ3 => (if r4 = 0 then (f_X6_othersWithSeat_4 a1 K n a2 (a3 + (1 : Int32)) σ3) else (f_X6_othersWithSeat_4 a1 K n (a2 + (1 : Int32)) (a3 + (1 : Int32)) σ3)))))))))
set_option maxRecDepth 100000 in
set_option maxHeartbeats 4000000 in
theorem T_X6_othersWithSeat_4 {g : GG} {a1 : Int32} {K : Int32 → Mm → Prop} : ∀ (n : Nat) (a2 : Int32) (a3 : Int32) (σ : Mm), f_X6_othersWithSeat_4 a1 K n a2 a3 σ → AW g 0 M_X6_othersWithSeat (QI g 0 K) 4 [(0, .ref (gad g 16 0)), (1, .int a1), (2, .int a2), (3, .int a3)] [] σ := by
  intro n
  induction n with
  | zero => intro a2 a3 σ h; exact False.elim h
  | succ n ih =>
    intro a2 a3 σ h
    rw [f_X6_othersWithSeat_4] at h
    refine AW.iload_n dX6_othersWithSeat_4 3 rfl ?_
    refine AW.bipush (v := (8 : Int32)) dX6_othersWithSeat_5 rfl ?_
    refine AW.icmp_ge (tgt := 53) dX6_othersWithSeat_7 rfl (fun c => ?_) (fun c => ?_)
    · replace h := ite_t c h
      refine AW.iload_n dX6_othersWithSeat_53 2 rfl ?_
      exact AW.iret rfl dX6_othersWithSeat_54 h
    · replace h := ite_f c h
      refine AW.iload_n dX6_othersWithSeat_10 3 rfl ?_
      refine AW.iload_n dX6_othersWithSeat_11 1 rfl ?_
      refine AW.icmp_eq (tgt := 47) dX6_othersWithSeat_12 rfl (fun c => ?_) (fun c => ?_)
      · replace h := ite_t c h
        refine AW.iinc (v := (a3 + (1 : Int32))) (L' := [(0, .ref (gad g 16 0)), (1, .int a1), (2, .int a2), (3, .int (a3 + (1 : Int32)))]) dX6_othersWithSeat_47 3 rfl rfl (Nat.le_of_ble_eq_true rfl) rfl ?_
        refine AW.goto (tgt := 4) dX6_othersWithSeat_50 rfl ?_
        exact ih _ _ _ h
      · replace h := ite_f c h
        refine AW.aload_n dX6_othersWithSeat_15 0 rfl ?_
        refine AW.get (k := 0) (v := .ref (gad g 5 0)) (id0_16_0) rfl rfl inGX6 (Nat.le_of_ble_eq_true rfl) w_203 rfl dX6_othersWithSeat_16 ?_
        refine AW.iload_n dX6_othersWithSeat_19 3 rfl ?_
        refine AW.callVB [.int a3] (C_X2_isSeated h) ok_X2_isSeated (id0_5_0) rfl rfl w_443 rfl (Nat.le_of_ble_eq_true rfl) (Nat.le_of_ble_eq_true rfl) rfl dX6_othersWithSeat_20 (fun b2 σ1 h => ?_)
        refine AW.ifb_ne (tgt := 47) dX6_othersWithSeat_23 rfl (fun c => ?_) (fun c => ?_)
        · replace h := ite_t c h
          refine AW.iinc (v := (a3 + (1 : Int32))) (L' := [(0, .ref (gad g 16 0)), (1, .int a1), (2, .int a2), (3, .int (a3 + (1 : Int32)))]) dX6_othersWithSeat_47 3 rfl rfl (Nat.le_of_ble_eq_true rfl) rfl ?_
          refine AW.goto (tgt := 4) dX6_othersWithSeat_50 rfl ?_
          exact ih _ _ _ h
        · replace h := ite_f c h
          refine AW.aload_n dX6_othersWithSeat_26 0 rfl ?_
          refine AW.get (k := 0) (v := .ref (gad g 5 0)) (id0_16_0) rfl rfl inGX6 (Nat.le_of_ble_eq_true rfl) w_203 rfl dX6_othersWithSeat_27 ?_
          refine AW.get (k := 0) (v := .ref (gad g 2 0)) (id0_5_0) rfl rfl inGX2 (Nat.le_of_ble_eq_true rfl) w_93 rfl dX6_othersWithSeat_30 ?_
          refine AW.iload_n dX6_othersWithSeat_33 3 rfl ?_
          refine AW.aload_n dX6_othersWithSeat_34 0 rfl ?_
          refine AW.get (k := 4) (v := .ref (gad g 0 15)) (id0_16_0) rfl rfl inGX6 (Nat.le_of_ble_eq_true rfl) w_207 rfl dX6_othersWithSeat_35 ?_
          refine AW.callVI [.int a3, .ref (gad g 0 15)] (C_X1_seatsFor h) ok_X1_seatsFor (id0_2_0) rfl rfl w_427 rfl (Nat.le_of_ble_eq_true rfl) (Nat.le_of_ble_eq_true rfl) rfl dX6_othersWithSeat_38 (fun r4 σ3 h => ?_)
          refine AW.if_eq (tgt := 47) dX6_othersWithSeat_41 rfl (fun c => ?_) (fun c => ?_)
          · replace h := ite_t c h
            refine AW.iinc (v := (a3 + (1 : Int32))) (L' := [(0, .ref (gad g 16 0)), (1, .int a1), (2, .int a2), (3, .int (a3 + (1 : Int32)))]) dX6_othersWithSeat_47 3 rfl rfl (Nat.le_of_ble_eq_true rfl) rfl ?_
            refine AW.goto (tgt := 4) dX6_othersWithSeat_50 rfl ?_
            exact ih _ _ _ h
          · replace h := ite_f c h
            refine AW.iinc (v := (a2 + (1 : Int32))) (L' := [(0, .ref (gad g 16 0)), (1, .int a1), (2, .int (a2 + (1 : Int32))), (3, .int a3)]) dX6_othersWithSeat_44 2 rfl rfl (Nat.le_of_ble_eq_true rfl) rfl ?_
            refine AW.iinc (v := (a3 + (1 : Int32))) (L' := [(0, .ref (gad g 16 0)), (1, .int a1), (2, .int (a2 + (1 : Int32))), (3, .int (a3 + (1 : Int32)))]) dX6_othersWithSeat_47 3 rfl rfl (Nat.le_of_ble_eq_true rfl) rfl ?_
            refine AW.goto (tgt := 4) dX6_othersWithSeat_50 rfl ?_
            exact ih _ _ _ h
def f_X6_othersWithSeat (a1 : Int32) (σ : Mm) (K : Int32 → Mm → Prop) : Prop := (∃ m, f_X6_othersWithSeat_4 a1 K m (0 : Int32) (0 : Int32) σ)
set_option maxRecDepth 100000 in
set_option maxHeartbeats 4000000 in
theorem C_X6_othersWithSeat {g : GG} {a1 : Int32} {σ : Mm} {K : Int32 → Mm → Prop} (h : f_X6_othersWithSeat a1 σ K) : Ct g 0 M_X6_othersWithSeat (QI g 0 K) [.ref (gad g 16 0), .int a1] σ := by
  unfold f_X6_othersWithSeat at h
  refine Ct.of (L := [(0, .ref (gad g 16 0)), (1, .int a1)]) (show plainName RX6 = true by decide) (Nat.le_of_ble_eq_true rfl) rfl ?_
  refine AW.iconst (v := (0 : Int32)) dX6_othersWithSeat_0 rfl ?_
  refine AW.istore_n (L' := [(0, .ref (gad g 16 0)), (1, .int a1), (2, .int (0 : Int32))]) dX6_othersWithSeat_1 (Nat.le_of_ble_eq_true rfl) rfl ?_
  refine AW.iconst (v := (0 : Int32)) dX6_othersWithSeat_2 rfl ?_
  refine AW.istore_n (L' := [(0, .ref (gad g 16 0)), (1, .int a1), (2, .int (0 : Int32)), (3, .int (0 : Int32))]) dX6_othersWithSeat_3 (Nat.le_of_ble_eq_true rfl) rfl ?_
  obtain ⟨m, h⟩ := h
  refine T_X6_othersWithSeat_4 m _ _ _ h
theorem ok_X6_othersWithSeat : OkV M_X6_othersWithSeat 1 := ⟨w_441, wp_4, w_1, w_442, by decide +kernel, (Nat.le_of_ble_eq_true rfl)⟩
def M_X6_kind : MT := (yX6_kind, cX6_kind, 8, some .int, 7)
set_option maxRecDepth 100000 in
def f_X6_kind_37 (a1 : Int32) (a3 : Int32) (K : Int32 → Mm → Prop) : Nat → Int32 → Int32 → Int32 → Mm → Prop
  | 0, _, _, _, _ => False
  | n + 1, a4, a5, a6, σ => (if (σ 0 15 1) ≤ a6 then (if a4 = (-1 : Int32) then (f_X6_finding (3 : Int32) σ (fun r10 σ9 => (K r10 σ9))) else (K a4 σ)) else (f_X6_has a3 a6 σ (fun b12 σ11 => (if b12 = true then (vp_in a6 8 ∧ (∃ σ14, σ14 = mset σ11 1 15 (a6.toNatClampNeg) a1 ∧ (f_X6_othersWithSeat a1 σ14 (fun r16 σ15 => (vp_in a6 8 ∧ (∃ σ18, σ18 = mset σ15 1 15 (a6.toNatClampNeg) (-1 : Int32) ∧ (if r16 ≤ a5 then (f_X6_kind_37 a1 a3 K n a4 a5 (a6 + (1 : Int32)) σ18) else (f_X6_kind_37 a1 a3 K n a6 r16 (a6 + (1 : Int32)) σ18)))))))) else (f_X6_kind_37 a1 a3 K n a4 a5 (a6 + (1 : Int32)) σ11)))))
set_option maxRecDepth 100000 in
set_option maxHeartbeats 4000000 in
theorem T_X6_kind_37 {g : GG} {a1 : Int32} {a3 : Int32} {K : Int32 → Mm → Prop} : ∀ (n : Nat) (a4 : Int32) (a5 : Int32) (a6 : Int32) (σ : Mm), f_X6_kind_37 a1 a3 K n a4 a5 a6 σ → AW g 0 M_X6_kind (QI g 0 K) 37 [(0, .ref (gad g 16 0)), (1, .int a1), (3, .int a3), (4, .int a4), (5, .int a5), (6, .int a6)] [] σ := by
  intro n
  induction n with
  | zero => intro a4 a5 a6 σ h; exact False.elim h
  | succ n ih =>
    intro a4 a5 a6 σ h
    rw [f_X6_kind_37] at h
    refine AW.iload dX6_kind_37 5 rfl ?_
    refine AW.aload_n dX6_kind_39 0 rfl ?_
    refine AW.get (k := 4) (v := .ref (gad g 0 15)) (id0_16_0) rfl rfl inGX6 (Nat.le_of_ble_eq_true rfl) w_207 rfl dX6_kind_40 ?_
    refine AW.get (k := 1) (v := .int (σ 0 15 1)) (id0_0_15) rfl rfl inGX0 (Nat.le_of_ble_eq_true rfl) w_75 rfl dX6_kind_43 ?_
    refine AW.icmp_ge (tgt := 108) dX6_kind_46 rfl (fun c => ?_) (fun c => ?_)
    · replace h := ite_t c h
      refine AW.iload dX6_kind_108 3 rfl ?_
      refine AW.iconst (v := (-1 : Int32)) dX6_kind_110 rfl ?_
      refine AW.icmp_ne (tgt := 122) dX6_kind_111 rfl (fun c => ?_) (fun c => ?_)
      · replace h := ite_f c h
        refine AW.iload dX6_kind_122 3 rfl ?_
        exact AW.iret rfl dX6_kind_124 h
      · replace h := ite_t c h
        refine AW.aload_n dX6_kind_114 0 rfl ?_
        refine AW.iconst (v := (3 : Int32)) dX6_kind_115 rfl ?_
        refine AW.callVI [.int (3 : Int32)] (C_X6_finding h) ok_X6_finding (id0_16_0) rfl rfl w_247 rfl (Nat.le_of_ble_eq_true rfl) (Nat.le_of_ble_eq_true rfl) rfl dX6_kind_116 (fun r10 σ9 h => ?_)
        refine AW.goto (tgt := 124) dX6_kind_119 rfl ?_
        exact AW.iret rfl dX6_kind_124 h
    · replace h := ite_f c h
      refine AW.iload_n dX6_kind_49 2 rfl ?_
      refine AW.iload dX6_kind_50 5 rfl ?_
      refine AW.callSB [.int a3, .int a6] (C_X6_has h) ok_X6_has w_436 rfl (Nat.le_of_ble_eq_true rfl) (Nat.le_of_ble_eq_true rfl) rfl dX6_kind_52 (fun b12 σ11 h => ?_)
      refine AW.ifb_eq (tgt := 102) dX6_kind_55 rfl (fun c => ?_) (fun c => ?_)
      · replace h := ite_f c h
        refine AW.iinc (v := (a6 + (1 : Int32))) (L' := [(0, .ref (gad g 16 0)), (1, .int a1), (3, .int a3), (4, .int a4), (5, .int a5), (6, .int (a6 + (1 : Int32)))]) dX6_kind_102 5 rfl rfl (Nat.le_of_ble_eq_true rfl) rfl ?_
        refine AW.goto (tgt := 37) dX6_kind_105 rfl ?_
        exact ih _ _ _ _ h
      · replace h := ite_t c h
        refine AW.aload_n dX6_kind_58 0 rfl ?_
        refine AW.get (k := 4) (v := .ref (gad g 0 15)) (id0_16_0) rfl rfl inGX6 (Nat.le_of_ble_eq_true rfl) w_207 rfl dX6_kind_59 ?_
        refine AW.get (k := 2) (v := .ref (gad g 1 15)) (id0_0_15) rfl rfl inGX0 (Nat.le_of_ble_eq_true rfl) w_82 rfl dX6_kind_62 ?_
        refine AW.iload dX6_kind_65 5 rfl ?_
        refine AW.iload_n dX6_kind_67 1 rfl ?_
        obtain ⟨hq13, h⟩ := h
        refine AW.iast (jn := (a6.toNatClampNeg)) (id0_1_15) (fun _ => rfl) hq13 rfl dX6_kind_68 ?_
        obtain ⟨σ14, eσ14, h⟩ := h
        rw [← eσ14]
        refine AW.aload_n dX6_kind_69 0 rfl ?_
        refine AW.iload_n dX6_kind_70 1 rfl ?_
        refine AW.callVI [.int a1] (C_X6_othersWithSeat h) ok_X6_othersWithSeat (id0_16_0) rfl rfl w_439 rfl (Nat.le_of_ble_eq_true rfl) (Nat.le_of_ble_eq_true rfl) rfl dX6_kind_71 (fun r16 σ15 h => ?_)
        refine AW.istore (L' := [(0, .ref (gad g 16 0)), (1, .int a1), (3, .int a3), (4, .int a4), (5, .int a5), (6, .int a6), (7, .int r16)]) dX6_kind_74 (Nat.le_of_ble_eq_true rfl) rfl ?_
        refine AW.aload_n dX6_kind_76 0 rfl ?_
        refine AW.get (k := 4) (v := .ref (gad g 0 15)) (id0_16_0) rfl rfl inGX6 (Nat.le_of_ble_eq_true rfl) w_207 rfl dX6_kind_77 ?_
        refine AW.get (k := 2) (v := .ref (gad g 1 15)) (id0_0_15) rfl rfl inGX0 (Nat.le_of_ble_eq_true rfl) w_82 rfl dX6_kind_80 ?_
        refine AW.iload dX6_kind_83 5 rfl ?_
        refine AW.iconst (v := (-1 : Int32)) dX6_kind_85 rfl ?_
        obtain ⟨hq17, h⟩ := h
        refine AW.iast (jn := (a6.toNatClampNeg)) (id0_1_15) (fun _ => rfl) hq17 rfl dX6_kind_86 ?_
        obtain ⟨σ18, eσ18, h⟩ := h
        rw [← eσ18]
        refine AW.iload dX6_kind_87 6 rfl ?_
        refine AW.iload dX6_kind_89 4 rfl ?_
        refine AW.icmp_le (tgt := 102) dX6_kind_91 rfl (fun c => ?_) (fun c => ?_)
        · replace h := ite_t c h
          refine AW.iinc (v := (a6 + (1 : Int32))) (L' := [(0, .ref (gad g 16 0)), (1, .int a1), (3, .int a3), (4, .int a4), (5, .int a5), (6, .int (a6 + (1 : Int32))), (7, .int r16)]) dX6_kind_102 5 rfl rfl (Nat.le_of_ble_eq_true rfl) rfl ?_
          refine AW.goto (tgt := 37) dX6_kind_105 rfl ?_
          refine AW.eqL [0, 1, 2, 3, 4, 5] rfl ?_
          exact ih _ _ _ _ h
        · replace h := ite_f c h
          refine AW.iload dX6_kind_94 5 rfl ?_
          refine AW.istore (L' := [(0, .ref (gad g 16 0)), (1, .int a1), (3, .int a3), (4, .int a6), (5, .int a5), (6, .int a6), (7, .int r16)]) dX6_kind_96 (Nat.le_of_ble_eq_true rfl) rfl ?_
          refine AW.iload dX6_kind_98 6 rfl ?_
          refine AW.istore (L' := [(0, .ref (gad g 16 0)), (1, .int a1), (3, .int a3), (4, .int a6), (5, .int r16), (6, .int a6), (7, .int r16)]) dX6_kind_100 (Nat.le_of_ble_eq_true rfl) rfl ?_
          refine AW.iinc (v := (a6 + (1 : Int32))) (L' := [(0, .ref (gad g 16 0)), (1, .int a1), (3, .int a3), (4, .int a6), (5, .int r16), (6, .int (a6 + (1 : Int32))), (7, .int r16)]) dX6_kind_102 5 rfl rfl (Nat.le_of_ble_eq_true rfl) rfl ?_
          refine AW.goto (tgt := 37) dX6_kind_105 rfl ?_
          refine AW.eqL [0, 1, 2, 3, 4, 5] rfl ?_
          exact ih _ _ _ _ h
def f_X6_kind (a1 : Int32) (a2 : Int32) (σ : Mm) (K : Int32 → Mm → Prop) : Prop := (f_X6_isPerson a1 σ (fun b2 σ1 => (if b2 = true then (f_X6_isBench a2 σ1 (fun b6 σ5 => (if b6 = true then (f_X6_seatsToAskFor a1 a2 σ5 (fun r8 σ7 => (∃ m, f_X6_kind_37 a1 r8 K m (-1 : Int32) (-1 : Int32) (0 : Int32) σ7))) else (f_X6_finding (0 : Int32) σ5 (fun r20 σ19 => (K r20 σ19)))))) else (f_X6_finding (0 : Int32) σ1 (fun r4 σ3 => (K r4 σ3))))))
set_option maxRecDepth 100000 in
set_option maxHeartbeats 4000000 in
theorem C_X6_kind {g : GG} {a1 : Int32} {a2 : Int32} {σ : Mm} {K : Int32 → Mm → Prop} (h : f_X6_kind a1 a2 σ K) : Ct g 0 M_X6_kind (QI g 0 K) [.ref (gad g 16 0), .int a1, .int a2] σ := by
  unfold f_X6_kind at h
  refine Ct.of (L := [(0, .ref (gad g 16 0)), (1, .int a1), (2, .int a2)]) (show plainName RX6 = true by decide) (Nat.le_of_ble_eq_true rfl) rfl ?_
  refine AW.iload_n dX6_kind_0 1 rfl ?_
  refine AW.callSB [.int a1] (C_X6_isPerson h) ok_X6_isPerson w_244 rfl (Nat.le_of_ble_eq_true rfl) (Nat.le_of_ble_eq_true rfl) rfl dX6_kind_1 (fun b2 σ1 h => ?_)
  refine AW.ifb_eq (tgt := 15) dX6_kind_4 rfl (fun c => ?_) (fun c => ?_)
  · replace h := ite_f c h
    refine AW.aload_n dX6_kind_15 0 rfl ?_
    refine AW.iconst (v := (0 : Int32)) dX6_kind_16 rfl ?_
    refine AW.callVI [.int (0 : Int32)] (C_X6_finding h) ok_X6_finding (id0_16_0) rfl rfl w_247 rfl (Nat.le_of_ble_eq_true rfl) (Nat.le_of_ble_eq_true rfl) rfl dX6_kind_17 (fun r4 σ3 h => ?_)
    exact AW.iret rfl dX6_kind_20 h
  · replace h := ite_t c h
    refine AW.aload_n dX6_kind_7 0 rfl ?_
    refine AW.iload_n dX6_kind_8 2 rfl ?_
    refine AW.callVB [.int a2] (C_X6_isBench h) ok_X6_isBench (id0_16_0) rfl rfl w_308 rfl (Nat.le_of_ble_eq_true rfl) (Nat.le_of_ble_eq_true rfl) rfl dX6_kind_9 (fun b6 σ5 h => ?_)
    refine AW.ifb_ne (tgt := 21) dX6_kind_12 rfl (fun c => ?_) (fun c => ?_)
    · replace h := ite_t c h
      refine AW.aload_n dX6_kind_21 0 rfl ?_
      refine AW.iload_n dX6_kind_22 1 rfl ?_
      refine AW.iload_n dX6_kind_23 2 rfl ?_
      refine AW.callVI [.int a1, .int a2] (C_X6_seatsToAskFor h) ok_X6_seatsToAskFor (id0_16_0) rfl rfl w_415 rfl (Nat.le_of_ble_eq_true rfl) (Nat.le_of_ble_eq_true rfl) rfl dX6_kind_24 (fun r8 σ7 h => ?_)
      refine AW.istore_n (L' := [(0, .ref (gad g 16 0)), (1, .int a1), (2, .int a2), (3, .int r8)]) dX6_kind_27 (Nat.le_of_ble_eq_true rfl) rfl ?_
      refine AW.iconst (v := (-1 : Int32)) dX6_kind_28 rfl ?_
      refine AW.istore (L' := [(0, .ref (gad g 16 0)), (1, .int a1), (2, .int a2), (3, .int r8), (4, .int (-1 : Int32))]) dX6_kind_29 (Nat.le_of_ble_eq_true rfl) rfl ?_
      refine AW.iconst (v := (-1 : Int32)) dX6_kind_31 rfl ?_
      refine AW.istore (L' := [(0, .ref (gad g 16 0)), (1, .int a1), (2, .int a2), (3, .int r8), (4, .int (-1 : Int32)), (5, .int (-1 : Int32))]) dX6_kind_32 (Nat.le_of_ble_eq_true rfl) rfl ?_
      refine AW.iconst (v := (0 : Int32)) dX6_kind_34 rfl ?_
      refine AW.istore (L' := [(0, .ref (gad g 16 0)), (1, .int a1), (2, .int a2), (3, .int r8), (4, .int (-1 : Int32)), (5, .int (-1 : Int32)), (6, .int (0 : Int32))]) dX6_kind_35 (Nat.le_of_ble_eq_true rfl) rfl ?_
      obtain ⟨m, h⟩ := h
      refine AW.eqL [0, 1, 3, 4, 5, 6] rfl ?_
      refine T_X6_kind_37 m _ _ _ _ h
    · replace h := ite_f c h
      refine AW.aload_n dX6_kind_15 0 rfl ?_
      refine AW.iconst (v := (0 : Int32)) dX6_kind_16 rfl ?_
      refine AW.callVI [.int (0 : Int32)] (C_X6_finding h) ok_X6_finding (id0_16_0) rfl rfl w_247 rfl (Nat.le_of_ble_eq_true rfl) (Nat.le_of_ble_eq_true rfl) rfl dX6_kind_17 (fun r20 σ19 h => ?_)
      exact AW.iret rfl dX6_kind_20 h
theorem ok_X6_kind : OkV M_X6_kind 2 := ⟨w_433, w_434, w_1, w_435, by decide +kernel, (Nat.le_of_ble_eq_true rfl)⟩
def M_X2_draw : MT := (yX2_draw, cX2_draw, 1, some .int, 1)
def f_X2_draw (i0 : Nat) (σ : Mm) (K : Int32 → Mm → Prop) : Prop := (i0 < 3 ∧ (∃ σ1, σ1 = mset σ 5 i0 4 (((σ 5 i0 4) * (1103515245 : Int32)) + (12345 : Int32)) ∧ (K ((((σ1 5 i0 4)).toUInt32 >>> (((8 : Int32)).toUInt32 &&& Int32.toUInt32 31)).toInt32) σ1)))
set_option maxRecDepth 100000 in
set_option maxHeartbeats 4000000 in
theorem C_X2_draw {g : GG} {i0 : Nat} {σ : Mm} {K : Int32 → Mm → Prop} (h : f_X2_draw i0 σ K) : Ct g 0 M_X2_draw (QI g 0 K) [.ref (gad g 5 i0)] σ := by
  unfold f_X2_draw at h
  obtain ⟨hi0, h⟩ := h
  refine Ct.of (L := [(0, .ref (gad g 5 i0))]) (show plainName RX2 = true by decide) (Nat.le_of_ble_eq_true rfl) rfl ?_
  refine AW.aload_n dX2_draw_0 0 rfl ?_
  refine AW.aload_n dX2_draw_1 0 rfl ?_
  refine AW.get (k := 4) (v := .int (σ 5 i0 4)) (ids_in (Nat.le_of_ble_eq_true rfl) hi0) rfl rfl inGX2 (Nat.le_of_ble_eq_true rfl) w_103 rfl dX2_draw_2 ?_
  refine AW.ldc (v := (1103515245 : Int32)) dX2_draw_5 w_455 ?_
  refine AW.imul dX2_draw_7 ?_
  refine AW.sipush (v := (12345 : Int32)) dX2_draw_8 rfl ?_
  refine AW.iadd dX2_draw_11 ?_
  refine AW.put (k := 4) (w := (((σ 5 i0 4) * (1103515245 : Int32)) + (12345 : Int32))) (ids_in (Nat.le_of_ble_eq_true rfl) hi0) rfl rfl inGX2 tyX2_ok nmX2 (Nat.le_of_ble_eq_true rfl) w_103 rfl rfl rfl rfl (Nat.le_of_ble_eq_true rfl) rfl dX2_draw_12 ?_
  obtain ⟨σ1, eσ1, h⟩ := h
  rw [← eσ1]
  refine AW.aload_n dX2_draw_15 0 rfl ?_
  refine AW.get (k := 4) (v := .int (σ1 5 i0 4)) (ids_in (Nat.le_of_ble_eq_true rfl) hi0) rfl rfl inGX2 (Nat.le_of_ble_eq_true rfl) w_103 rfl dX2_draw_16 ?_
  refine AW.bipush (v := (8 : Int32)) dX2_draw_19 rfl ?_
  refine AW.iushr dX2_draw_21 ?_
  exact AW.iret rfl dX2_draw_22 h
theorem ok_X2_draw : OkV M_X2_draw 0 := ⟨w_452, w_453, w_2, w_454, by decide +kernel, (Nat.le_of_ble_eq_true rfl)⟩
def M_X6_leastOf : MT := (yX6_leastOf, cX6_leastOf, 2, some .int, 2)
set_option maxRecDepth 100000 in
def f_X6_leastOf_2 (a0 : Int32) (K : Int32 → Mm → Prop) : Nat → Int32 → Mm → Prop
  | 0, _, _ => False
  | n + 1, a1, σ => (if (8 : Int32) ≤ a1 then (K (-1 : Int32) σ) else (f_X6_has a0 a1 σ (fun b2 σ1 => (if b2 = true then (K a1 σ1) else (f_X6_leastOf_2 a0 K n (a1 + (1 : Int32)) σ1)))))
set_option maxRecDepth 100000 in
set_option maxHeartbeats 4000000 in
theorem T_X6_leastOf_2 {g : GG} {a0 : Int32} {K : Int32 → Mm → Prop} : ∀ (n : Nat) (a1 : Int32) (σ : Mm), f_X6_leastOf_2 a0 K n a1 σ → AW g 0 M_X6_leastOf (QI g 0 K) 2 [(0, .int a0), (1, .int a1)] [] σ := by
  intro n
  induction n with
  | zero => intro a1 σ h; exact False.elim h
  | succ n ih =>
    intro a1 σ h
    rw [f_X6_leastOf_2] at h
    refine AW.iload_n dX6_leastOf_2 1 rfl ?_
    refine AW.bipush (v := (8 : Int32)) dX6_leastOf_3 rfl ?_
    refine AW.icmp_ge (tgt := 24) dX6_leastOf_5 rfl (fun c => ?_) (fun c => ?_)
    · replace h := ite_t c h
      refine AW.iconst (v := (-1 : Int32)) dX6_leastOf_24 rfl ?_
      exact AW.iret rfl dX6_leastOf_25 h
    · replace h := ite_f c h
      refine AW.iload_n dX6_leastOf_8 0 rfl ?_
      refine AW.iload_n dX6_leastOf_9 1 rfl ?_
      refine AW.callSB [.int a0, .int a1] (C_X6_has h) ok_X6_has w_436 rfl (Nat.le_of_ble_eq_true rfl) (Nat.le_of_ble_eq_true rfl) rfl dX6_leastOf_10 (fun b2 σ1 h => ?_)
      refine AW.ifb_eq (tgt := 18) dX6_leastOf_13 rfl (fun c => ?_) (fun c => ?_)
      · replace h := ite_f c h
        refine AW.iinc (v := (a1 + (1 : Int32))) (L' := [(0, .int a0), (1, .int (a1 + (1 : Int32)))]) dX6_leastOf_18 1 rfl rfl (Nat.le_of_ble_eq_true rfl) rfl ?_
        refine AW.goto (tgt := 2) dX6_leastOf_21 rfl ?_
        exact ih _ _ h
      · replace h := ite_t c h
        refine AW.iload_n dX6_leastOf_16 1 rfl ?_
        exact AW.iret rfl dX6_leastOf_17 h
def f_X6_leastOf (a0 : Int32) (σ : Mm) (K : Int32 → Mm → Prop) : Prop := (∃ m, f_X6_leastOf_2 a0 K m (0 : Int32) σ)
set_option maxRecDepth 100000 in
set_option maxHeartbeats 4000000 in
theorem C_X6_leastOf {g : GG} {a0 : Int32} {σ : Mm} {K : Int32 → Mm → Prop} (h : f_X6_leastOf a0 σ K) : Ct g 0 M_X6_leastOf (QI g 0 K) [.int a0] σ := by
  unfold f_X6_leastOf at h
  refine Ct.of (L := [(0, .int a0)]) (show plainName RX6 = true by decide) (Nat.le_of_ble_eq_true rfl) rfl ?_
  refine AW.iconst (v := (0 : Int32)) dX6_leastOf_0 rfl ?_
  refine AW.istore_n (L' := [(0, .int a0), (1, .int (0 : Int32))]) dX6_leastOf_1 (Nat.le_of_ble_eq_true rfl) rfl ?_
  obtain ⟨m, h⟩ := h
  refine T_X6_leastOf_2 m _ _ h
theorem ok_X6_leastOf : OkS M_X6_leastOf 1 := ⟨w_457, w_1, w_458, by decide +kernel, (Nat.le_of_ble_eq_true rfl)⟩
def M_X6_come : MT := (yX6_come, cX6_come, 7, some .int, 7)
set_option maxRecDepth 100000 in
def f_X6_come_30 (a1 : Int32) (a2 : Int32) (K : Int32 → Mm → Prop) : Nat → Int32 → Int32 → Mm → Prop
  | 0, _, _, _ => False
  | n + 1, a3, a4, σ => (if a2 ≤ a4 then (K a3 σ) else (f_X2_draw 0 σ (fun r8 σ7 => (f_X2_isSeated 0 (r8 - r8 / (8 : Int32) * (8 : Int32)) σ7 (fun b10 σ9 => (if b10 = true then (f_X6_come_30 a1 a2 K n a3 (a4 + (1 : Int32)) σ9) else (f_X6_seatsToAskFor (r8 - r8 / (8 : Int32) * (8 : Int32)) a1 σ9 (fun r12 σ11 => (f_X6_leastOf r12 σ11 (fun r14 σ13 => (if r14 = (-1 : Int32) then (f_X6_come_30 a1 a2 K n a3 (a4 + (1 : Int32)) σ13) else (f_X2_putDown 0 (r8 - r8 / (8 : Int32) * (8 : Int32)) a1 r14 σ13 (fun σ15 => (f_X6_come_30 a1 a2 K n (a3 + (1 : Int32)) (a4 + (1 : Int32)) σ15))))))))))))))
set_option maxRecDepth 100000 in
set_option maxHeartbeats 4000000 in
theorem T_X6_come_30 {g : GG} {a1 : Int32} {a2 : Int32} {K : Int32 → Mm → Prop} : ∀ (n : Nat) (a3 : Int32) (a4 : Int32) (σ : Mm), f_X6_come_30 a1 a2 K n a3 a4 σ → AW g 0 M_X6_come (QI g 0 K) 30 [(0, .ref (gad g 16 0)), (1, .int a1), (2, .int a2), (3, .int a3), (4, .int a4)] [] σ := by
  intro n
  induction n with
  | zero => intro a3 a4 σ h; exact False.elim h
  | succ n ih =>
    intro a3 a4 σ h
    rw [f_X6_come_30] at h
    refine AW.iload dX6_come_30 4 rfl ?_
    refine AW.iload_n dX6_come_32 2 rfl ?_
    refine AW.icmp_ge (tgt := 99) dX6_come_33 rfl (fun c => ?_) (fun c => ?_)
    · replace h := ite_t c h
      refine AW.iload_n dX6_come_99 3 rfl ?_
      exact AW.iret rfl dX6_come_100 h
    · replace h := ite_f c h
      refine AW.aload_n dX6_come_36 0 rfl ?_
      refine AW.get (k := 0) (v := .ref (gad g 5 0)) (id0_16_0) rfl rfl inGX6 (Nat.le_of_ble_eq_true rfl) w_203 rfl dX6_come_37 ?_
      refine AW.callVI [] (C_X2_draw h) ok_X2_draw (id0_5_0) rfl rfl w_451 rfl (Nat.le_of_ble_eq_true rfl) (Nat.le_of_ble_eq_true rfl) rfl dX6_come_40 (fun r8 σ7 h => ?_)
      refine AW.bipush (v := (8 : Int32)) dX6_come_43 rfl ?_
      refine AW.irem dX6_come_45 (by decide) ?_
      refine AW.istore (L' := [(0, .ref (gad g 16 0)), (1, .int a1), (2, .int a2), (3, .int a3), (4, .int a4), (5, .int (r8 - r8 / (8 : Int32) * (8 : Int32)))]) dX6_come_46 (Nat.le_of_ble_eq_true rfl) rfl ?_
      refine AW.aload_n dX6_come_48 0 rfl ?_
      refine AW.get (k := 0) (v := .ref (gad g 5 0)) (id0_16_0) rfl rfl inGX6 (Nat.le_of_ble_eq_true rfl) w_203 rfl dX6_come_49 ?_
      refine AW.iload dX6_come_52 5 rfl ?_
      refine AW.callVB [.int (r8 - r8 / (8 : Int32) * (8 : Int32))] (C_X2_isSeated h) ok_X2_isSeated (id0_5_0) rfl rfl w_443 rfl (Nat.le_of_ble_eq_true rfl) (Nat.le_of_ble_eq_true rfl) rfl dX6_come_54 (fun b10 σ9 h => ?_)
      refine AW.ifb_ne (tgt := 93) dX6_come_57 rfl (fun c => ?_) (fun c => ?_)
      · replace h := ite_t c h
        refine AW.iinc (v := (a4 + (1 : Int32))) (L' := [(0, .ref (gad g 16 0)), (1, .int a1), (2, .int a2), (3, .int a3), (4, .int (a4 + (1 : Int32))), (5, .int (r8 - r8 / (8 : Int32) * (8 : Int32)))]) dX6_come_93 4 rfl rfl (Nat.le_of_ble_eq_true rfl) rfl ?_
        refine AW.goto (tgt := 30) dX6_come_96 rfl ?_
        refine AW.eqL [0, 1, 2, 3, 4] rfl ?_
        exact ih _ _ _ h
      · replace h := ite_f c h
        refine AW.aload_n dX6_come_60 0 rfl ?_
        refine AW.iload dX6_come_61 5 rfl ?_
        refine AW.iload_n dX6_come_63 1 rfl ?_
        refine AW.callVI [.int (r8 - r8 / (8 : Int32) * (8 : Int32)), .int a1] (C_X6_seatsToAskFor h) ok_X6_seatsToAskFor (id0_16_0) rfl rfl w_415 rfl (Nat.le_of_ble_eq_true rfl) (Nat.le_of_ble_eq_true rfl) rfl dX6_come_64 (fun r12 σ11 h => ?_)
        refine AW.callSI [.int r12] (C_X6_leastOf h) ok_X6_leastOf w_456 rfl (Nat.le_of_ble_eq_true rfl) (Nat.le_of_ble_eq_true rfl) rfl dX6_come_67 (fun r14 σ13 h => ?_)
        refine AW.istore (L' := [(0, .ref (gad g 16 0)), (1, .int a1), (2, .int a2), (3, .int a3), (4, .int a4), (5, .int (r8 - r8 / (8 : Int32) * (8 : Int32))), (6, .int r14)]) dX6_come_70 (Nat.le_of_ble_eq_true rfl) rfl ?_
        refine AW.iload dX6_come_72 6 rfl ?_
        refine AW.iconst (v := (-1 : Int32)) dX6_come_74 rfl ?_
        refine AW.icmp_eq (tgt := 93) dX6_come_75 rfl (fun c => ?_) (fun c => ?_)
        · replace h := ite_t c h
          refine AW.iinc (v := (a4 + (1 : Int32))) (L' := [(0, .ref (gad g 16 0)), (1, .int a1), (2, .int a2), (3, .int a3), (4, .int (a4 + (1 : Int32))), (5, .int (r8 - r8 / (8 : Int32) * (8 : Int32))), (6, .int r14)]) dX6_come_93 4 rfl rfl (Nat.le_of_ble_eq_true rfl) rfl ?_
          refine AW.goto (tgt := 30) dX6_come_96 rfl ?_
          refine AW.eqL [0, 1, 2, 3, 4] rfl ?_
          exact ih _ _ _ h
        · replace h := ite_f c h
          refine AW.aload_n dX6_come_78 0 rfl ?_
          refine AW.get (k := 0) (v := .ref (gad g 5 0)) (id0_16_0) rfl rfl inGX6 (Nat.le_of_ble_eq_true rfl) w_203 rfl dX6_come_79 ?_
          refine AW.iload dX6_come_82 5 rfl ?_
          refine AW.iload_n dX6_come_84 1 rfl ?_
          refine AW.iload dX6_come_85 6 rfl ?_
          refine AW.callVV [.int (r8 - r8 / (8 : Int32) * (8 : Int32)), .int a1, .int r14] (C_X2_putDown h) ok_X2_putDown (id0_5_0) rfl rfl w_379 rfl (Nat.le_of_ble_eq_true rfl) (Nat.le_of_ble_eq_true rfl) rfl dX6_come_87 (fun σ15 h => ?_)
          refine AW.iinc (v := (a3 + (1 : Int32))) (L' := [(0, .ref (gad g 16 0)), (1, .int a1), (2, .int a2), (3, .int (a3 + (1 : Int32))), (4, .int a4), (5, .int (r8 - r8 / (8 : Int32) * (8 : Int32))), (6, .int r14)]) dX6_come_90 3 rfl rfl (Nat.le_of_ble_eq_true rfl) rfl ?_
          refine AW.iinc (v := (a4 + (1 : Int32))) (L' := [(0, .ref (gad g 16 0)), (1, .int a1), (2, .int a2), (3, .int (a3 + (1 : Int32))), (4, .int (a4 + (1 : Int32))), (5, .int (r8 - r8 / (8 : Int32) * (8 : Int32))), (6, .int r14)]) dX6_come_93 4 rfl rfl (Nat.le_of_ble_eq_true rfl) rfl ?_
          refine AW.goto (tgt := 30) dX6_come_96 rfl ?_
          refine AW.eqL [0, 1, 2, 3, 4] rfl ?_
          exact ih _ _ _ h
def f_X6_come (a1 : Int32) (a2 : Int32) (σ : Mm) (K : Int32 → Mm → Prop) : Prop := (f_X6_isBench a1 σ (fun b2 σ1 => (if b2 = true then (if a2 < (1 : Int32) then (f_X6_finding (0 : Int32) σ1 (fun r6 σ5 => (K r6 σ5))) else (if a2 ≤ (20 : Int32) then (∃ m, f_X6_come_30 a1 a2 K m (0 : Int32) (0 : Int32) σ1) else (f_X6_finding (0 : Int32) σ1 (fun r17 σ16 => (K r17 σ16))))) else (f_X6_finding (0 : Int32) σ1 (fun r4 σ3 => (K r4 σ3))))))
set_option maxRecDepth 100000 in
set_option maxHeartbeats 4000000 in
theorem C_X6_come {g : GG} {a1 : Int32} {a2 : Int32} {σ : Mm} {K : Int32 → Mm → Prop} (h : f_X6_come a1 a2 σ K) : Ct g 0 M_X6_come (QI g 0 K) [.ref (gad g 16 0), .int a1, .int a2] σ := by
  unfold f_X6_come at h
  refine Ct.of (L := [(0, .ref (gad g 16 0)), (1, .int a1), (2, .int a2)]) (show plainName RX6 = true by decide) (Nat.le_of_ble_eq_true rfl) rfl ?_
  refine AW.aload_n dX6_come_0 0 rfl ?_
  refine AW.iload_n dX6_come_1 1 rfl ?_
  refine AW.callVB [.int a1] (C_X6_isBench h) ok_X6_isBench (id0_16_0) rfl rfl w_308 rfl (Nat.le_of_ble_eq_true rfl) (Nat.le_of_ble_eq_true rfl) rfl dX6_come_2 (fun b2 σ1 h => ?_)
  refine AW.ifb_eq (tgt := 19) dX6_come_5 rfl (fun c => ?_) (fun c => ?_)
  · replace h := ite_f c h
    refine AW.aload_n dX6_come_19 0 rfl ?_
    refine AW.iconst (v := (0 : Int32)) dX6_come_20 rfl ?_
    refine AW.callVI [.int (0 : Int32)] (C_X6_finding h) ok_X6_finding (id0_16_0) rfl rfl w_247 rfl (Nat.le_of_ble_eq_true rfl) (Nat.le_of_ble_eq_true rfl) rfl dX6_come_21 (fun r4 σ3 h => ?_)
    exact AW.iret rfl dX6_come_24 h
  · replace h := ite_t c h
    refine AW.iload_n dX6_come_8 2 rfl ?_
    refine AW.iconst (v := (1 : Int32)) dX6_come_9 rfl ?_
    refine AW.icmp_lt (tgt := 19) dX6_come_10 rfl (fun c => ?_) (fun c => ?_)
    · replace h := ite_t c h
      refine AW.aload_n dX6_come_19 0 rfl ?_
      refine AW.iconst (v := (0 : Int32)) dX6_come_20 rfl ?_
      refine AW.callVI [.int (0 : Int32)] (C_X6_finding h) ok_X6_finding (id0_16_0) rfl rfl w_247 rfl (Nat.le_of_ble_eq_true rfl) (Nat.le_of_ble_eq_true rfl) rfl dX6_come_21 (fun r6 σ5 h => ?_)
      exact AW.iret rfl dX6_come_24 h
    · replace h := ite_f c h
      refine AW.iload_n dX6_come_13 2 rfl ?_
      refine AW.bipush (v := (20 : Int32)) dX6_come_14 rfl ?_
      refine AW.icmp_le (tgt := 25) dX6_come_16 rfl (fun c => ?_) (fun c => ?_)
      · replace h := ite_t c h
        refine AW.iconst (v := (0 : Int32)) dX6_come_25 rfl ?_
        refine AW.istore_n (L' := [(0, .ref (gad g 16 0)), (1, .int a1), (2, .int a2), (3, .int (0 : Int32))]) dX6_come_26 (Nat.le_of_ble_eq_true rfl) rfl ?_
        refine AW.iconst (v := (0 : Int32)) dX6_come_27 rfl ?_
        refine AW.istore (L' := [(0, .ref (gad g 16 0)), (1, .int a1), (2, .int a2), (3, .int (0 : Int32)), (4, .int (0 : Int32))]) dX6_come_28 (Nat.le_of_ble_eq_true rfl) rfl ?_
        obtain ⟨m, h⟩ := h
        refine T_X6_come_30 m _ _ _ h
      · replace h := ite_f c h
        refine AW.aload_n dX6_come_19 0 rfl ?_
        refine AW.iconst (v := (0 : Int32)) dX6_come_20 rfl ?_
        refine AW.callVI [.int (0 : Int32)] (C_X6_finding h) ok_X6_finding (id0_16_0) rfl rfl w_247 rfl (Nat.le_of_ble_eq_true rfl) (Nat.le_of_ble_eq_true rfl) rfl dX6_come_21 (fun r17 σ16 h => ?_)
        exact AW.iret rfl dX6_come_24 h
theorem ok_X6_come : OkV M_X6_come 2 := ⟨w_448, w_449, w_1, w_450, by decide +kernel, (Nat.le_of_ble_eq_true rfl)⟩
def M_X6_isSet : MT := (yX6_isSet, cX6_isSet, 1, some .boolean, 1)
def f_X6_isSet (a0 : Int32) (σ : Mm) (K : Bool → Mm → Prop) : Prop := (if a0 < 0 then (K false σ) else (if (255 : Int32) < a0 then (K false σ) else (K true σ)))
set_option maxRecDepth 100000 in
set_option maxHeartbeats 4000000 in
theorem C_X6_isSet {g : GG} {a0 : Int32} {σ : Mm} {K : Bool → Mm → Prop} (h : f_X6_isSet a0 σ K) : Ct g 0 M_X6_isSet (QB g 0 K) [.int a0] σ := by
  unfold f_X6_isSet at h
  refine Ct.of (L := [(0, .int a0)]) (show plainName RX6 = true by decide) (Nat.le_of_ble_eq_true rfl) rfl ?_
  refine AW.iload_n dX6_isSet_0 0 rfl ?_
  refine AW.if_lt (tgt := 15) dX6_isSet_1 rfl (fun c => ?_) (fun c => ?_)
  · replace h := ite_t c h
    refine AW.iconst (v := (0 : Int32)) dX6_isSet_15 rfl ?_
    exact AW.bret false rfl rfl dX6_isSet_16 h
  · replace h := ite_f c h
    refine AW.iload_n dX6_isSet_4 0 rfl ?_
    refine AW.sipush (v := (255 : Int32)) dX6_isSet_5 rfl ?_
    refine AW.icmp_gt (tgt := 15) dX6_isSet_8 rfl (fun c => ?_) (fun c => ?_)
    · replace h := ite_t c h
      refine AW.iconst (v := (0 : Int32)) dX6_isSet_15 rfl ?_
      exact AW.bret false rfl rfl dX6_isSet_16 h
    · replace h := ite_f c h
      refine AW.iconst (v := (1 : Int32)) dX6_isSet_11 rfl ?_
      refine AW.goto (tgt := 16) dX6_isSet_12 rfl ?_
      exact AW.bret true rfl rfl dX6_isSet_16 h
theorem ok_X6_isSet : OkS M_X6_isSet 1 := ⟨w_464, w_1, w_465, by decide +kernel, (Nat.le_of_ble_eq_true rfl)⟩
