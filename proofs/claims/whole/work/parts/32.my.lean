def M_X7_rises : MT := (yX7_rises, cX7_rises, 3, some .boolean, 3)
def f_X7_rises (a1 : Int32) (σ : Mm) (K : Bool → Mm → Prop) : Prop := (f_X7_whereIs a1 σ (fun r2 σ1 => (if r2 < 0 then (if r2 < 0 then (K false σ1) else (K true σ1)) else (f_X7_at (r2 / (10 : Int32)) (r2 - r2 / (10 : Int32) * (10 : Int32)) σ1 (fun r4 σ3 => (vp_in r4 136 ∧ (∃ σ6, σ6 = mset σ3 1 0 (r4.toNatClampNeg) (-1 : Int32) ∧ (if r2 < 0 then (K false σ6) else (K true σ6)))))))))
set_option maxRecDepth 100000 in
set_option maxHeartbeats 4000000 in
theorem C_X7_rises {g : GG} {a1 : Int32} {σ : Mm} {K : Bool → Mm → Prop} (h : f_X7_rises a1 σ K) : Ct g 1 M_X7_rises (QB g 1 K) [.ref (gad g 0 0), .int a1] σ := by
  unfold f_X7_rises at h
  refine Ct.of (L := [(0, .ref (gad g 0 0)), (1, .int a1)]) (show plainName RX7 = true by decide) (Nat.le_of_ble_eq_true rfl) rfl ?_
  refine AW.aload_n dX7_rises_0 0 rfl ?_
  refine AW.iload_n dX7_rises_1 1 rfl ?_
  refine AW.callVI [.int a1] (C_X7_whereIs h) ok_X7_whereIs (id1_0_0) rfl rfl w_1094 rfl (Nat.le_of_ble_eq_true rfl) (Nat.le_of_ble_eq_true rfl) rfl dX7_rises_2 (fun r2 σ1 h => ?_)
  refine AW.istore_n (L' := [(0, .ref (gad g 0 0)), (1, .int a1), (2, .int r2)]) dX7_rises_5 (Nat.le_of_ble_eq_true rfl) rfl ?_
  refine AW.iload_n dX7_rises_6 2 rfl ?_
  refine AW.if_lt (tgt := 27) dX7_rises_7 rfl (fun c => ?_) (fun c => ?_)
  · replace h := ite_t c h
    refine AW.iload_n dX7_rises_27 2 rfl ?_
    refine AW.if_lt (tgt := 35) dX7_rises_28 rfl (fun c => ?_) (fun c => ?_)
    · replace h := ite_t c h
      refine AW.iconst (v := (0 : Int32)) dX7_rises_35 rfl ?_
      exact AW.bret false rfl rfl dX7_rises_36 h
    · replace h := ite_f c h
      refine AW.iconst (v := (1 : Int32)) dX7_rises_31 rfl ?_
      refine AW.goto (tgt := 36) dX7_rises_32 rfl ?_
      exact AW.bret true rfl rfl dX7_rises_36 h
  · replace h := ite_f c h
    refine AW.aload_n dX7_rises_10 0 rfl ?_
    refine AW.get (k := 0) (v := .ref (gad g 1 0)) (id1_0_0) rfl rfl inGX7 (Nat.le_of_ble_eq_true rfl) w_872 rfl dX7_rises_11 ?_
    refine AW.iload_n dX7_rises_14 2 rfl ?_
    refine AW.bipush (v := (10 : Int32)) dX7_rises_15 rfl ?_
    refine AW.idiv dX7_rises_17 (by decide) ?_
    refine AW.iload_n dX7_rises_18 2 rfl ?_
    refine AW.bipush (v := (10 : Int32)) dX7_rises_19 rfl ?_
    refine AW.irem dX7_rises_21 (by decide) ?_
    refine AW.callSI [.int (r2 / (10 : Int32)), .int (r2 - r2 / (10 : Int32) * (10 : Int32))] (C_X7_at h) ok_X7_at w_1008 rfl (Nat.le_of_ble_eq_true rfl) (Nat.le_of_ble_eq_true rfl) rfl dX7_rises_22 (fun r4 σ3 h => ?_)
    refine AW.iconst (v := (-1 : Int32)) dX7_rises_25 rfl ?_
    obtain ⟨hq5, h⟩ := h
    refine AW.iast (jn := (r4.toNatClampNeg)) (id1_1_0) (fun _ => rfl) hq5 rfl dX7_rises_26 ?_
    obtain ⟨σ6, eσ6, h⟩ := h
    rw [← eσ6]
    refine AW.iload_n dX7_rises_27 2 rfl ?_
    refine AW.if_lt (tgt := 35) dX7_rises_28 rfl (fun c => ?_) (fun c => ?_)
    · replace h := ite_t c h
      refine AW.iconst (v := (0 : Int32)) dX7_rises_35 rfl ?_
      exact AW.bret false rfl rfl dX7_rises_36 h
    · replace h := ite_f c h
      refine AW.iconst (v := (1 : Int32)) dX7_rises_31 rfl ?_
      refine AW.goto (tgt := 36) dX7_rises_32 rfl ?_
      exact AW.bret true rfl rfl dX7_rises_36 h
theorem ok_X7_rises : OkV M_X7_rises 1 := ⟨w_1092, wp_45, w_9, w_1093, by decide +kernel, (Nat.le_of_ble_eq_true rfl)⟩
def M_X7_holds : MT := (yX7_holds, cX7_holds, 2, some .boolean, 7)
def f_X7_holds (a1 : Int32) (σ : Mm) (K : Bool → Mm → Prop) : Prop := (f_X7_looksAt a1 σ (fun σ1 => (f_X7_holdsNow σ1 (fun b3 σ2 => (K b3 σ2)))))
set_option maxRecDepth 100000 in
set_option maxHeartbeats 4000000 in
theorem C_X7_holds {g : GG} {a1 : Int32} {σ : Mm} {K : Bool → Mm → Prop} (h : f_X7_holds a1 σ K) : Ct g 1 M_X7_holds (QB g 1 K) [.ref (gad g 0 0), .int a1] σ := by
  unfold f_X7_holds at h
  refine Ct.of (L := [(0, .ref (gad g 0 0)), (1, .int a1)]) (show plainName RX7 = true by decide) (Nat.le_of_ble_eq_true rfl) rfl ?_
  refine AW.aload_n dX7_holds_0 0 rfl ?_
  refine AW.iload_n dX7_holds_1 1 rfl ?_
  refine AW.callVV [.int a1] (C_X7_looksAt h) ok_X7_looksAt (id1_0_0) rfl rfl w_1020 rfl (Nat.le_of_ble_eq_true rfl) (Nat.le_of_ble_eq_true rfl) rfl dX7_holds_2 (fun σ1 h => ?_)
  refine AW.aload_n dX7_holds_5 0 rfl ?_
  refine AW.callVB [] (C_X7_holdsNow h) ok_X7_holdsNow (id1_0_0) rfl rfl w_1040 rfl (Nat.le_of_ble_eq_true rfl) (Nat.le_of_ble_eq_true rfl) rfl dX7_holds_6 (fun b3 σ2 h => ?_)
  exact AW.bret b3 rfl rfl dX7_holds_9 h
theorem ok_X7_holds : OkV M_X7_holds 1 := ⟨w_1100, wp_47, w_9, w_1101, by decide +kernel, (Nat.le_of_ble_eq_true rfl)⟩
def M_X7_sit : MT := (yX7_sit, cX7_sit, 5, some .int, 8)
def f_X7_sit_53 (a1 : Int32) (a2 : Int32) (a3 : Int32) (K : Int32 → Mm → Prop) (σ : Mm) : Prop := (f_X7_rises a1 σ (fun b11 σ10 => (f_X7_at a2 a3 σ10 (fun r13 σ12 => (vp_in r13 136 ∧ (∃ σ15, σ15 = mset σ12 1 0 (r13.toNatClampNeg) a1 ∧ (f_X7_holds a2 σ15 (fun b17 σ16 => (if b17 = true then (K (1 : Int32) σ16) else (K (0 : Int32) σ16))))))))))
set_option maxRecDepth 100000 in
set_option maxHeartbeats 4000000 in
theorem T_X7_sit_53 {g : GG} {a1 : Int32} {a2 : Int32} {a3 : Int32} {K : Int32 → Mm → Prop} {σ : Mm} (h : f_X7_sit_53 a1 a2 a3 K σ) : AW g 1 M_X7_sit (QI g 1 K) 53 [(0, .ref (gad g 0 0)), (1, .int a1), (2, .int a2), (3, .int a3)] [] σ := by
  unfold f_X7_sit_53 at h
  refine AW.aload_n dX7_sit_53 0 rfl ?_
  refine AW.iload_n dX7_sit_54 1 rfl ?_
  refine AW.callVB [.int a1] (C_X7_rises h) ok_X7_rises (id1_0_0) rfl rfl w_1090 rfl (Nat.le_of_ble_eq_true rfl) (Nat.le_of_ble_eq_true rfl) rfl dX7_sit_55 (fun b11 σ10 h => ?_)
  refine AW.pop dX7_sit_58 rfl ?_
  refine AW.aload_n dX7_sit_59 0 rfl ?_
  refine AW.get (k := 0) (v := .ref (gad g 1 0)) (id1_0_0) rfl rfl inGX7 (Nat.le_of_ble_eq_true rfl) w_872 rfl dX7_sit_60 ?_
  refine AW.iload_n dX7_sit_63 2 rfl ?_
  refine AW.iload_n dX7_sit_64 3 rfl ?_
  refine AW.callSI [.int a2, .int a3] (C_X7_at h) ok_X7_at w_1008 rfl (Nat.le_of_ble_eq_true rfl) (Nat.le_of_ble_eq_true rfl) rfl dX7_sit_65 (fun r13 σ12 h => ?_)
  refine AW.iload_n dX7_sit_68 1 rfl ?_
  obtain ⟨hq14, h⟩ := h
  refine AW.iast (jn := (r13.toNatClampNeg)) (id1_1_0) (fun _ => rfl) hq14 rfl dX7_sit_69 ?_
  obtain ⟨σ15, eσ15, h⟩ := h
  rw [← eσ15]
  refine AW.aload_n dX7_sit_70 0 rfl ?_
  refine AW.iload_n dX7_sit_71 2 rfl ?_
  refine AW.callVB [.int a2] (C_X7_holds h) ok_X7_holds (id1_0_0) rfl rfl w_1098 rfl (Nat.le_of_ble_eq_true rfl) (Nat.le_of_ble_eq_true rfl) rfl dX7_sit_72 (fun b17 σ16 h => ?_)
  refine AW.ifb_eq (tgt := 82) dX7_sit_75 rfl (fun c => ?_) (fun c => ?_)
  · replace h := ite_f c h
    refine AW.iconst (v := (0 : Int32)) dX7_sit_82 rfl ?_
    exact AW.iret rfl dX7_sit_83 h
  · replace h := ite_t c h
    refine AW.iconst (v := (1 : Int32)) dX7_sit_78 rfl ?_
    refine AW.goto (tgt := 83) dX7_sit_79 rfl ?_
    exact AW.iret rfl dX7_sit_83 h
def f_X7_sit (a1 : Int32) (a2 : Int32) (a3 : Int32) (σ : Mm) (K : Int32 → Mm → Prop) : Prop := (f_X7_isPerson a1 σ (fun b2 σ1 => (if b2 = true then (f_X7_isSeat a2 a3 σ1 (fun b6 σ5 => (if b6 = true then (f_X7_at a2 a3 σ5 (fun r8 σ7 => (vp_in r8 136 ∧ (if (σ7 1 0 (r8.toNatClampNeg)) < 0 then (f_X7_sit_53 a1 a2 a3 K σ7) else (if (σ7 1 0 (r8.toNatClampNeg)) = a1 then (f_X7_sit_53 a1 a2 a3 K σ7) else (f_X7_finds (-1000005 : Int32) σ7 (fun r19 σ18 => (K r19 σ18)))))))) else (f_X7_finds (-1000001 : Int32) σ5 (fun r21 σ20 => (K r21 σ20)))))) else (f_X7_finds (-1000001 : Int32) σ1 (fun r4 σ3 => (K r4 σ3))))))
set_option maxRecDepth 100000 in
set_option maxHeartbeats 4000000 in
theorem C_X7_sit {g : GG} {a1 : Int32} {a2 : Int32} {a3 : Int32} {σ : Mm} {K : Int32 → Mm → Prop} (h : f_X7_sit a1 a2 a3 σ K) : Ct g 1 M_X7_sit (QI g 1 K) [.ref (gad g 0 0), .int a1, .int a2, .int a3] σ := by
  unfold f_X7_sit at h
  refine Ct.of (L := [(0, .ref (gad g 0 0)), (1, .int a1), (2, .int a2), (3, .int a3)]) (show plainName RX7 = true by decide) (Nat.le_of_ble_eq_true rfl) rfl ?_
  refine AW.iload_n dX7_sit_0 1 rfl ?_
  refine AW.callSB [.int a1] (C_X7_isPerson h) ok_X7_isPerson w_943 rfl (Nat.le_of_ble_eq_true rfl) (Nat.le_of_ble_eq_true rfl) rfl dX7_sit_1 (fun b2 σ1 h => ?_)
  refine AW.ifb_eq (tgt := 16) dX7_sit_4 rfl (fun c => ?_) (fun c => ?_)
  · replace h := ite_f c h
    refine AW.aload_n dX7_sit_16 0 rfl ?_
    refine AW.ldc (v := (-1000001 : Int32)) dX7_sit_17 w_951 ?_
    refine AW.callVI [.int (-1000001 : Int32)] (C_X7_finds h) ok_X7_finds (id1_0_0) rfl rfl w_952 rfl (Nat.le_of_ble_eq_true rfl) (Nat.le_of_ble_eq_true rfl) rfl dX7_sit_19 (fun r4 σ3 h => ?_)
    exact AW.iret rfl dX7_sit_22 h
  · replace h := ite_t c h
    refine AW.aload_n dX7_sit_7 0 rfl ?_
    refine AW.iload_n dX7_sit_8 2 rfl ?_
    refine AW.iload_n dX7_sit_9 3 rfl ?_
    refine AW.callVB [.int a2, .int a3] (C_X7_isSeat h) ok_X7_isSeat (id1_0_0) rfl rfl w_1068 rfl (Nat.le_of_ble_eq_true rfl) (Nat.le_of_ble_eq_true rfl) rfl dX7_sit_10 (fun b6 σ5 h => ?_)
    refine AW.ifb_ne (tgt := 23) dX7_sit_13 rfl (fun c => ?_) (fun c => ?_)
    · replace h := ite_t c h
      refine AW.aload_n dX7_sit_23 0 rfl ?_
      refine AW.get (k := 0) (v := .ref (gad g 1 0)) (id1_0_0) rfl rfl inGX7 (Nat.le_of_ble_eq_true rfl) w_872 rfl dX7_sit_24 ?_
      refine AW.iload_n dX7_sit_27 2 rfl ?_
      refine AW.iload_n dX7_sit_28 3 rfl ?_
      refine AW.callSI [.int a2, .int a3] (C_X7_at h) ok_X7_at w_1008 rfl (Nat.le_of_ble_eq_true rfl) (Nat.le_of_ble_eq_true rfl) rfl dX7_sit_29 (fun r8 σ7 h => ?_)
      obtain ⟨hq9, h⟩ := h
      refine AW.iald (jn := (r8.toNatClampNeg)) (id1_1_0) rfl hq9 rfl dX7_sit_32 ?_
      refine AW.istore (L' := [(0, .ref (gad g 0 0)), (1, .int a1), (2, .int a2), (3, .int a3), (4, .int (σ7 1 0 (r8.toNatClampNeg)))]) dX7_sit_33 (Nat.le_of_ble_eq_true rfl) rfl ?_
      refine AW.iload dX7_sit_35 4 rfl ?_
      refine AW.if_lt (tgt := 53) dX7_sit_37 rfl (fun c => ?_) (fun c => ?_)
      · replace h := ite_t c h
        refine AW.eqL [0, 1, 2, 3] rfl ?_
        exact T_X7_sit_53 h
      · replace h := ite_f c h
        refine AW.iload dX7_sit_40 4 rfl ?_
        refine AW.iload_n dX7_sit_42 1 rfl ?_
        refine AW.icmp_eq (tgt := 53) dX7_sit_43 rfl (fun c => ?_) (fun c => ?_)
        · replace h := ite_t c h
          refine AW.eqL [0, 1, 2, 3] rfl ?_
          exact T_X7_sit_53 h
        · replace h := ite_f c h
          refine AW.aload_n dX7_sit_46 0 rfl ?_
          refine AW.ldc (v := (-1000005 : Int32)) dX7_sit_47 w_1089 ?_
          refine AW.callVI [.int (-1000005 : Int32)] (C_X7_finds h) ok_X7_finds (id1_0_0) rfl rfl w_952 rfl (Nat.le_of_ble_eq_true rfl) (Nat.le_of_ble_eq_true rfl) rfl dX7_sit_49 (fun r19 σ18 h => ?_)
          exact AW.iret rfl dX7_sit_52 h
    · replace h := ite_f c h
      refine AW.aload_n dX7_sit_16 0 rfl ?_
      refine AW.ldc (v := (-1000001 : Int32)) dX7_sit_17 w_951 ?_
      refine AW.callVI [.int (-1000001 : Int32)] (C_X7_finds h) ok_X7_finds (id1_0_0) rfl rfl w_952 rfl (Nat.le_of_ble_eq_true rfl) (Nat.le_of_ble_eq_true rfl) rfl dX7_sit_19 (fun r21 σ20 h => ?_)
      exact AW.iret rfl dX7_sit_22 h
theorem ok_X7_sit : OkV M_X7_sit 3 := ⟨w_1086, w_1087, w_9, w_1088, by decide +kernel, (Nat.le_of_ble_eq_true rfl)⟩
def M_X7_rise : MT := (yX7_rise, cX7_rise, 2, some .int, 4)
def f_X7_rise (a1 : Int32) (σ : Mm) (K : Int32 → Mm → Prop) : Prop := (f_X7_isPerson a1 σ (fun b2 σ1 => (if b2 = true then (f_X7_rises a1 σ1 (fun b6 σ5 => (if b6 = true then (K (1 : Int32) σ5) else (K (0 : Int32) σ5)))) else (f_X7_finds (-1000001 : Int32) σ1 (fun r4 σ3 => (K r4 σ3))))))
set_option maxRecDepth 100000 in
set_option maxHeartbeats 4000000 in
theorem C_X7_rise {g : GG} {a1 : Int32} {σ : Mm} {K : Int32 → Mm → Prop} (h : f_X7_rise a1 σ K) : Ct g 1 M_X7_rise (QI g 1 K) [.ref (gad g 0 0), .int a1] σ := by
  unfold f_X7_rise at h
  refine Ct.of (L := [(0, .ref (gad g 0 0)), (1, .int a1)]) (show plainName RX7 = true by decide) (Nat.le_of_ble_eq_true rfl) rfl ?_
  refine AW.iload_n dX7_rise_0 1 rfl ?_
  refine AW.callSB [.int a1] (C_X7_isPerson h) ok_X7_isPerson w_943 rfl (Nat.le_of_ble_eq_true rfl) (Nat.le_of_ble_eq_true rfl) rfl dX7_rise_1 (fun b2 σ1 h => ?_)
  refine AW.ifb_eq (tgt := 23) dX7_rise_4 rfl (fun c => ?_) (fun c => ?_)
  · replace h := ite_f c h
    refine AW.aload_n dX7_rise_23 0 rfl ?_
    refine AW.ldc (v := (-1000001 : Int32)) dX7_rise_24 w_951 ?_
    refine AW.callVI [.int (-1000001 : Int32)] (C_X7_finds h) ok_X7_finds (id1_0_0) rfl rfl w_952 rfl (Nat.le_of_ble_eq_true rfl) (Nat.le_of_ble_eq_true rfl) rfl dX7_rise_26 (fun r4 σ3 h => ?_)
    exact AW.iret rfl dX7_rise_29 h
  · replace h := ite_t c h
    refine AW.aload_n dX7_rise_7 0 rfl ?_
    refine AW.iload_n dX7_rise_8 1 rfl ?_
    refine AW.callVB [.int a1] (C_X7_rises h) ok_X7_rises (id1_0_0) rfl rfl w_1090 rfl (Nat.le_of_ble_eq_true rfl) (Nat.le_of_ble_eq_true rfl) rfl dX7_rise_9 (fun b6 σ5 h => ?_)
    refine AW.ifb_eq (tgt := 19) dX7_rise_12 rfl (fun c => ?_) (fun c => ?_)
    · replace h := ite_f c h
      refine AW.iconst (v := (0 : Int32)) dX7_rise_19 rfl ?_
      refine AW.goto (tgt := 29) dX7_rise_20 rfl ?_
      exact AW.iret rfl dX7_rise_29 h
    · replace h := ite_t c h
      refine AW.iconst (v := (1 : Int32)) dX7_rise_15 rfl ?_
      refine AW.goto (tgt := 29) dX7_rise_16 rfl ?_
      exact AW.iret rfl dX7_rise_29 h
theorem ok_X7_rise : OkV M_X7_rise 1 := ⟨w_1103, w_1104, w_9, w_1105, by decide +kernel, (Nat.le_of_ble_eq_true rfl)⟩
def M_X7_where : MT := (yX7_where, cX7_where, 2, some .int, 3)
def f_X7_where (a1 : Int32) (σ : Mm) (K : Int32 → Mm → Prop) : Prop := (f_X7_isPerson a1 σ (fun b2 σ1 => (if b2 = true then (f_X7_whereIs a1 σ1 (fun r6 σ5 => (f_X7_orNone r6 σ5 (fun r8 σ7 => (K r8 σ7))))) else (f_X7_finds (-1000001 : Int32) σ1 (fun r4 σ3 => (K r4 σ3))))))
set_option maxRecDepth 100000 in
set_option maxHeartbeats 4000000 in
theorem C_X7_where {g : GG} {a1 : Int32} {σ : Mm} {K : Int32 → Mm → Prop} (h : f_X7_where a1 σ K) : Ct g 1 M_X7_where (QI g 1 K) [.ref (gad g 0 0), .int a1] σ := by
  unfold f_X7_where at h
  refine Ct.of (L := [(0, .ref (gad g 0 0)), (1, .int a1)]) (show plainName RX7 = true by decide) (Nat.le_of_ble_eq_true rfl) rfl ?_
  refine AW.iload_n dX7_where_0 1 rfl ?_
  refine AW.callSB [.int a1] (C_X7_isPerson h) ok_X7_isPerson w_943 rfl (Nat.le_of_ble_eq_true rfl) (Nat.le_of_ble_eq_true rfl) rfl dX7_where_1 (fun b2 σ1 h => ?_)
  refine AW.ifb_eq (tgt := 19) dX7_where_4 rfl (fun c => ?_) (fun c => ?_)
  · replace h := ite_f c h
    refine AW.aload_n dX7_where_19 0 rfl ?_
    refine AW.ldc (v := (-1000001 : Int32)) dX7_where_20 w_951 ?_
    refine AW.callVI [.int (-1000001 : Int32)] (C_X7_finds h) ok_X7_finds (id1_0_0) rfl rfl w_952 rfl (Nat.le_of_ble_eq_true rfl) (Nat.le_of_ble_eq_true rfl) rfl dX7_where_22 (fun r4 σ3 h => ?_)
    exact AW.iret rfl dX7_where_25 h
  · replace h := ite_t c h
    refine AW.aload_n dX7_where_7 0 rfl ?_
    refine AW.aload_n dX7_where_8 0 rfl ?_
    refine AW.iload_n dX7_where_9 1 rfl ?_
    refine AW.callVI [.int a1] (C_X7_whereIs h) ok_X7_whereIs (id1_0_0) rfl rfl w_1094 rfl (Nat.le_of_ble_eq_true rfl) (Nat.le_of_ble_eq_true rfl) rfl dX7_where_10 (fun r6 σ5 h => ?_)
    refine AW.callVI [.int r6] (C_X7_orNone h) ok_X7_orNone (id1_0_0) rfl rfl w_1080 rfl (Nat.le_of_ble_eq_true rfl) (Nat.le_of_ble_eq_true rfl) rfl dX7_where_13 (fun r8 σ7 h => ?_)
    refine AW.goto (tgt := 25) dX7_where_16 rfl ?_
    exact AW.iret rfl dX7_where_25 h
theorem ok_X7_where : OkV M_X7_where 1 := ⟨w_1107, w_1108, w_9, w_1109, by decide +kernel, (Nat.le_of_ble_eq_true rfl)⟩
def M_X7_mayOn : MT := (yX7_mayOn, cX7_mayOn, 6, some .int, 8)
def f_X7_mayOn_74 (a1 : Int32) (a2 : Int32) (a4 : Int32) (a5 : Int32) (as1 : Int32) (as0 : Int32) (K : Int32 → Mm → Prop) (k18 : Int32 → Int32 → Mm → Prop) (σ : Mm) : Prop := (f_X7_at a2 a5 σ (fun r17 σ16 => (vp_in r17 136 ∧ (∃ σ19, σ19 = mset σ16 1 0 (r17.toNatClampNeg) (-1 : Int32) ∧ (k18 (as0 ||| as1) (a5 + (1 : Int32)) σ19)))))
set_option maxRecDepth 100000 in
set_option maxHeartbeats 4000000 in
theorem T_X7_mayOn_74 {g : GG} {a1 : Int32} {a2 : Int32} {a4 : Int32} {a5 : Int32} {as1 : Int32} {as0 : Int32} {K : Int32 → Mm → Prop} {k18 : Int32 → Int32 → Mm → Prop} {σ : Mm} (hk18 : ∀ (x3 : Int32) (x5 : Int32) (u : Mm), k18 x3 x5 u → AW g 1 M_X7_mayOn (QI g 1 K) 18 [(0, .ref (gad g 0 0)), (1, .int a1), (2, .int a2), (3, .int x3), (4, .int a4), (5, .int x5)] [] u) (h : f_X7_mayOn_74 a1 a2 a4 a5 as1 as0 K k18 σ) : AW g 1 M_X7_mayOn (QI g 1 K) 74 [(0, .ref (gad g 0 0)), (1, .int a1), (2, .int a2), (4, .int a4), (5, .int a5)] [.int as1, .int as0] σ := by
  unfold f_X7_mayOn_74 at h
  refine AW.ior dX7_mayOn_74 ?_
  refine AW.istore_n (L' := [(0, .ref (gad g 0 0)), (1, .int a1), (2, .int a2), (3, .int (as0 ||| as1)), (4, .int a4), (5, .int a5)]) dX7_mayOn_75 (Nat.le_of_ble_eq_true rfl) rfl ?_
  refine AW.aload_n dX7_mayOn_76 0 rfl ?_
  refine AW.get (k := 0) (v := .ref (gad g 1 0)) (id1_0_0) rfl rfl inGX7 (Nat.le_of_ble_eq_true rfl) w_872 rfl dX7_mayOn_77 ?_
  refine AW.iload_n dX7_mayOn_80 2 rfl ?_
  refine AW.iload dX7_mayOn_81 5 rfl ?_
  refine AW.callSI [.int a2, .int a5] (C_X7_at h) ok_X7_at w_1008 rfl (Nat.le_of_ble_eq_true rfl) (Nat.le_of_ble_eq_true rfl) rfl dX7_mayOn_83 (fun r17 σ16 h => ?_)
  refine AW.iconst (v := (-1 : Int32)) dX7_mayOn_86 rfl ?_
  obtain ⟨hq18, h⟩ := h
  refine AW.iast (jn := (r17.toNatClampNeg)) (id1_1_0) (fun _ => rfl) hq18 rfl dX7_mayOn_87 ?_
  obtain ⟨σ19, eσ19, h⟩ := h
  rw [← eσ19]
  refine AW.iinc (v := (a5 + (1 : Int32))) (L' := [(0, .ref (gad g 0 0)), (1, .int a1), (2, .int a2), (3, .int (as0 ||| as1)), (4, .int a4), (5, .int (a5 + (1 : Int32)))]) dX7_mayOn_88 5 rfl rfl (Nat.le_of_ble_eq_true rfl) rfl ?_
  refine AW.goto (tgt := 18) dX7_mayOn_91 rfl ?_
  exact hk18 _ _ _ h
set_option maxRecDepth 100000 in
def f_X7_mayOn_18 (a1 : Int32) (a2 : Int32) (a4 : Int32) (K : Int32 → Mm → Prop) (k94 : Int32 → Mm → Prop) : Nat → Int32 → Int32 → Mm → Prop
  | 0, _, _, _ => False
  | n + 1, a3, a5, σ => (f_X7_seatsOf a2 σ (fun r6 σ5 => (if r6 ≤ a5 then (k94 a3 σ5) else (f_X7_at a2 a5 σ5 (fun r8 σ7 => (vp_in r8 136 ∧ (if (σ7 1 0 (r8.toNatClampNeg)) < 0 then (f_X7_at a2 a5 σ7 (fun r11 σ10 => (vp_in r11 136 ∧ (∃ σ13, σ13 = mset σ10 1 0 (r11.toNatClampNeg) a1 ∧ (f_X7_holds a2 σ13 (fun b15 σ14 => (if b15 = true then (f_X7_mayOn_74 a1 a2 a4 a5 ((1 : Int32) <<< (a5 &&& 31)) a3 K (f_X7_mayOn_18 a1 a2 a4 K k94 n) σ14) else (f_X7_mayOn_74 a1 a2 a4 a5 (0 : Int32) a3 K (f_X7_mayOn_18 a1 a2 a4 K k94 n) σ14)))))))) else (f_X7_mayOn_18 a1 a2 a4 K k94 n a3 (a5 + (1 : Int32)) σ7))))))))
set_option maxRecDepth 100000 in
set_option maxHeartbeats 4000000 in
theorem T_X7_mayOn_18 {g : GG} {a1 : Int32} {a2 : Int32} {a4 : Int32} {K : Int32 → Mm → Prop} {k94 : Int32 → Mm → Prop} (hk94 : ∀ (x3 : Int32) (u : Mm), k94 x3 u → AW g 1 M_X7_mayOn (QI g 1 K) 94 [(0, .ref (gad g 0 0)), (1, .int a1), (3, .int x3), (4, .int a4)] [] u) : ∀ (n : Nat) (a3 : Int32) (a5 : Int32) (σ : Mm), f_X7_mayOn_18 a1 a2 a4 K k94 n a3 a5 σ → AW g 1 M_X7_mayOn (QI g 1 K) 18 [(0, .ref (gad g 0 0)), (1, .int a1), (2, .int a2), (3, .int a3), (4, .int a4), (5, .int a5)] [] σ := by
  intro n
  induction n with
  | zero => intro a3 a5 σ h; exact False.elim h
  | succ n ih =>
    intro a3 a5 σ h
    rw [f_X7_mayOn_18] at h
    refine AW.iload dX7_mayOn_18 5 rfl ?_
    refine AW.aload_n dX7_mayOn_20 0 rfl ?_
    refine AW.iload_n dX7_mayOn_21 2 rfl ?_
    refine AW.callVI [.int a2] (C_X7_seatsOf h) ok_X7_seatsOf (id1_0_0) rfl rfl w_1028 rfl (Nat.le_of_ble_eq_true rfl) (Nat.le_of_ble_eq_true rfl) rfl dX7_mayOn_22 (fun r6 σ5 h => ?_)
    refine AW.icmp_ge (tgt := 94) dX7_mayOn_25 rfl (fun c => ?_) (fun c => ?_)
    · replace h := ite_t c h
      refine AW.eqL [0, 1, 3, 4] rfl ?_
      exact hk94 _ _ h
    · replace h := ite_f c h
      refine AW.aload_n dX7_mayOn_28 0 rfl ?_
      refine AW.get (k := 0) (v := .ref (gad g 1 0)) (id1_0_0) rfl rfl inGX7 (Nat.le_of_ble_eq_true rfl) w_872 rfl dX7_mayOn_29 ?_
      refine AW.iload_n dX7_mayOn_32 2 rfl ?_
      refine AW.iload dX7_mayOn_33 5 rfl ?_
      refine AW.callSI [.int a2, .int a5] (C_X7_at h) ok_X7_at w_1008 rfl (Nat.le_of_ble_eq_true rfl) (Nat.le_of_ble_eq_true rfl) rfl dX7_mayOn_35 (fun r8 σ7 h => ?_)
      obtain ⟨hq9, h⟩ := h
      refine AW.iald (jn := (r8.toNatClampNeg)) (id1_1_0) rfl hq9 rfl dX7_mayOn_38 ?_
      refine AW.if_lt (tgt := 45) dX7_mayOn_39 rfl (fun c => ?_) (fun c => ?_)
      · replace h := ite_t c h
        refine AW.aload_n dX7_mayOn_45 0 rfl ?_
        refine AW.get (k := 0) (v := .ref (gad g 1 0)) (id1_0_0) rfl rfl inGX7 (Nat.le_of_ble_eq_true rfl) w_872 rfl dX7_mayOn_46 ?_
        refine AW.iload_n dX7_mayOn_49 2 rfl ?_
        refine AW.iload dX7_mayOn_50 5 rfl ?_
        refine AW.callSI [.int a2, .int a5] (C_X7_at h) ok_X7_at w_1008 rfl (Nat.le_of_ble_eq_true rfl) (Nat.le_of_ble_eq_true rfl) rfl dX7_mayOn_52 (fun r11 σ10 h => ?_)
        refine AW.iload_n dX7_mayOn_55 1 rfl ?_
        obtain ⟨hq12, h⟩ := h
        refine AW.iast (jn := (r11.toNatClampNeg)) (id1_1_0) (fun _ => rfl) hq12 rfl dX7_mayOn_56 ?_
        obtain ⟨σ13, eσ13, h⟩ := h
        rw [← eσ13]
        refine AW.iload_n dX7_mayOn_57 3 rfl ?_
        refine AW.aload_n dX7_mayOn_58 0 rfl ?_
        refine AW.iload_n dX7_mayOn_59 2 rfl ?_
        refine AW.callVB [.int a2] (C_X7_holds h) ok_X7_holds (id1_0_0) rfl rfl w_1098 rfl (Nat.le_of_ble_eq_true rfl) (Nat.le_of_ble_eq_true rfl) rfl dX7_mayOn_60 (fun b15 σ14 h => ?_)
        refine AW.ifb_eq (tgt := 73) dX7_mayOn_63 rfl (fun c => ?_) (fun c => ?_)
        · replace h := ite_f c h
          refine AW.iconst (v := (0 : Int32)) dX7_mayOn_73 rfl ?_
          refine AW.eqL [0, 1, 2, 4, 5] rfl ?_
          exact T_X7_mayOn_74 ih h
        · replace h := ite_t c h
          refine AW.iconst (v := (1 : Int32)) dX7_mayOn_66 rfl ?_
          refine AW.iload dX7_mayOn_67 5 rfl ?_
          refine AW.ishl dX7_mayOn_69 ?_
          refine AW.goto (tgt := 74) dX7_mayOn_70 rfl ?_
          refine AW.eqL [0, 1, 2, 4, 5] rfl ?_
          exact T_X7_mayOn_74 ih h
      · replace h := ite_f c h
        refine AW.goto (tgt := 88) dX7_mayOn_42 rfl ?_
        refine AW.iinc (v := (a5 + (1 : Int32))) (L' := [(0, .ref (gad g 0 0)), (1, .int a1), (2, .int a2), (3, .int a3), (4, .int a4), (5, .int (a5 + (1 : Int32)))]) dX7_mayOn_88 5 rfl rfl (Nat.le_of_ble_eq_true rfl) rfl ?_
        refine AW.goto (tgt := 18) dX7_mayOn_91 rfl ?_
        exact ih _ _ _ h
def f_X7_mayOn (a1 : Int32) (a2 : Int32) (σ : Mm) (K : Int32 → Mm → Prop) : Prop := (f_X7_whereIs a1 σ (fun r2 σ1 => (f_X7_rises a1 σ1 (fun b4 σ3 => (∃ m, f_X7_mayOn_18 a1 a2 r2 K (fun a3x20 σ20 => (if r2 < 0 then (K a3x20 σ20) else (f_X7_at (r2 / (10 : Int32)) (r2 - r2 / (10 : Int32) * (10 : Int32)) σ20 (fun r22 σ21 => (vp_in r22 136 ∧ (∃ σ24, σ24 = mset σ21 1 0 (r22.toNatClampNeg) a1 ∧ (K a3x20 σ24))))))) m (0 : Int32) (0 : Int32) σ3)))))
set_option maxRecDepth 100000 in
set_option maxHeartbeats 4000000 in
theorem C_X7_mayOn {g : GG} {a1 : Int32} {a2 : Int32} {σ : Mm} {K : Int32 → Mm → Prop} (h : f_X7_mayOn a1 a2 σ K) : Ct g 1 M_X7_mayOn (QI g 1 K) [.ref (gad g 0 0), .int a1, .int a2] σ := by
  unfold f_X7_mayOn at h
  refine Ct.of (L := [(0, .ref (gad g 0 0)), (1, .int a1), (2, .int a2)]) (show plainName RX7 = true by decide) (Nat.le_of_ble_eq_true rfl) rfl ?_
  refine AW.iconst (v := (0 : Int32)) dX7_mayOn_0 rfl ?_
  refine AW.istore_n (L' := [(0, .ref (gad g 0 0)), (1, .int a1), (2, .int a2), (3, .int (0 : Int32))]) dX7_mayOn_1 (Nat.le_of_ble_eq_true rfl) rfl ?_
  refine AW.aload_n dX7_mayOn_2 0 rfl ?_
  refine AW.iload_n dX7_mayOn_3 1 rfl ?_
  refine AW.callVI [.int a1] (C_X7_whereIs h) ok_X7_whereIs (id1_0_0) rfl rfl w_1094 rfl (Nat.le_of_ble_eq_true rfl) (Nat.le_of_ble_eq_true rfl) rfl dX7_mayOn_4 (fun r2 σ1 h => ?_)
  refine AW.istore (L' := [(0, .ref (gad g 0 0)), (1, .int a1), (2, .int a2), (3, .int (0 : Int32)), (4, .int r2)]) dX7_mayOn_7 (Nat.le_of_ble_eq_true rfl) rfl ?_
  refine AW.aload_n dX7_mayOn_9 0 rfl ?_
  refine AW.iload_n dX7_mayOn_10 1 rfl ?_
  refine AW.callVB [.int a1] (C_X7_rises h) ok_X7_rises (id1_0_0) rfl rfl w_1090 rfl (Nat.le_of_ble_eq_true rfl) (Nat.le_of_ble_eq_true rfl) rfl dX7_mayOn_11 (fun b4 σ3 h => ?_)
  refine AW.pop dX7_mayOn_14 rfl ?_
  refine AW.iconst (v := (0 : Int32)) dX7_mayOn_15 rfl ?_
  refine AW.istore (L' := [(0, .ref (gad g 0 0)), (1, .int a1), (2, .int a2), (3, .int (0 : Int32)), (4, .int r2), (5, .int (0 : Int32))]) dX7_mayOn_16 (Nat.le_of_ble_eq_true rfl) rfl ?_
  obtain ⟨m, h⟩ := h
  refine T_X7_mayOn_18 (fun a3x20 σ20 h => ?_) m _ _ _ h
  refine AW.iload dX7_mayOn_94 3 rfl ?_
  refine AW.if_lt (tgt := 118) dX7_mayOn_96 rfl (fun c => ?_) (fun c => ?_)
  · replace h := ite_t c h
    refine AW.iload_n dX7_mayOn_118 2 rfl ?_
    exact AW.iret rfl dX7_mayOn_119 h
  · replace h := ite_f c h
    refine AW.aload_n dX7_mayOn_99 0 rfl ?_
    refine AW.get (k := 0) (v := .ref (gad g 1 0)) (id1_0_0) rfl rfl inGX7 (Nat.le_of_ble_eq_true rfl) w_872 rfl dX7_mayOn_100 ?_
    refine AW.iload dX7_mayOn_103 3 rfl ?_
    refine AW.bipush (v := (10 : Int32)) dX7_mayOn_105 rfl ?_
    refine AW.idiv dX7_mayOn_107 (by decide) ?_
    refine AW.iload dX7_mayOn_108 3 rfl ?_
    refine AW.bipush (v := (10 : Int32)) dX7_mayOn_110 rfl ?_
    refine AW.irem dX7_mayOn_112 (by decide) ?_
    refine AW.callSI [.int (r2 / (10 : Int32)), .int (r2 - r2 / (10 : Int32) * (10 : Int32))] (C_X7_at h) ok_X7_at w_1008 rfl (Nat.le_of_ble_eq_true rfl) (Nat.le_of_ble_eq_true rfl) rfl dX7_mayOn_113 (fun r22 σ21 h => ?_)
    refine AW.iload_n dX7_mayOn_116 1 rfl ?_
    obtain ⟨hq23, h⟩ := h
    refine AW.iast (jn := (r22.toNatClampNeg)) (id1_1_0) (fun _ => rfl) hq23 rfl dX7_mayOn_117 ?_
    obtain ⟨σ24, eσ24, h⟩ := h
    rw [← eσ24]
    refine AW.iload_n dX7_mayOn_118 2 rfl ?_
    exact AW.iret rfl dX7_mayOn_119 h
theorem ok_X7_mayOn : OkV M_X7_mayOn 2 := ⟨w_1116, wp_48, w_9, w_1117, by decide +kernel, (Nat.le_of_ble_eq_true rfl)⟩
def M_X7_may : MT := (yX7_may, cX7_may, 3, some .int, 9)
def f_X7_may (a1 : Int32) (a2 : Int32) (σ : Mm) (K : Int32 → Mm → Prop) : Prop := (f_X7_isPerson a1 σ (fun b2 σ1 => (if b2 = true then (f_X7_isBench a2 σ1 (fun b6 σ5 => (if b6 = true then (f_X7_mayOn a1 a2 σ5 (fun r10 σ9 => (K r10 σ9))) else (f_X7_finds (-1000001 : Int32) σ5 (fun r8 σ7 => (K r8 σ7)))))) else (f_X7_finds (-1000001 : Int32) σ1 (fun r4 σ3 => (K r4 σ3))))))
set_option maxRecDepth 100000 in
set_option maxHeartbeats 4000000 in
theorem C_X7_may {g : GG} {a1 : Int32} {a2 : Int32} {σ : Mm} {K : Int32 → Mm → Prop} (h : f_X7_may a1 a2 σ K) : Ct g 1 M_X7_may (QI g 1 K) [.ref (gad g 0 0), .int a1, .int a2] σ := by
  unfold f_X7_may at h
  refine Ct.of (L := [(0, .ref (gad g 0 0)), (1, .int a1), (2, .int a2)]) (show plainName RX7 = true by decide) (Nat.le_of_ble_eq_true rfl) rfl ?_
  refine AW.iload_n dX7_may_0 1 rfl ?_
  refine AW.callSB [.int a1] (C_X7_isPerson h) ok_X7_isPerson w_943 rfl (Nat.le_of_ble_eq_true rfl) (Nat.le_of_ble_eq_true rfl) rfl dX7_may_1 (fun b2 σ1 h => ?_)
  refine AW.ifb_eq (tgt := 24) dX7_may_4 rfl (fun c => ?_) (fun c => ?_)
  · replace h := ite_f c h
    refine AW.aload_n dX7_may_24 0 rfl ?_
    refine AW.ldc (v := (-1000001 : Int32)) dX7_may_25 w_951 ?_
    refine AW.callVI [.int (-1000001 : Int32)] (C_X7_finds h) ok_X7_finds (id1_0_0) rfl rfl w_952 rfl (Nat.le_of_ble_eq_true rfl) (Nat.le_of_ble_eq_true rfl) rfl dX7_may_27 (fun r4 σ3 h => ?_)
    exact AW.iret rfl dX7_may_30 h
  · replace h := ite_t c h
    refine AW.aload_n dX7_may_7 0 rfl ?_
    refine AW.iload_n dX7_may_8 2 rfl ?_
    refine AW.callVB [.int a2] (C_X7_isBench h) ok_X7_isBench (id1_0_0) rfl rfl w_1015 rfl (Nat.le_of_ble_eq_true rfl) (Nat.le_of_ble_eq_true rfl) rfl dX7_may_9 (fun b6 σ5 h => ?_)
    refine AW.ifb_eq (tgt := 24) dX7_may_12 rfl (fun c => ?_) (fun c => ?_)
    · replace h := ite_f c h
      refine AW.aload_n dX7_may_24 0 rfl ?_
      refine AW.ldc (v := (-1000001 : Int32)) dX7_may_25 w_951 ?_
      refine AW.callVI [.int (-1000001 : Int32)] (C_X7_finds h) ok_X7_finds (id1_0_0) rfl rfl w_952 rfl (Nat.le_of_ble_eq_true rfl) (Nat.le_of_ble_eq_true rfl) rfl dX7_may_27 (fun r8 σ7 h => ?_)
      exact AW.iret rfl dX7_may_30 h
    · replace h := ite_t c h
      refine AW.aload_n dX7_may_15 0 rfl ?_
      refine AW.iload_n dX7_may_16 1 rfl ?_
      refine AW.iload_n dX7_may_17 2 rfl ?_
      refine AW.callVI [.int a1, .int a2] (C_X7_mayOn h) ok_X7_mayOn (id1_0_0) rfl rfl w_1114 rfl (Nat.le_of_ble_eq_true rfl) (Nat.le_of_ble_eq_true rfl) rfl dX7_may_18 (fun r10 σ9 h => ?_)
      refine AW.goto (tgt := 30) dX7_may_21 rfl ?_
      exact AW.iret rfl dX7_may_30 h
theorem ok_X7_may : OkV M_X7_may 2 := ⟨w_1111, w_1112, w_9, w_1113, by decide +kernel, (Nat.le_of_ble_eq_true rfl)⟩
def M_X7_row_1_3 : MT := (yX7_row, cX7_row, 3, none, 1)
set_option maxRecDepth 100000 in
def f_X7_row_1_3_2 (K : Mm → Prop) : Nat → Int32 → Mm → Prop
  | 0, _, _ => False
  | n + 1, a2, σ => (if (136 : Int32) ≤ a2 then (K σ) else (vp_in a2 136 ∧ (vp_in a2 136 ∧ (∃ σ3, σ3 = mset σ 3 0 (a2.toNatClampNeg) (σ 1 0 (a2.toNatClampNeg)) ∧ (f_X7_row_1_3_2 K n (a2 + (1 : Int32)) σ3)))))
set_option maxRecDepth 100000 in
set_option maxHeartbeats 4000000 in
theorem T_X7_row_1_3_2 {g : GG} {K : Mm → Prop} : ∀ (n : Nat) (a2 : Int32) (σ : Mm), f_X7_row_1_3_2 K n a2 σ → AW g 1 M_X7_row_1_3 (QV g 1 K) 2 [(0, .ref (gad g 1 0)), (1, .ref (gad g 3 0)), (2, .int a2)] [] σ := by
  intro n
  induction n with
  | zero => intro a2 σ h; exact False.elim h
  | succ n ih =>
    intro a2 σ h
    rw [f_X7_row_1_3_2] at h
    refine AW.iload_n dX7_row_2 2 rfl ?_
    refine AW.sipush (v := (136 : Int32)) dX7_row_3 rfl ?_
    refine AW.icmp_ge (tgt := 21) dX7_row_6 rfl (fun c => ?_) (fun c => ?_)
    · replace h := ite_t c h
      exact AW.vret rfl dX7_row_21 h
    · replace h := ite_f c h
      refine AW.aload_n dX7_row_9 1 rfl ?_
      refine AW.iload_n dX7_row_10 2 rfl ?_
      refine AW.aload_n dX7_row_11 0 rfl ?_
      refine AW.iload_n dX7_row_12 2 rfl ?_
      obtain ⟨hq1, h⟩ := h
      refine AW.iald (jn := (a2.toNatClampNeg)) (id1_1_0) rfl hq1 rfl dX7_row_13 ?_
      obtain ⟨hq2, h⟩ := h
      refine AW.iast (jn := (a2.toNatClampNeg)) (id1_3_0) (fun _ => rfl) hq2 rfl dX7_row_14 ?_
      obtain ⟨σ3, eσ3, h⟩ := h
      rw [← eσ3]
      refine AW.iinc (v := (a2 + (1 : Int32))) (L' := [(0, .ref (gad g 1 0)), (1, .ref (gad g 3 0)), (2, .int (a2 + (1 : Int32)))]) dX7_row_15 2 rfl rfl (Nat.le_of_ble_eq_true rfl) rfl ?_
      refine AW.goto (tgt := 2) dX7_row_18 rfl ?_
      exact ih _ _ h
def f_X7_row_1_3 (σ : Mm) (K : Mm → Prop) : Prop := (∃ m, f_X7_row_1_3_2 K m (0 : Int32) σ)
set_option maxRecDepth 100000 in
set_option maxHeartbeats 4000000 in
theorem C_X7_row_1_3 {g : GG} {σ : Mm} {K : Mm → Prop} (h : f_X7_row_1_3 σ K) : Ct g 1 M_X7_row_1_3 (QV g 1 K) [.ref (gad g 1 0), .ref (gad g 3 0)] σ := by
  unfold f_X7_row_1_3 at h
  refine Ct.of (L := [(0, .ref (gad g 1 0)), (1, .ref (gad g 3 0))]) (show plainName RX7 = true by decide) (Nat.le_of_ble_eq_true rfl) rfl ?_
  refine AW.iconst (v := (0 : Int32)) dX7_row_0 rfl ?_
  refine AW.istore_n (L' := [(0, .ref (gad g 1 0)), (1, .ref (gad g 3 0)), (2, .int (0 : Int32))]) dX7_row_1 (Nat.le_of_ble_eq_true rfl) rfl ?_
  obtain ⟨m, h⟩ := h
  refine T_X7_row_1_3_2 m _ _ h
theorem ok_X7_row_1_3 : OkS M_X7_row_1_3 2 := ⟨w_1123, w_9, w_1124, by decide +kernel, (Nat.le_of_ble_eq_true rfl)⟩
def M_X7_has : MT := (yX7_has, cX7_has, 2, some .boolean, 1)
def f_X7_has (a0 : Int32) (a1 : Int32) (σ : Mm) (K : Bool → Mm → Prop) : Prop := (if ((a0 >>> (a1 &&& 31)) &&& (1 : Int32)) = (1 : Int32) then (K true σ) else (K false σ))
set_option maxRecDepth 100000 in
set_option maxHeartbeats 4000000 in
theorem C_X7_has {g : GG} {a0 : Int32} {a1 : Int32} {σ : Mm} {K : Bool → Mm → Prop} (h : f_X7_has a0 a1 σ K) : Ct g 1 M_X7_has (QB g 1 K) [.int a0, .int a1] σ := by
  unfold f_X7_has at h
  refine Ct.of (L := [(0, .int a0), (1, .int a1)]) (show plainName RX7 = true by decide) (Nat.le_of_ble_eq_true rfl) rfl ?_
  refine AW.iload_n dX7_has_0 0 rfl ?_
  refine AW.iload_n dX7_has_1 1 rfl ?_
  refine AW.ishr dX7_has_2 ?_
  refine AW.iconst (v := (1 : Int32)) dX7_has_3 rfl ?_
  refine AW.iand dX7_has_4 ?_
  refine AW.iconst (v := (1 : Int32)) dX7_has_5 rfl ?_
  refine AW.icmp_ne (tgt := 13) dX7_has_6 rfl (fun c => ?_) (fun c => ?_)
  · replace h := ite_f c h
    refine AW.iconst (v := (0 : Int32)) dX7_has_13 rfl ?_
    exact AW.bret false rfl rfl dX7_has_14 h
  · replace h := ite_t c h
    refine AW.iconst (v := (1 : Int32)) dX7_has_9 rfl ?_
    refine AW.goto (tgt := 14) dX7_has_10 rfl ?_
    exact AW.bret true rfl rfl dX7_has_14 h
theorem ok_X7_has : OkS M_X7_has 2 := ⟨w_1126, w_9, w_1127, by decide +kernel, (Nat.le_of_ble_eq_true rfl)⟩
def M_X7_stillMay : MT := (yX7_stillMay, cX7_stillMay, 5, some .int, 9)
set_option maxRecDepth 100000 in
def f_X7_stillMay_5 (a1 : Int32) (a2 : Int32) (K : Int32 → Mm → Prop) : Nat → Int32 → Int32 → Mm → Prop
  | 0, _, _, _ => False
  | n + 1, a3, a4, σ => (if (8 : Int32) ≤ a4 then (K a3 σ) else (if a4 = a1 then (f_X7_stillMay_5 a1 a2 K n (a3 + (0 : Int32)) (a4 + (1 : Int32)) σ) else (f_X7_whereIs a4 σ (fun r2 σ1 => (if 0 ≤ r2 then (f_X7_stillMay_5 a1 a2 K n (a3 + (0 : Int32)) (a4 + (1 : Int32)) σ1) else (f_X7_mayOn a4 a2 σ1 (fun r4 σ3 => (if r4 = 0 then (f_X7_stillMay_5 a1 a2 K n (a3 + (0 : Int32)) (a4 + (1 : Int32)) σ3) else (f_X7_stillMay_5 a1 a2 K n (a3 + (1 : Int32)) (a4 + (1 : Int32)) σ3)))))))))
set_option maxRecDepth 100000 in
set_option maxHeartbeats 4000000 in
theorem T_X7_stillMay_5 {g : GG} {a1 : Int32} {a2 : Int32} {K : Int32 → Mm → Prop} : ∀ (n : Nat) (a3 : Int32) (a4 : Int32) (σ : Mm), f_X7_stillMay_5 a1 a2 K n a3 a4 σ → AW g 1 M_X7_stillMay (QI g 1 K) 5 [(0, .ref (gad g 0 0)), (1, .int a1), (2, .int a2), (3, .int a3), (4, .int a4)] [] σ := by
  intro n
  induction n with
  | zero => intro a3 a4 σ h; exact False.elim h
  | succ n ih =>
    intro a3 a4 σ h
    rw [f_X7_stillMay_5] at h
    refine AW.iload dX7_stillMay_5 4 rfl ?_
    refine AW.bipush (v := (8 : Int32)) dX7_stillMay_7 rfl ?_
    refine AW.icmp_ge (tgt := 51) dX7_stillMay_9 rfl (fun c => ?_) (fun c => ?_)
    · replace h := ite_t c h
      refine AW.iload_n dX7_stillMay_51 3 rfl ?_
      exact AW.iret rfl dX7_stillMay_52 h
    · replace h := ite_f c h
      refine AW.iload_n dX7_stillMay_12 3 rfl ?_
      refine AW.iload dX7_stillMay_13 4 rfl ?_
      refine AW.iload_n dX7_stillMay_15 1 rfl ?_
      refine AW.icmp_eq (tgt := 42) dX7_stillMay_16 rfl (fun c => ?_) (fun c => ?_)
      · replace h := ite_t c h
        refine AW.iconst (v := (0 : Int32)) dX7_stillMay_42 rfl ?_
        refine AW.iadd dX7_stillMay_43 ?_
        refine AW.istore_n (L' := [(0, .ref (gad g 0 0)), (1, .int a1), (2, .int a2), (3, .int (a3 + (0 : Int32))), (4, .int a4)]) dX7_stillMay_44 (Nat.le_of_ble_eq_true rfl) rfl ?_
        refine AW.iinc (v := (a4 + (1 : Int32))) (L' := [(0, .ref (gad g 0 0)), (1, .int a1), (2, .int a2), (3, .int (a3 + (0 : Int32))), (4, .int (a4 + (1 : Int32)))]) dX7_stillMay_45 4 rfl rfl (Nat.le_of_ble_eq_true rfl) rfl ?_
        refine AW.goto (tgt := 5) dX7_stillMay_48 rfl ?_
        exact ih _ _ _ h
      · replace h := ite_f c h
        refine AW.aload_n dX7_stillMay_19 0 rfl ?_
        refine AW.iload dX7_stillMay_20 4 rfl ?_
        refine AW.callVI [.int a4] (C_X7_whereIs h) ok_X7_whereIs (id1_0_0) rfl rfl w_1094 rfl (Nat.le_of_ble_eq_true rfl) (Nat.le_of_ble_eq_true rfl) rfl dX7_stillMay_22 (fun r2 σ1 h => ?_)
        refine AW.if_ge (tgt := 42) dX7_stillMay_25 rfl (fun c => ?_) (fun c => ?_)
        · replace h := ite_t c h
          refine AW.iconst (v := (0 : Int32)) dX7_stillMay_42 rfl ?_
          refine AW.iadd dX7_stillMay_43 ?_
          refine AW.istore_n (L' := [(0, .ref (gad g 0 0)), (1, .int a1), (2, .int a2), (3, .int (a3 + (0 : Int32))), (4, .int a4)]) dX7_stillMay_44 (Nat.le_of_ble_eq_true rfl) rfl ?_
          refine AW.iinc (v := (a4 + (1 : Int32))) (L' := [(0, .ref (gad g 0 0)), (1, .int a1), (2, .int a2), (3, .int (a3 + (0 : Int32))), (4, .int (a4 + (1 : Int32)))]) dX7_stillMay_45 4 rfl rfl (Nat.le_of_ble_eq_true rfl) rfl ?_
          refine AW.goto (tgt := 5) dX7_stillMay_48 rfl ?_
          exact ih _ _ _ h
        · replace h := ite_f c h
          refine AW.aload_n dX7_stillMay_28 0 rfl ?_
          refine AW.iload dX7_stillMay_29 4 rfl ?_
          refine AW.iload_n dX7_stillMay_31 2 rfl ?_
          refine AW.callVI [.int a4, .int a2] (C_X7_mayOn h) ok_X7_mayOn (id1_0_0) rfl rfl w_1114 rfl (Nat.le_of_ble_eq_true rfl) (Nat.le_of_ble_eq_true rfl) rfl dX7_stillMay_32 (fun r4 σ3 h => ?_)
          refine AW.if_eq (tgt := 42) dX7_stillMay_35 rfl (fun c => ?_) (fun c => ?_)
          · replace h := ite_t c h
            refine AW.iconst (v := (0 : Int32)) dX7_stillMay_42 rfl ?_
            refine AW.iadd dX7_stillMay_43 ?_
            refine AW.istore_n (L' := [(0, .ref (gad g 0 0)), (1, .int a1), (2, .int a2), (3, .int (a3 + (0 : Int32))), (4, .int a4)]) dX7_stillMay_44 (Nat.le_of_ble_eq_true rfl) rfl ?_
            refine AW.iinc (v := (a4 + (1 : Int32))) (L' := [(0, .ref (gad g 0 0)), (1, .int a1), (2, .int a2), (3, .int (a3 + (0 : Int32))), (4, .int (a4 + (1 : Int32)))]) dX7_stillMay_45 4 rfl rfl (Nat.le_of_ble_eq_true rfl) rfl ?_
            refine AW.goto (tgt := 5) dX7_stillMay_48 rfl ?_
            exact ih _ _ _ h
          · replace h := ite_f c h
            refine AW.iconst (v := (1 : Int32)) dX7_stillMay_38 rfl ?_
            refine AW.goto (tgt := 43) dX7_stillMay_39 rfl ?_
            refine AW.iadd dX7_stillMay_43 ?_
            refine AW.istore_n (L' := [(0, .ref (gad g 0 0)), (1, .int a1), (2, .int a2), (3, .int (a3 + (1 : Int32))), (4, .int a4)]) dX7_stillMay_44 (Nat.le_of_ble_eq_true rfl) rfl ?_
            refine AW.iinc (v := (a4 + (1 : Int32))) (L' := [(0, .ref (gad g 0 0)), (1, .int a1), (2, .int a2), (3, .int (a3 + (1 : Int32))), (4, .int (a4 + (1 : Int32)))]) dX7_stillMay_45 4 rfl rfl (Nat.le_of_ble_eq_true rfl) rfl ?_
            refine AW.goto (tgt := 5) dX7_stillMay_48 rfl ?_
            exact ih _ _ _ h
def f_X7_stillMay (a1 : Int32) (a2 : Int32) (σ : Mm) (K : Int32 → Mm → Prop) : Prop := (∃ m, f_X7_stillMay_5 a1 a2 K m (0 : Int32) (0 : Int32) σ)
set_option maxRecDepth 100000 in
set_option maxHeartbeats 4000000 in
theorem C_X7_stillMay {g : GG} {a1 : Int32} {a2 : Int32} {σ : Mm} {K : Int32 → Mm → Prop} (h : f_X7_stillMay a1 a2 σ K) : Ct g 1 M_X7_stillMay (QI g 1 K) [.ref (gad g 0 0), .int a1, .int a2] σ := by
  unfold f_X7_stillMay at h
  refine Ct.of (L := [(0, .ref (gad g 0 0)), (1, .int a1), (2, .int a2)]) (show plainName RX7 = true by decide) (Nat.le_of_ble_eq_true rfl) rfl ?_
  refine AW.iconst (v := (0 : Int32)) dX7_stillMay_0 rfl ?_
  refine AW.istore_n (L' := [(0, .ref (gad g 0 0)), (1, .int a1), (2, .int a2), (3, .int (0 : Int32))]) dX7_stillMay_1 (Nat.le_of_ble_eq_true rfl) rfl ?_
  refine AW.iconst (v := (0 : Int32)) dX7_stillMay_2 rfl ?_
  refine AW.istore (L' := [(0, .ref (gad g 0 0)), (1, .int a1), (2, .int a2), (3, .int (0 : Int32)), (4, .int (0 : Int32))]) dX7_stillMay_3 (Nat.le_of_ble_eq_true rfl) rfl ?_
  obtain ⟨m, h⟩ := h
  refine T_X7_stillMay_5 m _ _ _ h
theorem ok_X7_stillMay : OkV M_X7_stillMay 2 := ⟨w_1130, wp_49, w_9, w_1131, by decide +kernel, (Nat.le_of_ble_eq_true rfl)⟩
def M_X7_row_3_1 : MT := (yX7_row, cX7_row, 3, none, 1)
set_option maxRecDepth 100000 in
def f_X7_row_3_1_2 (K : Mm → Prop) : Nat → Int32 → Mm → Prop
  | 0, _, _ => False
  | n + 1, a2, σ => (if (136 : Int32) ≤ a2 then (K σ) else (vp_in a2 136 ∧ (vp_in a2 136 ∧ (∃ σ3, σ3 = mset σ 1 0 (a2.toNatClampNeg) (σ 3 0 (a2.toNatClampNeg)) ∧ (f_X7_row_3_1_2 K n (a2 + (1 : Int32)) σ3)))))
set_option maxRecDepth 100000 in
set_option maxHeartbeats 4000000 in
theorem T_X7_row_3_1_2 {g : GG} {K : Mm → Prop} : ∀ (n : Nat) (a2 : Int32) (σ : Mm), f_X7_row_3_1_2 K n a2 σ → AW g 1 M_X7_row_3_1 (QV g 1 K) 2 [(0, .ref (gad g 3 0)), (1, .ref (gad g 1 0)), (2, .int a2)] [] σ := by
  intro n
  induction n with
  | zero => intro a2 σ h; exact False.elim h
  | succ n ih =>
    intro a2 σ h
    rw [f_X7_row_3_1_2] at h
    refine AW.iload_n dX7_row_2 2 rfl ?_
    refine AW.sipush (v := (136 : Int32)) dX7_row_3 rfl ?_
    refine AW.icmp_ge (tgt := 21) dX7_row_6 rfl (fun c => ?_) (fun c => ?_)
    · replace h := ite_t c h
      exact AW.vret rfl dX7_row_21 h
    · replace h := ite_f c h
      refine AW.aload_n dX7_row_9 1 rfl ?_
      refine AW.iload_n dX7_row_10 2 rfl ?_
      refine AW.aload_n dX7_row_11 0 rfl ?_
      refine AW.iload_n dX7_row_12 2 rfl ?_
      obtain ⟨hq1, h⟩ := h
      refine AW.iald (jn := (a2.toNatClampNeg)) (id1_3_0) rfl hq1 rfl dX7_row_13 ?_
      obtain ⟨hq2, h⟩ := h
      refine AW.iast (jn := (a2.toNatClampNeg)) (id1_1_0) (fun _ => rfl) hq2 rfl dX7_row_14 ?_
      obtain ⟨σ3, eσ3, h⟩ := h
      rw [← eσ3]
      refine AW.iinc (v := (a2 + (1 : Int32))) (L' := [(0, .ref (gad g 3 0)), (1, .ref (gad g 1 0)), (2, .int (a2 + (1 : Int32)))]) dX7_row_15 2 rfl rfl (Nat.le_of_ble_eq_true rfl) rfl ?_
      refine AW.goto (tgt := 2) dX7_row_18 rfl ?_
      exact ih _ _ h
def f_X7_row_3_1 (σ : Mm) (K : Mm → Prop) : Prop := (∃ m, f_X7_row_3_1_2 K m (0 : Int32) σ)
set_option maxRecDepth 100000 in
set_option maxHeartbeats 4000000 in
theorem C_X7_row_3_1 {g : GG} {σ : Mm} {K : Mm → Prop} (h : f_X7_row_3_1 σ K) : Ct g 1 M_X7_row_3_1 (QV g 1 K) [.ref (gad g 3 0), .ref (gad g 1 0)] σ := by
  unfold f_X7_row_3_1 at h
  refine Ct.of (L := [(0, .ref (gad g 3 0)), (1, .ref (gad g 1 0))]) (show plainName RX7 = true by decide) (Nat.le_of_ble_eq_true rfl) rfl ?_
  refine AW.iconst (v := (0 : Int32)) dX7_row_0 rfl ?_
  refine AW.istore_n (L' := [(0, .ref (gad g 3 0)), (1, .ref (gad g 1 0)), (2, .int (0 : Int32))]) dX7_row_1 (Nat.le_of_ble_eq_true rfl) rfl ?_
  obtain ⟨m, h⟩ := h
  refine T_X7_row_3_1_2 m _ _ h
theorem ok_X7_row_3_1 : OkS M_X7_row_3_1 2 := ⟨w_1123, w_9, w_1124, by decide +kernel, (Nat.le_of_ble_eq_true rfl)⟩
def M_X7_kind : MT := (yX7_kind, cX7_kind, 8, some .int, 10)
set_option maxRecDepth 100000 in
def f_X7_kind_55 (a1 : Int32) (a2 : Int32) (a3 : Int32) (K : Int32 → Mm → Prop) (k138 : Int32 → Mm → Prop) : Nat → Int32 → Int32 → Int32 → Mm → Prop
  | 0, _, _, _, _ => False
  | n + 1, a4, a5, a6, σ => (f_X7_seatsOf a2 σ (fun r13 σ12 => (if r13 ≤ a6 then (k138 a4 σ12) else (f_X7_has a3 a6 σ12 (fun b15 σ14 => (if b15 = true then (f_X7_at a2 a6 σ14 (fun r17 σ16 => (vp_in r17 136 ∧ (∃ σ19, σ19 = mset σ16 1 0 (r17.toNatClampNeg) a1 ∧ (f_X7_stillMay a1 a2 σ19 (fun r21 σ20 => (f_X7_at a2 a6 σ20 (fun r23 σ22 => (vp_in r23 136 ∧ (∃ σ25, σ25 = mset σ22 1 0 (r23.toNatClampNeg) (-1 : Int32) ∧ (if a4 < 0 then (f_X7_kind_55 a1 a2 a3 K k138 n a6 r21 (a6 + (1 : Int32)) σ25) else (if a5 < r21 then (f_X7_kind_55 a1 a2 a3 K k138 n a6 r21 (a6 + (1 : Int32)) σ25) else (f_X7_kind_55 a1 a2 a3 K k138 n a4 a5 (a6 + (1 : Int32)) σ25))))))))))))) else (f_X7_kind_55 a1 a2 a3 K k138 n a4 a5 (a6 + (1 : Int32)) σ14)))))))
set_option maxRecDepth 100000 in
set_option maxHeartbeats 4000000 in
theorem T_X7_kind_55 {g : GG} {a1 : Int32} {a2 : Int32} {a3 : Int32} {K : Int32 → Mm → Prop} {k138 : Int32 → Mm → Prop} (hk138 : ∀ (x4 : Int32) (u : Mm), k138 x4 u → AW g 1 M_X7_kind (QI g 1 K) 138 [(0, .ref (gad g 0 0)), (4, .int x4)] [] u) : ∀ (n : Nat) (a4 : Int32) (a5 : Int32) (a6 : Int32) (σ : Mm), f_X7_kind_55 a1 a2 a3 K k138 n a4 a5 a6 σ → AW g 1 M_X7_kind (QI g 1 K) 55 [(0, .ref (gad g 0 0)), (1, .int a1), (2, .int a2), (3, .int a3), (4, .int a4), (5, .int a5), (6, .int a6)] [] σ := by
  intro n
  induction n with
  | zero => intro a4 a5 a6 σ h; exact False.elim h
  | succ n ih =>
    intro a4 a5 a6 σ h
    rw [f_X7_kind_55] at h
    refine AW.iload dX7_kind_55 6 rfl ?_
    refine AW.aload_n dX7_kind_57 0 rfl ?_
    refine AW.iload_n dX7_kind_58 2 rfl ?_
    refine AW.callVI [.int a2] (C_X7_seatsOf h) ok_X7_seatsOf (id1_0_0) rfl rfl w_1028 rfl (Nat.le_of_ble_eq_true rfl) (Nat.le_of_ble_eq_true rfl) rfl dX7_kind_59 (fun r13 σ12 h => ?_)
    refine AW.icmp_ge (tgt := 138) dX7_kind_62 rfl (fun c => ?_) (fun c => ?_)
    · replace h := ite_t c h
      refine AW.eqL [0, 4] rfl ?_
      exact hk138 _ _ h
    · replace h := ite_f c h
      refine AW.iload_n dX7_kind_65 3 rfl ?_
      refine AW.iload dX7_kind_66 6 rfl ?_
      refine AW.callSB [.int a3, .int a6] (C_X7_has h) ok_X7_has w_1125 rfl (Nat.le_of_ble_eq_true rfl) (Nat.le_of_ble_eq_true rfl) rfl dX7_kind_68 (fun b15 σ14 h => ?_)
      refine AW.ifb_ne (tgt := 77) dX7_kind_71 rfl (fun c => ?_) (fun c => ?_)
      · replace h := ite_t c h
        refine AW.aload_n dX7_kind_77 0 rfl ?_
        refine AW.get (k := 0) (v := .ref (gad g 1 0)) (id1_0_0) rfl rfl inGX7 (Nat.le_of_ble_eq_true rfl) w_872 rfl dX7_kind_78 ?_
        refine AW.iload_n dX7_kind_81 2 rfl ?_
        refine AW.iload dX7_kind_82 6 rfl ?_
        refine AW.callSI [.int a2, .int a6] (C_X7_at h) ok_X7_at w_1008 rfl (Nat.le_of_ble_eq_true rfl) (Nat.le_of_ble_eq_true rfl) rfl dX7_kind_84 (fun r17 σ16 h => ?_)
        refine AW.iload_n dX7_kind_87 1 rfl ?_
        obtain ⟨hq18, h⟩ := h
        refine AW.iast (jn := (r17.toNatClampNeg)) (id1_1_0) (fun _ => rfl) hq18 rfl dX7_kind_88 ?_
        obtain ⟨σ19, eσ19, h⟩ := h
        rw [← eσ19]
        refine AW.aload_n dX7_kind_89 0 rfl ?_
        refine AW.iload_n dX7_kind_90 1 rfl ?_
        refine AW.iload_n dX7_kind_91 2 rfl ?_
        refine AW.callVI [.int a1, .int a2] (C_X7_stillMay h) ok_X7_stillMay (id1_0_0) rfl rfl w_1128 rfl (Nat.le_of_ble_eq_true rfl) (Nat.le_of_ble_eq_true rfl) rfl dX7_kind_92 (fun r21 σ20 h => ?_)
        refine AW.istore (L' := [(0, .ref (gad g 0 0)), (1, .int a1), (2, .int a2), (3, .int a3), (4, .int a4), (5, .int a5), (6, .int a6), (7, .int r21)]) dX7_kind_95 (Nat.le_of_ble_eq_true rfl) rfl ?_
        refine AW.aload_n dX7_kind_97 0 rfl ?_
        refine AW.get (k := 0) (v := .ref (gad g 1 0)) (id1_0_0) rfl rfl inGX7 (Nat.le_of_ble_eq_true rfl) w_872 rfl dX7_kind_98 ?_
        refine AW.iload_n dX7_kind_101 2 rfl ?_
        refine AW.iload dX7_kind_102 6 rfl ?_
        refine AW.callSI [.int a2, .int a6] (C_X7_at h) ok_X7_at w_1008 rfl (Nat.le_of_ble_eq_true rfl) (Nat.le_of_ble_eq_true rfl) rfl dX7_kind_104 (fun r23 σ22 h => ?_)
        refine AW.iconst (v := (-1 : Int32)) dX7_kind_107 rfl ?_
        obtain ⟨hq24, h⟩ := h
        refine AW.iast (jn := (r23.toNatClampNeg)) (id1_1_0) (fun _ => rfl) hq24 rfl dX7_kind_108 ?_
        obtain ⟨σ25, eσ25, h⟩ := h
        rw [← eσ25]
        refine AW.iload dX7_kind_109 4 rfl ?_
        refine AW.if_lt (tgt := 124) dX7_kind_111 rfl (fun c => ?_) (fun c => ?_)
        · replace h := ite_t c h
          refine AW.iload dX7_kind_124 6 rfl ?_
          refine AW.istore (L' := [(0, .ref (gad g 0 0)), (1, .int a1), (2, .int a2), (3, .int a3), (4, .int a6), (5, .int a5), (6, .int a6), (7, .int r21)]) dX7_kind_126 (Nat.le_of_ble_eq_true rfl) rfl ?_
          refine AW.iload dX7_kind_128 7 rfl ?_
          refine AW.istore (L' := [(0, .ref (gad g 0 0)), (1, .int a1), (2, .int a2), (3, .int a3), (4, .int a6), (5, .int r21), (6, .int a6), (7, .int r21)]) dX7_kind_130 (Nat.le_of_ble_eq_true rfl) rfl ?_
          refine AW.iinc (v := (a6 + (1 : Int32))) (L' := [(0, .ref (gad g 0 0)), (1, .int a1), (2, .int a2), (3, .int a3), (4, .int a6), (5, .int r21), (6, .int (a6 + (1 : Int32))), (7, .int r21)]) dX7_kind_132 6 rfl rfl (Nat.le_of_ble_eq_true rfl) rfl ?_
          refine AW.goto (tgt := 55) dX7_kind_135 rfl ?_
          refine AW.eqL [0, 1, 2, 3, 4, 5, 6] rfl ?_
          exact ih _ _ _ _ h
        · replace h := ite_f c h
          refine AW.iload dX7_kind_114 7 rfl ?_
          refine AW.iload dX7_kind_116 5 rfl ?_
          refine AW.icmp_gt (tgt := 124) dX7_kind_118 rfl (fun c => ?_) (fun c => ?_)
          · replace h := ite_t c h
            refine AW.iload dX7_kind_124 6 rfl ?_
            refine AW.istore (L' := [(0, .ref (gad g 0 0)), (1, .int a1), (2, .int a2), (3, .int a3), (4, .int a6), (5, .int a5), (6, .int a6), (7, .int r21)]) dX7_kind_126 (Nat.le_of_ble_eq_true rfl) rfl ?_
            refine AW.iload dX7_kind_128 7 rfl ?_
            refine AW.istore (L' := [(0, .ref (gad g 0 0)), (1, .int a1), (2, .int a2), (3, .int a3), (4, .int a6), (5, .int r21), (6, .int a6), (7, .int r21)]) dX7_kind_130 (Nat.le_of_ble_eq_true rfl) rfl ?_
            refine AW.iinc (v := (a6 + (1 : Int32))) (L' := [(0, .ref (gad g 0 0)), (1, .int a1), (2, .int a2), (3, .int a3), (4, .int a6), (5, .int r21), (6, .int (a6 + (1 : Int32))), (7, .int r21)]) dX7_kind_132 6 rfl rfl (Nat.le_of_ble_eq_true rfl) rfl ?_
            refine AW.goto (tgt := 55) dX7_kind_135 rfl ?_
            refine AW.eqL [0, 1, 2, 3, 4, 5, 6] rfl ?_
            exact ih _ _ _ _ h
          · replace h := ite_f c h
            refine AW.goto (tgt := 132) dX7_kind_121 rfl ?_
            refine AW.iinc (v := (a6 + (1 : Int32))) (L' := [(0, .ref (gad g 0 0)), (1, .int a1), (2, .int a2), (3, .int a3), (4, .int a4), (5, .int a5), (6, .int (a6 + (1 : Int32))), (7, .int r21)]) dX7_kind_132 6 rfl rfl (Nat.le_of_ble_eq_true rfl) rfl ?_
            refine AW.goto (tgt := 55) dX7_kind_135 rfl ?_
            refine AW.eqL [0, 1, 2, 3, 4, 5, 6] rfl ?_
            exact ih _ _ _ _ h
      · replace h := ite_f c h
        refine AW.goto (tgt := 132) dX7_kind_74 rfl ?_
        refine AW.iinc (v := (a6 + (1 : Int32))) (L' := [(0, .ref (gad g 0 0)), (1, .int a1), (2, .int a2), (3, .int a3), (4, .int a4), (5, .int a5), (6, .int (a6 + (1 : Int32)))]) dX7_kind_132 6 rfl rfl (Nat.le_of_ble_eq_true rfl) rfl ?_
        refine AW.goto (tgt := 55) dX7_kind_135 rfl ?_
        exact ih _ _ _ _ h
def f_X7_kind (a1 : Int32) (a2 : Int32) (σ : Mm) (K : Int32 → Mm → Prop) : Prop := (f_X7_isPerson a1 σ (fun b2 σ1 => (if b2 = true then (f_X7_isBench a2 σ1 (fun b6 σ5 => (if b6 = true then (f_X7_mayOn a1 a2 σ5 (fun r8 σ7 => (f_X7_row_1_3 σ7 (fun σ9 => (f_X7_rises a1 σ9 (fun b11 σ10 => (∃ m, f_X7_kind_55 a1 a2 r8 K (fun a4x26 σ26 => (f_X7_row_3_1 σ26 (fun σ27 => (f_X7_orNone a4x26 σ27 (fun r29 σ28 => (K r29 σ28)))))) m (-1 : Int32) (0 : Int32) (0 : Int32) σ10))))))) else (f_X7_finds (-1000001 : Int32) σ5 (fun r31 σ30 => (K r31 σ30)))))) else (f_X7_finds (-1000001 : Int32) σ1 (fun r4 σ3 => (K r4 σ3))))))
set_option maxRecDepth 100000 in
set_option maxHeartbeats 4000000 in
theorem C_X7_kind {g : GG} {a1 : Int32} {a2 : Int32} {σ : Mm} {K : Int32 → Mm → Prop} (h : f_X7_kind a1 a2 σ K) : Ct g 1 M_X7_kind (QI g 1 K) [.ref (gad g 0 0), .int a1, .int a2] σ := by
  unfold f_X7_kind at h
  refine Ct.of (L := [(0, .ref (gad g 0 0)), (1, .int a1), (2, .int a2)]) (show plainName RX7 = true by decide) (Nat.le_of_ble_eq_true rfl) rfl ?_
  refine AW.iload_n dX7_kind_0 1 rfl ?_
  refine AW.callSB [.int a1] (C_X7_isPerson h) ok_X7_isPerson w_943 rfl (Nat.le_of_ble_eq_true rfl) (Nat.le_of_ble_eq_true rfl) rfl dX7_kind_1 (fun b2 σ1 h => ?_)
  refine AW.ifb_eq (tgt := 15) dX7_kind_4 rfl (fun c => ?_) (fun c => ?_)
  · replace h := ite_f c h
    refine AW.aload_n dX7_kind_15 0 rfl ?_
    refine AW.ldc (v := (-1000001 : Int32)) dX7_kind_16 w_951 ?_
    refine AW.callVI [.int (-1000001 : Int32)] (C_X7_finds h) ok_X7_finds (id1_0_0) rfl rfl w_952 rfl (Nat.le_of_ble_eq_true rfl) (Nat.le_of_ble_eq_true rfl) rfl dX7_kind_18 (fun r4 σ3 h => ?_)
    exact AW.iret rfl dX7_kind_21 h
  · replace h := ite_t c h
    refine AW.aload_n dX7_kind_7 0 rfl ?_
    refine AW.iload_n dX7_kind_8 2 rfl ?_
    refine AW.callVB [.int a2] (C_X7_isBench h) ok_X7_isBench (id1_0_0) rfl rfl w_1015 rfl (Nat.le_of_ble_eq_true rfl) (Nat.le_of_ble_eq_true rfl) rfl dX7_kind_9 (fun b6 σ5 h => ?_)
    refine AW.ifb_ne (tgt := 22) dX7_kind_12 rfl (fun c => ?_) (fun c => ?_)
    · replace h := ite_t c h
      refine AW.aload_n dX7_kind_22 0 rfl ?_
      refine AW.iload_n dX7_kind_23 1 rfl ?_
      refine AW.iload_n dX7_kind_24 2 rfl ?_
      refine AW.callVI [.int a1, .int a2] (C_X7_mayOn h) ok_X7_mayOn (id1_0_0) rfl rfl w_1114 rfl (Nat.le_of_ble_eq_true rfl) (Nat.le_of_ble_eq_true rfl) rfl dX7_kind_25 (fun r8 σ7 h => ?_)
      refine AW.istore_n (L' := [(0, .ref (gad g 0 0)), (1, .int a1), (2, .int a2), (3, .int r8)]) dX7_kind_28 (Nat.le_of_ble_eq_true rfl) rfl ?_
      refine AW.aload_n dX7_kind_29 0 rfl ?_
      refine AW.get (k := 0) (v := .ref (gad g 1 0)) (id1_0_0) rfl rfl inGX7 (Nat.le_of_ble_eq_true rfl) w_872 rfl dX7_kind_30 ?_
      refine AW.aload_n dX7_kind_33 0 rfl ?_
      refine AW.get (k := 2) (v := .ref (gad g 3 0)) (id1_0_0) rfl rfl inGX7 (Nat.le_of_ble_eq_true rfl) w_874 rfl dX7_kind_34 ?_
      refine AW.callSV [.ref (gad g 1 0), .ref (gad g 3 0)] (C_X7_row_1_3 h) ok_X7_row_1_3 w_1122 rfl (Nat.le_of_ble_eq_true rfl) (Nat.le_of_ble_eq_true rfl) rfl dX7_kind_37 (fun σ9 h => ?_)
      refine AW.iconst (v := (-1 : Int32)) dX7_kind_40 rfl ?_
      refine AW.istore (L' := [(0, .ref (gad g 0 0)), (1, .int a1), (2, .int a2), (3, .int r8), (4, .int (-1 : Int32))]) dX7_kind_41 (Nat.le_of_ble_eq_true rfl) rfl ?_
      refine AW.iconst (v := (0 : Int32)) dX7_kind_43 rfl ?_
      refine AW.istore (L' := [(0, .ref (gad g 0 0)), (1, .int a1), (2, .int a2), (3, .int r8), (4, .int (-1 : Int32)), (5, .int (0 : Int32))]) dX7_kind_44 (Nat.le_of_ble_eq_true rfl) rfl ?_
      refine AW.aload_n dX7_kind_46 0 rfl ?_
      refine AW.iload_n dX7_kind_47 1 rfl ?_
      refine AW.callVB [.int a1] (C_X7_rises h) ok_X7_rises (id1_0_0) rfl rfl w_1090 rfl (Nat.le_of_ble_eq_true rfl) (Nat.le_of_ble_eq_true rfl) rfl dX7_kind_48 (fun b11 σ10 h => ?_)
      refine AW.pop dX7_kind_51 rfl ?_
      refine AW.iconst (v := (0 : Int32)) dX7_kind_52 rfl ?_
      refine AW.istore (L' := [(0, .ref (gad g 0 0)), (1, .int a1), (2, .int a2), (3, .int r8), (4, .int (-1 : Int32)), (5, .int (0 : Int32)), (6, .int (0 : Int32))]) dX7_kind_53 (Nat.le_of_ble_eq_true rfl) rfl ?_
      obtain ⟨m, h⟩ := h
      refine T_X7_kind_55 (fun a4x26 σ26 h => ?_) m _ _ _ _ h
      refine AW.aload_n dX7_kind_138 0 rfl ?_
      refine AW.get (k := 2) (v := .ref (gad g 3 0)) (id1_0_0) rfl rfl inGX7 (Nat.le_of_ble_eq_true rfl) w_874 rfl dX7_kind_139 ?_
      refine AW.aload_n dX7_kind_142 0 rfl ?_
      refine AW.get (k := 0) (v := .ref (gad g 1 0)) (id1_0_0) rfl rfl inGX7 (Nat.le_of_ble_eq_true rfl) w_872 rfl dX7_kind_143 ?_
      refine AW.callSV [.ref (gad g 3 0), .ref (gad g 1 0)] (C_X7_row_3_1 h) ok_X7_row_3_1 w_1122 rfl (Nat.le_of_ble_eq_true rfl) (Nat.le_of_ble_eq_true rfl) rfl dX7_kind_146 (fun σ27 h => ?_)
      refine AW.aload_n dX7_kind_149 0 rfl ?_
      refine AW.iload dX7_kind_150 1 rfl ?_
      refine AW.callVI [.int a4x26] (C_X7_orNone h) ok_X7_orNone (id1_0_0) rfl rfl w_1080 rfl (Nat.le_of_ble_eq_true rfl) (Nat.le_of_ble_eq_true rfl) rfl dX7_kind_152 (fun r29 σ28 h => ?_)
      exact AW.iret rfl dX7_kind_155 h
    · replace h := ite_f c h
      refine AW.aload_n dX7_kind_15 0 rfl ?_
      refine AW.ldc (v := (-1000001 : Int32)) dX7_kind_16 w_951 ?_
      refine AW.callVI [.int (-1000001 : Int32)] (C_X7_finds h) ok_X7_finds (id1_0_0) rfl rfl w_952 rfl (Nat.le_of_ble_eq_true rfl) (Nat.le_of_ble_eq_true rfl) rfl dX7_kind_18 (fun r31 σ30 h => ?_)
      exact AW.iret rfl dX7_kind_21 h
theorem ok_X7_kind : OkV M_X7_kind 2 := ⟨w_1119, w_1120, w_9, w_1121, by decide +kernel, (Nat.le_of_ble_eq_true rfl)⟩
def M_X7_draw : MT := (yX7_draw, cX7_draw, 1, some .int, 1)
def f_X7_draw (σ : Mm) (K : Int32 → Mm → Prop) : Prop := (∃ σ1, σ1 = mset σ 1 0 2 (((σ 1 0 2) * (1103515245 : Int32)) + (12345 : Int32)) ∧ (K ((((σ1 1 0 2)).toUInt32 >>> (((8 : Int32)).toUInt32 &&& Int32.toUInt32 31)).toInt32) σ1))
set_option maxRecDepth 100000 in
set_option maxHeartbeats 4000000 in
theorem C_X7_draw {g : GG} {σ : Mm} {K : Int32 → Mm → Prop} (h : f_X7_draw σ K) : Ct g 1 M_X7_draw (QI g 1 K) [.ref (gad g 0 0)] σ := by
  unfold f_X7_draw at h
  refine Ct.of (L := [(0, .ref (gad g 0 0))]) (show plainName RX7 = true by decide) (Nat.le_of_ble_eq_true rfl) rfl ?_
  refine AW.aload_n dX7_draw_0 0 rfl ?_
  refine AW.get (k := 0) (v := .ref (gad g 1 0)) (id1_0_0) rfl rfl inGX7 (Nat.le_of_ble_eq_true rfl) w_872 rfl dX7_draw_1 ?_
  refine AW.iconst (v := (2 : Int32)) dX7_draw_4 rfl ?_
  refine AW.aload_n dX7_draw_5 0 rfl ?_
  refine AW.get (k := 0) (v := .ref (gad g 1 0)) (id1_0_0) rfl rfl inGX7 (Nat.le_of_ble_eq_true rfl) w_872 rfl dX7_draw_6 ?_
  refine AW.iconst (v := (2 : Int32)) dX7_draw_9 rfl ?_
  refine AW.iald (jn := 2) (id1_1_0) rfl (by unfold vp_in; decide) rfl dX7_draw_10 ?_
  refine AW.ldc (v := (1103515245 : Int32)) dX7_draw_11 w_1141 ?_
  refine AW.imul dX7_draw_13 ?_
  refine AW.sipush (v := (12345 : Int32)) dX7_draw_14 rfl ?_
  refine AW.iadd dX7_draw_17 ?_
  refine AW.iast (jn := 2) (id1_1_0) (fun _ => rfl) (by unfold vp_in; decide) rfl dX7_draw_18 ?_
  obtain ⟨σ1, eσ1, h⟩ := h
  rw [← eσ1]
  refine AW.aload_n dX7_draw_19 0 rfl ?_
  refine AW.get (k := 0) (v := .ref (gad g 1 0)) (id1_0_0) rfl rfl inGX7 (Nat.le_of_ble_eq_true rfl) w_872 rfl dX7_draw_20 ?_
  refine AW.iconst (v := (2 : Int32)) dX7_draw_23 rfl ?_
  refine AW.iald (jn := 2) (id1_1_0) rfl (by unfold vp_in; decide) rfl dX7_draw_24 ?_
  refine AW.bipush (v := (8 : Int32)) dX7_draw_25 rfl ?_
  refine AW.iushr dX7_draw_27 ?_
  exact AW.iret rfl dX7_draw_28 h
theorem ok_X7_draw : OkV M_X7_draw 0 := ⟨w_1139, wp_50, w_9, w_1140, by decide +kernel, (Nat.le_of_ble_eq_true rfl)⟩
def M_X7_come : MT := (yX7_come, cX7_come, 8, some .int, 9)
set_option maxRecDepth 100000 in
def f_X7_come_72 (a1 : Int32) (a2 : Int32) (a3 : Int32) (a4 : Int32) (a5 : Int32) (a6 : Int32) (K : Int32 → Mm → Prop) (k95 : Int32 → Mm → Prop) : Nat → Int32 → Mm → Prop
  | 0, _, _ => False
  | n + 1, a7, σ => (if (8 : Int32) ≤ a7 then (k95 a7 σ) else (f_X7_has a6 a7 σ (fun b12 σ11 => (if b12 = true then (k95 a7 σ11) else (f_X7_come_72 a1 a2 a3 a4 a5 a6 K k95 n (a7 + (1 : Int32)) σ11)))))
set_option maxRecDepth 100000 in
set_option maxHeartbeats 4000000 in
theorem T_X7_come_72 {g : GG} {a1 : Int32} {a2 : Int32} {a3 : Int32} {a4 : Int32} {a5 : Int32} {a6 : Int32} {K : Int32 → Mm → Prop} {k95 : Int32 → Mm → Prop} (hk95 : ∀ (x7 : Int32) (u : Mm), k95 x7 u → AW g 1 M_X7_come (QI g 1 K) 95 [(0, .ref (gad g 0 0)), (1, .int a1), (2, .int a2), (3, .int a3), (4, .int a4), (5, .int a5), (7, .int x7)] [] u) : ∀ (n : Nat) (a7 : Int32) (σ : Mm), f_X7_come_72 a1 a2 a3 a4 a5 a6 K k95 n a7 σ → AW g 1 M_X7_come (QI g 1 K) 72 [(0, .ref (gad g 0 0)), (1, .int a1), (2, .int a2), (3, .int a3), (4, .int a4), (5, .int a5), (6, .int a6), (7, .int a7)] [] σ := by
  intro n
  induction n with
  | zero => intro a7 σ h; exact False.elim h
  | succ n ih =>
    intro a7 σ h
    rw [f_X7_come_72] at h
    refine AW.iload dX7_come_72 7 rfl ?_
    refine AW.bipush (v := (8 : Int32)) dX7_come_74 rfl ?_
    refine AW.icmp_ge (tgt := 95) dX7_come_76 rfl (fun c => ?_) (fun c => ?_)
    · replace h := ite_t c h
      refine AW.eqL [0, 1, 2, 3, 4, 5, 7] rfl ?_
      exact hk95 _ _ h
    · replace h := ite_f c h
      refine AW.iload dX7_come_79 6 rfl ?_
      refine AW.iload dX7_come_81 7 rfl ?_
      refine AW.callSB [.int a6, .int a7] (C_X7_has h) ok_X7_has w_1125 rfl (Nat.le_of_ble_eq_true rfl) (Nat.le_of_ble_eq_true rfl) rfl dX7_come_83 (fun b12 σ11 h => ?_)
      refine AW.ifb_ne (tgt := 95) dX7_come_86 rfl (fun c => ?_) (fun c => ?_)
      · replace h := ite_t c h
        refine AW.eqL [0, 1, 2, 3, 4, 5, 7] rfl ?_
        exact hk95 _ _ h
      · replace h := ite_f c h
        refine AW.iinc (v := (a7 + (1 : Int32))) (L' := [(0, .ref (gad g 0 0)), (1, .int a1), (2, .int a2), (3, .int a3), (4, .int a4), (5, .int a5), (6, .int a6), (7, .int (a7 + (1 : Int32)))]) dX7_come_89 7 rfl rfl (Nat.le_of_ble_eq_true rfl) rfl ?_
        refine AW.goto (tgt := 72) dX7_come_92 rfl ?_
        exact ih _ _ h
def f_X7_come_95 (a1 : Int32) (a2 : Int32) (a3 : Int32) (a4 : Int32) (a5 : Int32) (a7 : Int32) (K : Int32 → Mm → Prop) (k32 : Int32 → Int32 → Mm → Prop) (σ : Mm) : Prop := (if a7 = (8 : Int32) then (k32 a3 (a4 + (1 : Int32)) σ) else (f_X7_at a1 a7 σ (fun r15 σ14 => (vp_in r15 136 ∧ (∃ σ17, σ17 = mset σ14 1 0 (r15.toNatClampNeg) a5 ∧ (k32 (a3 + (1 : Int32)) (a4 + (1 : Int32)) σ17))))))
set_option maxRecDepth 100000 in
set_option maxHeartbeats 4000000 in
theorem T_X7_come_95 {g : GG} {a1 : Int32} {a2 : Int32} {a3 : Int32} {a4 : Int32} {a5 : Int32} {a7 : Int32} {K : Int32 → Mm → Prop} {k32 : Int32 → Int32 → Mm → Prop} {σ : Mm} (hk32 : ∀ (x3 : Int32) (x4 : Int32) (u : Mm), k32 x3 x4 u → AW g 1 M_X7_come (QI g 1 K) 32 [(0, .ref (gad g 0 0)), (1, .int a1), (2, .int a2), (3, .int x3), (4, .int x4)] [] u) (h : f_X7_come_95 a1 a2 a3 a4 a5 a7 K k32 σ) : AW g 1 M_X7_come (QI g 1 K) 95 [(0, .ref (gad g 0 0)), (1, .int a1), (2, .int a2), (3, .int a3), (4, .int a4), (5, .int a5), (7, .int a7)] [] σ := by
  unfold f_X7_come_95 at h
  refine AW.iload dX7_come_95 6 rfl ?_
  refine AW.bipush (v := (8 : Int32)) dX7_come_97 rfl ?_
  refine AW.icmp_ne (tgt := 105) dX7_come_99 rfl (fun c => ?_) (fun c => ?_)
  · replace h := ite_f c h
    refine AW.aload_n dX7_come_105 0 rfl ?_
    refine AW.get (k := 0) (v := .ref (gad g 1 0)) (id1_0_0) rfl rfl inGX7 (Nat.le_of_ble_eq_true rfl) w_872 rfl dX7_come_106 ?_
    refine AW.iload_n dX7_come_109 1 rfl ?_
    refine AW.iload dX7_come_110 6 rfl ?_
    refine AW.callSI [.int a1, .int a7] (C_X7_at h) ok_X7_at w_1008 rfl (Nat.le_of_ble_eq_true rfl) (Nat.le_of_ble_eq_true rfl) rfl dX7_come_112 (fun r15 σ14 h => ?_)
    refine AW.iload dX7_come_115 5 rfl ?_
    obtain ⟨hq16, h⟩ := h
    refine AW.iast (jn := (r15.toNatClampNeg)) (id1_1_0) (fun _ => rfl) hq16 rfl dX7_come_117 ?_
    obtain ⟨σ17, eσ17, h⟩ := h
    rw [← eσ17]
    refine AW.iinc (v := (a3 + (1 : Int32))) (L' := [(0, .ref (gad g 0 0)), (1, .int a1), (2, .int a2), (3, .int (a3 + (1 : Int32))), (4, .int a4), (5, .int a5), (7, .int a7)]) dX7_come_118 3 rfl rfl (Nat.le_of_ble_eq_true rfl) rfl ?_
    refine AW.iinc (v := (a4 + (1 : Int32))) (L' := [(0, .ref (gad g 0 0)), (1, .int a1), (2, .int a2), (3, .int (a3 + (1 : Int32))), (4, .int (a4 + (1 : Int32))), (5, .int a5), (7, .int a7)]) dX7_come_121 4 rfl rfl (Nat.le_of_ble_eq_true rfl) rfl ?_
    refine AW.goto (tgt := 32) dX7_come_124 rfl ?_
    refine AW.eqL [0, 1, 2, 3, 4] rfl ?_
    exact hk32 _ _ _ h
  · replace h := ite_t c h
    refine AW.goto (tgt := 121) dX7_come_102 rfl ?_
    refine AW.iinc (v := (a4 + (1 : Int32))) (L' := [(0, .ref (gad g 0 0)), (1, .int a1), (2, .int a2), (3, .int a3), (4, .int (a4 + (1 : Int32))), (5, .int a5), (7, .int a7)]) dX7_come_121 4 rfl rfl (Nat.le_of_ble_eq_true rfl) rfl ?_
    refine AW.goto (tgt := 32) dX7_come_124 rfl ?_
    refine AW.eqL [0, 1, 2, 3, 4] rfl ?_
    exact hk32 _ _ _ h
def f_X7_come_67 (a1 : Int32) (a2 : Int32) (a3 : Int32) (a4 : Int32) (a5 : Int32) (as0 : Int32) (K : Int32 → Mm → Prop) (k32 : Int32 → Int32 → Mm → Prop) (σ : Mm) : Prop := (∃ m, f_X7_come_72 a1 a2 a3 a4 a5 as0 K (fun a7x13 σ13 => (f_X7_come_95 a1 a2 a3 a4 a5 a7x13 K k32 σ13)) m (0 : Int32) σ)
set_option maxRecDepth 100000 in
set_option maxHeartbeats 4000000 in
theorem T_X7_come_67 {g : GG} {a1 : Int32} {a2 : Int32} {a3 : Int32} {a4 : Int32} {a5 : Int32} {as0 : Int32} {K : Int32 → Mm → Prop} {k32 : Int32 → Int32 → Mm → Prop} {σ : Mm} (hk32 : ∀ (x3 : Int32) (x4 : Int32) (u : Mm), k32 x3 x4 u → AW g 1 M_X7_come (QI g 1 K) 32 [(0, .ref (gad g 0 0)), (1, .int a1), (2, .int a2), (3, .int x3), (4, .int x4)] [] u) (h : f_X7_come_67 a1 a2 a3 a4 a5 as0 K k32 σ) : AW g 1 M_X7_come (QI g 1 K) 67 [(0, .ref (gad g 0 0)), (1, .int a1), (2, .int a2), (3, .int a3), (4, .int a4), (5, .int a5)] [.int as0] σ := by
  unfold f_X7_come_67 at h
  refine AW.istore (L' := [(0, .ref (gad g 0 0)), (1, .int a1), (2, .int a2), (3, .int a3), (4, .int a4), (5, .int a5), (6, .int as0)]) dX7_come_67 (Nat.le_of_ble_eq_true rfl) rfl ?_
  refine AW.iconst (v := (0 : Int32)) dX7_come_69 rfl ?_
  refine AW.istore (L' := [(0, .ref (gad g 0 0)), (1, .int a1), (2, .int a2), (3, .int a3), (4, .int a4), (5, .int a5), (6, .int as0), (7, .int (0 : Int32))]) dX7_come_70 (Nat.le_of_ble_eq_true rfl) rfl ?_
  obtain ⟨m, h⟩ := h
  refine T_X7_come_72 (fun a7x13 σ13 h => ?_) m _ _ h
  exact T_X7_come_95 hk32 h
set_option maxRecDepth 100000 in
def f_X7_come_32 (a1 : Int32) (a2 : Int32) (K : Int32 → Mm → Prop) : Nat → Int32 → Int32 → Mm → Prop
  | 0, _, _, _ => False
  | n + 1, a3, a4, σ => (if a2 ≤ a4 then (K a3 σ) else (f_X7_draw σ (fun r8 σ7 => (f_X7_whereIs (r8 - r8 / (8 : Int32) * (8 : Int32)) σ7 (fun r10 σ9 => (if 0 ≤ r10 then (f_X7_come_67 a1 a2 a3 a4 (r8 - r8 / (8 : Int32) * (8 : Int32)) (0 : Int32) K (f_X7_come_32 a1 a2 K n) σ9) else (f_X7_mayOn (r8 - r8 / (8 : Int32) * (8 : Int32)) a1 σ9 (fun r19 σ18 => (f_X7_come_67 a1 a2 a3 a4 (r8 - r8 / (8 : Int32) * (8 : Int32)) r19 K (f_X7_come_32 a1 a2 K n) σ18)))))))))
set_option maxRecDepth 100000 in
set_option maxHeartbeats 4000000 in
theorem T_X7_come_32 {g : GG} {a1 : Int32} {a2 : Int32} {K : Int32 → Mm → Prop} : ∀ (n : Nat) (a3 : Int32) (a4 : Int32) (σ : Mm), f_X7_come_32 a1 a2 K n a3 a4 σ → AW g 1 M_X7_come (QI g 1 K) 32 [(0, .ref (gad g 0 0)), (1, .int a1), (2, .int a2), (3, .int a3), (4, .int a4)] [] σ := by
  intro n
  induction n with
  | zero => intro a3 a4 σ h; exact False.elim h
  | succ n ih =>
    intro a3 a4 σ h
    rw [f_X7_come_32] at h
    refine AW.iload dX7_come_32 4 rfl ?_
    refine AW.iload_n dX7_come_34 2 rfl ?_
    refine AW.icmp_ge (tgt := 127) dX7_come_35 rfl (fun c => ?_) (fun c => ?_)
    · replace h := ite_t c h
      refine AW.iload_n dX7_come_127 3 rfl ?_
      exact AW.iret rfl dX7_come_128 h
    · replace h := ite_f c h
      refine AW.aload_n dX7_come_38 0 rfl ?_
      refine AW.callVI [] (C_X7_draw h) ok_X7_draw (id1_0_0) rfl rfl w_1137 rfl (Nat.le_of_ble_eq_true rfl) (Nat.le_of_ble_eq_true rfl) rfl dX7_come_39 (fun r8 σ7 h => ?_)
      refine AW.bipush (v := (8 : Int32)) dX7_come_42 rfl ?_
      refine AW.irem dX7_come_44 (by decide) ?_
      refine AW.istore (L' := [(0, .ref (gad g 0 0)), (1, .int a1), (2, .int a2), (3, .int a3), (4, .int a4), (5, .int (r8 - r8 / (8 : Int32) * (8 : Int32)))]) dX7_come_45 (Nat.le_of_ble_eq_true rfl) rfl ?_
      refine AW.aload_n dX7_come_47 0 rfl ?_
      refine AW.iload dX7_come_48 5 rfl ?_
      refine AW.callVI [.int (r8 - r8 / (8 : Int32) * (8 : Int32))] (C_X7_whereIs h) ok_X7_whereIs (id1_0_0) rfl rfl w_1094 rfl (Nat.le_of_ble_eq_true rfl) (Nat.le_of_ble_eq_true rfl) rfl dX7_come_50 (fun r10 σ9 h => ?_)
      refine AW.if_ge (tgt := 66) dX7_come_53 rfl (fun c => ?_) (fun c => ?_)
      · replace h := ite_t c h
        refine AW.iconst (v := (0 : Int32)) dX7_come_66 rfl ?_
        exact T_X7_come_67 ih h
      · replace h := ite_f c h
        refine AW.aload_n dX7_come_56 0 rfl ?_
        refine AW.iload dX7_come_57 5 rfl ?_
        refine AW.iload_n dX7_come_59 1 rfl ?_
        refine AW.callVI [.int (r8 - r8 / (8 : Int32) * (8 : Int32)), .int a1] (C_X7_mayOn h) ok_X7_mayOn (id1_0_0) rfl rfl w_1114 rfl (Nat.le_of_ble_eq_true rfl) (Nat.le_of_ble_eq_true rfl) rfl dX7_come_60 (fun r19 σ18 h => ?_)
        refine AW.goto (tgt := 67) dX7_come_63 rfl ?_
        exact T_X7_come_67 ih h
def f_X7_come (a1 : Int32) (a2 : Int32) (σ : Mm) (K : Int32 → Mm → Prop) : Prop := (f_X7_isBench a1 σ (fun b2 σ1 => (if b2 = true then (f_X7_in ((a2).toInt64) (1 : Int64) (20 : Int64) σ1 (fun b6 σ5 => (if b6 = true then (∃ m, f_X7_come_32 a1 a2 K m (0 : Int32) (0 : Int32) σ5) else (f_X7_finds (-1000001 : Int32) σ5 (fun r21 σ20 => (K r21 σ20)))))) else (f_X7_finds (-1000001 : Int32) σ1 (fun r4 σ3 => (K r4 σ3))))))
set_option maxRecDepth 100000 in
set_option maxHeartbeats 4000000 in
theorem C_X7_come {g : GG} {a1 : Int32} {a2 : Int32} {σ : Mm} {K : Int32 → Mm → Prop} (h : f_X7_come a1 a2 σ K) : Ct g 1 M_X7_come (QI g 1 K) [.ref (gad g 0 0), .int a1, .int a2] σ := by
  unfold f_X7_come at h
  refine Ct.of (L := [(0, .ref (gad g 0 0)), (1, .int a1), (2, .int a2)]) (show plainName RX7 = true by decide) (Nat.le_of_ble_eq_true rfl) rfl ?_
  refine AW.aload_n dX7_come_0 0 rfl ?_
  refine AW.iload_n dX7_come_1 1 rfl ?_
  refine AW.callVB [.int a1] (C_X7_isBench h) ok_X7_isBench (id1_0_0) rfl rfl w_1015 rfl (Nat.le_of_ble_eq_true rfl) (Nat.le_of_ble_eq_true rfl) rfl dX7_come_2 (fun b2 σ1 h => ?_)
  refine AW.ifb_eq (tgt := 20) dX7_come_5 rfl (fun c => ?_) (fun c => ?_)
  · replace h := ite_f c h
    refine AW.aload_n dX7_come_20 0 rfl ?_
    refine AW.ldc (v := (-1000001 : Int32)) dX7_come_21 w_951 ?_
    refine AW.callVI [.int (-1000001 : Int32)] (C_X7_finds h) ok_X7_finds (id1_0_0) rfl rfl w_952 rfl (Nat.le_of_ble_eq_true rfl) (Nat.le_of_ble_eq_true rfl) rfl dX7_come_23 (fun r4 σ3 h => ?_)
    exact AW.iret rfl dX7_come_26 h
  · replace h := ite_t c h
    refine AW.iload_n dX7_come_8 2 rfl ?_
    refine AW.i2l dX7_come_9 ?_
    refine AW.lconst (v := (1 : Int64)) dX7_come_10 rfl ?_
    refine AW.ldc2 (v := (20 : Int64)) dX7_come_11 w_1136 ?_
    refine AW.callSB [.long ((a2).toInt64), .long (1 : Int64), .long (20 : Int64)] (C_X7_in h) ok_X7_in w_947 rfl (Nat.le_of_ble_eq_true rfl) (Nat.le_of_ble_eq_true rfl) rfl dX7_come_14 (fun b6 σ5 h => ?_)
    refine AW.ifb_ne (tgt := 27) dX7_come_17 rfl (fun c => ?_) (fun c => ?_)
    · replace h := ite_t c h
      refine AW.iconst (v := (0 : Int32)) dX7_come_27 rfl ?_
      refine AW.istore_n (L' := [(0, .ref (gad g 0 0)), (1, .int a1), (2, .int a2), (3, .int (0 : Int32))]) dX7_come_28 (Nat.le_of_ble_eq_true rfl) rfl ?_
      refine AW.iconst (v := (0 : Int32)) dX7_come_29 rfl ?_
      refine AW.istore (L' := [(0, .ref (gad g 0 0)), (1, .int a1), (2, .int a2), (3, .int (0 : Int32)), (4, .int (0 : Int32))]) dX7_come_30 (Nat.le_of_ble_eq_true rfl) rfl ?_
      obtain ⟨m, h⟩ := h
      refine T_X7_come_32 m _ _ _ h
    · replace h := ite_f c h
      refine AW.aload_n dX7_come_20 0 rfl ?_
      refine AW.ldc (v := (-1000001 : Int32)) dX7_come_21 w_951 ?_
      refine AW.callVI [.int (-1000001 : Int32)] (C_X7_finds h) ok_X7_finds (id1_0_0) rfl rfl w_952 rfl (Nat.le_of_ble_eq_true rfl) (Nat.le_of_ble_eq_true rfl) rfl dX7_come_23 (fun r21 σ20 h => ?_)
      exact AW.iret rfl dX7_come_26 h
theorem ok_X7_come : OkV M_X7_come 2 := ⟨w_1133, w_1134, w_9, w_1135, by decide +kernel, (Nat.le_of_ble_eq_true rfl)⟩
