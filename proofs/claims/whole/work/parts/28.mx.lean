def M_X6_write : MT := (yX6_write, cX6_write, 4, some .int, 2)
def f_X6_write (a1 : Int32) (a2 : Int32) (a3 : Int32) (σ : Mm) (K : Int32 → Mm → Prop) : Prop := (f_X6_isSheet a1 σ (fun b2 σ1 => (if b2 = true then (vp_in a1 4 ∧ ((a1.toNatClampNeg) < 4 ∧ (f_X4_isMissing (a1.toNatClampNeg) σ1 (fun b6 σ5 => (if b6 = true then (f_X6_finding (5 : Int32) σ5 (fun r15 σ14 => (K r15 σ14))) else (if a2 < 0 then (f_X6_finding (0 : Int32) σ5 (fun r8 σ7 => (K r8 σ7))) else (vp_in a1 4 ∧ (if a2 < (σ5 13 (a1.toNatClampNeg) 1) then (vp_in a1 4 ∧ (f_X4_put (a1.toNatClampNeg) a2 a3 σ5 (fun σ11 => (K (1 : Int32) σ11)))) else (f_X6_finding (0 : Int32) σ5 (fun r13 σ12 => (K r13 σ12))))))))))) else (f_X6_finding (0 : Int32) σ1 (fun r17 σ16 => (K r17 σ16))))))
set_option maxRecDepth 100000 in
set_option maxHeartbeats 4000000 in
theorem C_X6_write {g : GG} {a1 : Int32} {a2 : Int32} {a3 : Int32} {σ : Mm} {K : Int32 → Mm → Prop} (h : f_X6_write a1 a2 a3 σ K) : Ct g 0 M_X6_write (QI g 0 K) [.ref (gad g 16 0), .int a1, .int a2, .int a3] σ := by
  unfold f_X6_write at h
  refine Ct.of (L := [(0, .ref (gad g 16 0)), (1, .int a1), (2, .int a2), (3, .int a3)]) (show plainName RX6 = true by decide) (Nat.le_of_ble_eq_true rfl) rfl ?_
  refine AW.iload_n dX6_write_0 1 rfl ?_
  refine AW.callSB [.int a1] (C_X6_isSheet h) ok_X6_isSheet w_778 rfl (Nat.le_of_ble_eq_true rfl) (Nat.le_of_ble_eq_true rfl) rfl dX6_write_1 (fun b2 σ1 h => ?_)
  refine AW.ifb_ne (tgt := 13) dX6_write_4 rfl (fun c => ?_) (fun c => ?_)
  · replace h := ite_t c h
    refine AW.aload_n dX6_write_13 0 rfl ?_
    refine AW.get (k := 9) (v := .ref (gad g 12 0)) (id0_16_0) rfl rfl inGX6 (Nat.le_of_ble_eq_true rfl) w_212 rfl dX6_write_14 ?_
    refine AW.iload_n dX6_write_17 1 rfl ?_
    obtain ⟨hq3, h⟩ := h
    obtain ⟨hv4, h⟩ := h
    refine AW.aald (a' := gad g 13 (a1.toNatClampNeg)) (ty := 2) (id0_12_0) rfl rfl rfl hq3 dX6_write_18 ?_
    refine AW.callVB [] (C_X4_isMissing h) ok_X4_isMissing (ids_in (Nat.le_of_ble_eq_true rfl) hv4) rfl rfl w_790 rfl (Nat.le_of_ble_eq_true rfl) (Nat.le_of_ble_eq_true rfl) rfl dX6_write_19 (fun b6 σ5 h => ?_)
    refine AW.ifb_eq (tgt := 31) dX6_write_22 rfl (fun c => ?_) (fun c => ?_)
    · replace h := ite_f c h
      refine AW.iload_n dX6_write_31 2 rfl ?_
      refine AW.if_lt (tgt := 48) dX6_write_32 rfl (fun c => ?_) (fun c => ?_)
      · replace h := ite_t c h
        refine AW.aload_n dX6_write_48 0 rfl ?_
        refine AW.iconst (v := (0 : Int32)) dX6_write_49 rfl ?_
        refine AW.callVI [.int (0 : Int32)] (C_X6_finding h) ok_X6_finding (id0_16_0) rfl rfl w_247 rfl (Nat.le_of_ble_eq_true rfl) (Nat.le_of_ble_eq_true rfl) rfl dX6_write_50 (fun r8 σ7 h => ?_)
        exact AW.iret rfl dX6_write_53 h
      · replace h := ite_f c h
        refine AW.iload_n dX6_write_35 2 rfl ?_
        refine AW.aload_n dX6_write_36 0 rfl ?_
        refine AW.get (k := 9) (v := .ref (gad g 12 0)) (id0_16_0) rfl rfl inGX6 (Nat.le_of_ble_eq_true rfl) w_212 rfl dX6_write_37 ?_
        refine AW.iload_n dX6_write_40 1 rfl ?_
        obtain ⟨hq9, h⟩ := h
        refine AW.aald (a' := gad g 13 (a1.toNatClampNeg)) (ty := 2) (id0_12_0) rfl rfl rfl hq9 dX6_write_41 ?_
        refine AW.get (k := 1) (v := .int (σ5 13 (a1.toNatClampNeg) 1)) (ids_in (Nat.le_of_ble_eq_true rfl) hv4) rfl rfl inGX4 (Nat.le_of_ble_eq_true rfl) w_193 rfl dX6_write_42 ?_
        refine AW.icmp_lt (tgt := 54) dX6_write_45 rfl (fun c => ?_) (fun c => ?_)
        · replace h := ite_t c h
          refine AW.aload_n dX6_write_54 0 rfl ?_
          refine AW.get (k := 9) (v := .ref (gad g 12 0)) (id0_16_0) rfl rfl inGX6 (Nat.le_of_ble_eq_true rfl) w_212 rfl dX6_write_55 ?_
          refine AW.iload_n dX6_write_58 1 rfl ?_
          obtain ⟨hq10, h⟩ := h
          refine AW.aald (a' := gad g 13 (a1.toNatClampNeg)) (ty := 2) (id0_12_0) rfl rfl rfl hq10 dX6_write_59 ?_
          refine AW.iload_n dX6_write_60 2 rfl ?_
          refine AW.iload_n dX6_write_61 3 rfl ?_
          refine AW.callVV [.int a2, .int a3] (C_X4_put h) ok_X4_put (ids_in (Nat.le_of_ble_eq_true rfl) hv4) rfl rfl w_794 rfl (Nat.le_of_ble_eq_true rfl) (Nat.le_of_ble_eq_true rfl) rfl dX6_write_62 (fun σ11 h => ?_)
          refine AW.iconst (v := (1 : Int32)) dX6_write_65 rfl ?_
          exact AW.iret rfl dX6_write_66 h
        · replace h := ite_f c h
          refine AW.aload_n dX6_write_48 0 rfl ?_
          refine AW.iconst (v := (0 : Int32)) dX6_write_49 rfl ?_
          refine AW.callVI [.int (0 : Int32)] (C_X6_finding h) ok_X6_finding (id0_16_0) rfl rfl w_247 rfl (Nat.le_of_ble_eq_true rfl) (Nat.le_of_ble_eq_true rfl) rfl dX6_write_50 (fun r13 σ12 h => ?_)
          exact AW.iret rfl dX6_write_53 h
    · replace h := ite_t c h
      refine AW.aload_n dX6_write_25 0 rfl ?_
      refine AW.iconst (v := (5 : Int32)) dX6_write_26 rfl ?_
      refine AW.callVI [.int (5 : Int32)] (C_X6_finding h) ok_X6_finding (id0_16_0) rfl rfl w_247 rfl (Nat.le_of_ble_eq_true rfl) (Nat.le_of_ble_eq_true rfl) rfl dX6_write_27 (fun r15 σ14 h => ?_)
      exact AW.iret rfl dX6_write_30 h
  · replace h := ite_f c h
    refine AW.aload_n dX6_write_7 0 rfl ?_
    refine AW.iconst (v := (0 : Int32)) dX6_write_8 rfl ?_
    refine AW.callVI [.int (0 : Int32)] (C_X6_finding h) ok_X6_finding (id0_16_0) rfl rfl w_247 rfl (Nat.le_of_ble_eq_true rfl) (Nat.le_of_ble_eq_true rfl) rfl dX6_write_9 (fun r17 σ16 h => ?_)
    exact AW.iret rfl dX6_write_12 h
theorem ok_X6_write : OkV M_X6_write 3 := ⟨w_787, w_788, w_1, w_789, by decide +kernel, (Nat.le_of_ble_eq_true rfl)⟩
def M_X4_hasPart : MT := (yX4_hasPart, cX4_hasPart, 3, some .boolean, 1)
def f_X4_hasPart (i0 : Nat) (a1 : Int32) (a2 : Int32) (σ : Mm) (K : Bool → Mm → Prop) : Prop := (i0 < 4 ∧ (if a1 < 0 then (K false σ) else (if a2 < 0 then (K false σ) else (if ((σ 13 i0 1) - a2) < a1 then (K false σ) else (K true σ)))))
set_option maxRecDepth 100000 in
set_option maxHeartbeats 4000000 in
theorem C_X4_hasPart {g : GG} {i0 : Nat} {a1 : Int32} {a2 : Int32} {σ : Mm} {K : Bool → Mm → Prop} (h : f_X4_hasPart i0 a1 a2 σ K) : Ct g 0 M_X4_hasPart (QB g 0 K) [.ref (gad g 13 i0), .int a1, .int a2] σ := by
  unfold f_X4_hasPart at h
  obtain ⟨hi0, h⟩ := h
  refine Ct.of (L := [(0, .ref (gad g 13 i0)), (1, .int a1), (2, .int a2)]) (show plainName RX4 = true by decide) (Nat.le_of_ble_eq_true rfl) rfl ?_
  refine AW.iload_n dX4_hasPart_0 1 rfl ?_
  refine AW.if_lt (tgt := 22) dX4_hasPart_1 rfl (fun c => ?_) (fun c => ?_)
  · replace h := ite_t c h
    refine AW.iconst (v := (0 : Int32)) dX4_hasPart_22 rfl ?_
    exact AW.bret false rfl rfl dX4_hasPart_23 h
  · replace h := ite_f c h
    refine AW.iload_n dX4_hasPart_4 2 rfl ?_
    refine AW.if_lt (tgt := 22) dX4_hasPart_5 rfl (fun c => ?_) (fun c => ?_)
    · replace h := ite_t c h
      refine AW.iconst (v := (0 : Int32)) dX4_hasPart_22 rfl ?_
      exact AW.bret false rfl rfl dX4_hasPart_23 h
    · replace h := ite_f c h
      refine AW.iload_n dX4_hasPart_8 1 rfl ?_
      refine AW.aload_n dX4_hasPart_9 0 rfl ?_
      refine AW.get (k := 1) (v := .int (σ 13 i0 1)) (ids_in (Nat.le_of_ble_eq_true rfl) hi0) rfl rfl inGX4 (Nat.le_of_ble_eq_true rfl) w_192 rfl dX4_hasPart_10 ?_
      refine AW.iload_n dX4_hasPart_13 2 rfl ?_
      refine AW.isub dX4_hasPart_14 ?_
      refine AW.icmp_gt (tgt := 22) dX4_hasPart_15 rfl (fun c => ?_) (fun c => ?_)
      · replace h := ite_t c h
        refine AW.iconst (v := (0 : Int32)) dX4_hasPart_22 rfl ?_
        exact AW.bret false rfl rfl dX4_hasPart_23 h
      · replace h := ite_f c h
        refine AW.iconst (v := (1 : Int32)) dX4_hasPart_18 rfl ?_
        refine AW.goto (tgt := 23) dX4_hasPart_19 rfl ?_
        exact AW.bret true rfl rfl dX4_hasPart_23 h
theorem ok_X4_hasPart : OkV M_X4_hasPart 2 := ⟨w_803, w_804, w_8, w_805, by decide +kernel, (Nat.le_of_ble_eq_true rfl)⟩
def M_X6_copy : MT := (yX6_copy, cX6_copy, 8, some .int, 2)
def f_X6_copy (a1 : Int32) (a2 : Int32) (a3 : Int32) (a4 : Int32) (a5 : Int32) (σ : Mm) (K : Int32 → Mm → Prop) : Prop := (f_X6_isSheet a1 σ (fun b2 σ1 => (if b2 = true then (f_X6_isSheet a3 σ1 (fun b6 σ5 => (if b6 = true then (vp_in a1 4 ∧ ((a1.toNatClampNeg) < 4 ∧ (vp_in a3 4 ∧ ((a3.toNatClampNeg) < 4 ∧ (f_X4_isMissing (a1.toNatClampNeg) σ5 (fun b12 σ11 => (if b12 = true then (f_X6_finding (5 : Int32) σ11 (fun r14 σ13 => (K r14 σ13))) else (f_X4_isMissing (a3.toNatClampNeg) σ11 (fun b16 σ15 => (if b16 = true then (f_X6_finding (5 : Int32) σ15 (fun r34 σ33 => (K r34 σ33))) else (if (σ15 13 (a1.toNatClampNeg) 0) = (σ15 13 (a3.toNatClampNeg) 0) then (f_X4_hasPart (a1.toNatClampNeg) a2 a5 σ15 (fun b18 σ17 => (if b18 = true then (f_X4_hasPart (a3.toNatClampNeg) a4 a5 σ17 (fun b22 σ21 => (if b22 = true then (¬ a2 < 0 ∧ ¬ a4 < 0 ∧ ¬ a5 < 0 ∧ a2.toNatClampNeg + a5.toNatClampNeg ≤ 40 ∧ a4.toNatClampNeg + a5.toNatClampNeg ≤ 40 ∧ (∃ σ28, σ28 = mrow σ21 14 (a3.toNatClampNeg) (va_cpy (σ21 14 (a1.toNatClampNeg)) (σ21 14 (a3.toNatClampNeg)) a2.toNatClampNeg a4.toNatClampNeg a5.toNatClampNeg) ∧ (K a5 σ28))) else (f_X6_finding (0 : Int32) σ21 (fun r30 σ29 => (K r30 σ29)))))) else (f_X6_finding (0 : Int32) σ17 (fun r20 σ19 => (K r20 σ19)))))) else (f_X6_finding (2 : Int32) σ15 (fun r32 σ31 => (K r32 σ31)))))))))))))) else (f_X6_finding (0 : Int32) σ5 (fun r36 σ35 => (K r36 σ35)))))) else (f_X6_finding (0 : Int32) σ1 (fun r4 σ3 => (K r4 σ3))))))
set_option maxRecDepth 100000 in
set_option maxHeartbeats 4000000 in
theorem C_X6_copy {g : GG} {a1 : Int32} {a2 : Int32} {a3 : Int32} {a4 : Int32} {a5 : Int32} {σ : Mm} {K : Int32 → Mm → Prop} (h : f_X6_copy a1 a2 a3 a4 a5 σ K) : Ct g 0 M_X6_copy (QI g 0 K) [.ref (gad g 16 0), .int a1, .int a2, .int a3, .int a4, .int a5] σ := by
  unfold f_X6_copy at h
  refine Ct.of (L := [(0, .ref (gad g 16 0)), (1, .int a1), (2, .int a2), (3, .int a3), (4, .int a4), (5, .int a5)]) (show plainName RX6 = true by decide) (Nat.le_of_ble_eq_true rfl) rfl ?_
  refine AW.iload_n dX6_copy_0 1 rfl ?_
  refine AW.callSB [.int a1] (C_X6_isSheet h) ok_X6_isSheet w_778 rfl (Nat.le_of_ble_eq_true rfl) (Nat.le_of_ble_eq_true rfl) rfl dX6_copy_1 (fun b2 σ1 h => ?_)
  refine AW.ifb_eq (tgt := 14) dX6_copy_4 rfl (fun c => ?_) (fun c => ?_)
  · replace h := ite_f c h
    refine AW.aload_n dX6_copy_14 0 rfl ?_
    refine AW.iconst (v := (0 : Int32)) dX6_copy_15 rfl ?_
    refine AW.callVI [.int (0 : Int32)] (C_X6_finding h) ok_X6_finding (id0_16_0) rfl rfl w_247 rfl (Nat.le_of_ble_eq_true rfl) (Nat.le_of_ble_eq_true rfl) rfl dX6_copy_16 (fun r4 σ3 h => ?_)
    exact AW.iret rfl dX6_copy_19 h
  · replace h := ite_t c h
    refine AW.iload_n dX6_copy_7 3 rfl ?_
    refine AW.callSB [.int a3] (C_X6_isSheet h) ok_X6_isSheet w_778 rfl (Nat.le_of_ble_eq_true rfl) (Nat.le_of_ble_eq_true rfl) rfl dX6_copy_8 (fun b6 σ5 h => ?_)
    refine AW.ifb_ne (tgt := 20) dX6_copy_11 rfl (fun c => ?_) (fun c => ?_)
    · replace h := ite_t c h
      refine AW.aload_n dX6_copy_20 0 rfl ?_
      refine AW.get (k := 9) (v := .ref (gad g 12 0)) (id0_16_0) rfl rfl inGX6 (Nat.le_of_ble_eq_true rfl) w_212 rfl dX6_copy_21 ?_
      refine AW.iload_n dX6_copy_24 1 rfl ?_
      obtain ⟨hq7, h⟩ := h
      obtain ⟨hv8, h⟩ := h
      refine AW.aald (a' := gad g 13 (a1.toNatClampNeg)) (ty := 2) (id0_12_0) rfl rfl rfl hq7 dX6_copy_25 ?_
      refine AW.astore (L' := [(0, .ref (gad g 16 0)), (1, .int a1), (2, .int a2), (3, .int a3), (4, .int a4), (5, .int a5), (6, .ref (gad g 13 (a1.toNatClampNeg)))]) dX6_copy_26 (Nat.le_of_ble_eq_true rfl) rfl ?_
      refine AW.aload_n dX6_copy_28 0 rfl ?_
      refine AW.get (k := 9) (v := .ref (gad g 12 0)) (id0_16_0) rfl rfl inGX6 (Nat.le_of_ble_eq_true rfl) w_212 rfl dX6_copy_29 ?_
      refine AW.iload_n dX6_copy_32 3 rfl ?_
      obtain ⟨hq9, h⟩ := h
      obtain ⟨hv10, h⟩ := h
      refine AW.aald (a' := gad g 13 (a3.toNatClampNeg)) (ty := 2) (id0_12_0) rfl rfl rfl hq9 dX6_copy_33 ?_
      refine AW.astore (L' := [(0, .ref (gad g 16 0)), (1, .int a1), (2, .int a2), (3, .int a3), (4, .int a4), (5, .int a5), (6, .ref (gad g 13 (a1.toNatClampNeg))), (7, .ref (gad g 13 (a3.toNatClampNeg)))]) dX6_copy_34 (Nat.le_of_ble_eq_true rfl) rfl ?_
      refine AW.aload dX6_copy_36 6 rfl ?_
      refine AW.callVB [] (C_X4_isMissing h) ok_X4_isMissing (ids_in (Nat.le_of_ble_eq_true rfl) hv8) rfl rfl w_790 rfl (Nat.le_of_ble_eq_true rfl) (Nat.le_of_ble_eq_true rfl) rfl dX6_copy_38 (fun b12 σ11 h => ?_)
      refine AW.ifb_ne (tgt := 52) dX6_copy_41 rfl (fun c => ?_) (fun c => ?_)
      · replace h := ite_t c h
        refine AW.aload_n dX6_copy_52 0 rfl ?_
        refine AW.iconst (v := (5 : Int32)) dX6_copy_53 rfl ?_
        refine AW.callVI [.int (5 : Int32)] (C_X6_finding h) ok_X6_finding (id0_16_0) rfl rfl w_247 rfl (Nat.le_of_ble_eq_true rfl) (Nat.le_of_ble_eq_true rfl) rfl dX6_copy_54 (fun r14 σ13 h => ?_)
        exact AW.iret rfl dX6_copy_57 h
      · replace h := ite_f c h
        refine AW.aload dX6_copy_44 7 rfl ?_
        refine AW.callVB [] (C_X4_isMissing h) ok_X4_isMissing (ids_in (Nat.le_of_ble_eq_true rfl) hv10) rfl rfl w_790 rfl (Nat.le_of_ble_eq_true rfl) (Nat.le_of_ble_eq_true rfl) rfl dX6_copy_46 (fun b16 σ15 h => ?_)
        refine AW.ifb_eq (tgt := 58) dX6_copy_49 rfl (fun c => ?_) (fun c => ?_)
        · replace h := ite_f c h
          refine AW.aload dX6_copy_58 6 rfl ?_
          refine AW.get (k := 0) (v := .int (σ15 13 (a1.toNatClampNeg) 0)) (ids_in (Nat.le_of_ble_eq_true rfl) hv8) rfl rfl inGX4 (Nat.le_of_ble_eq_true rfl) w_191 rfl dX6_copy_60 ?_
          refine AW.aload dX6_copy_63 7 rfl ?_
          refine AW.get (k := 0) (v := .int (σ15 13 (a3.toNatClampNeg) 0)) (ids_in (Nat.le_of_ble_eq_true rfl) hv10) rfl rfl inGX4 (Nat.le_of_ble_eq_true rfl) w_191 rfl dX6_copy_65 ?_
          refine AW.icmp_eq (tgt := 77) dX6_copy_68 rfl (fun c => ?_) (fun c => ?_)
          · replace h := ite_t c h
            refine AW.aload dX6_copy_77 6 rfl ?_
            refine AW.iload_n dX6_copy_79 2 rfl ?_
            refine AW.iload dX6_copy_80 5 rfl ?_
            refine AW.callVB [.int a2, .int a5] (C_X4_hasPart h) ok_X4_hasPart (ids_in (Nat.le_of_ble_eq_true rfl) hv8) rfl rfl w_802 rfl (Nat.le_of_ble_eq_true rfl) (Nat.le_of_ble_eq_true rfl) rfl dX6_copy_82 (fun b18 σ17 h => ?_)
            refine AW.ifb_eq (tgt := 100) dX6_copy_85 rfl (fun c => ?_) (fun c => ?_)
            · replace h := ite_f c h
              refine AW.aload_n dX6_copy_100 0 rfl ?_
              refine AW.iconst (v := (0 : Int32)) dX6_copy_101 rfl ?_
              refine AW.callVI [.int (0 : Int32)] (C_X6_finding h) ok_X6_finding (id0_16_0) rfl rfl w_247 rfl (Nat.le_of_ble_eq_true rfl) (Nat.le_of_ble_eq_true rfl) rfl dX6_copy_102 (fun r20 σ19 h => ?_)
              exact AW.iret rfl dX6_copy_105 h
            · replace h := ite_t c h
              refine AW.aload dX6_copy_88 7 rfl ?_
              refine AW.iload dX6_copy_90 4 rfl ?_
              refine AW.iload dX6_copy_92 5 rfl ?_
              refine AW.callVB [.int a4, .int a5] (C_X4_hasPart h) ok_X4_hasPart (ids_in (Nat.le_of_ble_eq_true rfl) hv10) rfl rfl w_802 rfl (Nat.le_of_ble_eq_true rfl) (Nat.le_of_ble_eq_true rfl) rfl dX6_copy_94 (fun b22 σ21 h => ?_)
              refine AW.ifb_ne (tgt := 106) dX6_copy_97 rfl (fun c => ?_) (fun c => ?_)
              · replace h := ite_t c h
                refine AW.aload dX6_copy_106 6 rfl ?_
                refine AW.get (k := 2) (v := .ref (gad g 14 (a1.toNatClampNeg))) (ids_in (Nat.le_of_ble_eq_true rfl) hv8) rfl rfl inGX4 (Nat.le_of_ble_eq_true rfl) w_195 rfl dX6_copy_108 ?_
                refine AW.iload_n dX6_copy_111 2 rfl ?_
                refine AW.aload dX6_copy_112 7 rfl ?_
                refine AW.get (k := 2) (v := .ref (gad g 14 (a3.toNatClampNeg))) (ids_in (Nat.le_of_ble_eq_true rfl) hv10) rfl rfl inGX4 (Nat.le_of_ble_eq_true rfl) w_195 rfl dX6_copy_114 ?_
                refine AW.iload dX6_copy_117 4 rfl ?_
                refine AW.iload dX6_copy_119 5 rfl ?_
                obtain ⟨hc23, hc24, hc25, hc26, hc27, h⟩ := h
                refine AW.copy (ids_in (Nat.le_of_ble_eq_true rfl) hv8) rfl (ids_in (Nat.le_of_ble_eq_true rfl) hv10) (fun _ => rfl) w_806 w_425 w_424 w_11 hc23 hc24 hc25 hc26 hc27 (Nat.le_of_ble_eq_true rfl) (Nat.le_of_ble_eq_true rfl) dX6_copy_121 ?_
                obtain ⟨σ28, eσ28, h⟩ := h
                rw [← eσ28]
                refine AW.iload dX6_copy_124 5 rfl ?_
                exact AW.iret rfl dX6_copy_126 h
              · replace h := ite_f c h
                refine AW.aload_n dX6_copy_100 0 rfl ?_
                refine AW.iconst (v := (0 : Int32)) dX6_copy_101 rfl ?_
                refine AW.callVI [.int (0 : Int32)] (C_X6_finding h) ok_X6_finding (id0_16_0) rfl rfl w_247 rfl (Nat.le_of_ble_eq_true rfl) (Nat.le_of_ble_eq_true rfl) rfl dX6_copy_102 (fun r30 σ29 h => ?_)
                exact AW.iret rfl dX6_copy_105 h
          · replace h := ite_f c h
            refine AW.aload_n dX6_copy_71 0 rfl ?_
            refine AW.iconst (v := (2 : Int32)) dX6_copy_72 rfl ?_
            refine AW.callVI [.int (2 : Int32)] (C_X6_finding h) ok_X6_finding (id0_16_0) rfl rfl w_247 rfl (Nat.le_of_ble_eq_true rfl) (Nat.le_of_ble_eq_true rfl) rfl dX6_copy_73 (fun r32 σ31 h => ?_)
            exact AW.iret rfl dX6_copy_76 h
        · replace h := ite_t c h
          refine AW.aload_n dX6_copy_52 0 rfl ?_
          refine AW.iconst (v := (5 : Int32)) dX6_copy_53 rfl ?_
          refine AW.callVI [.int (5 : Int32)] (C_X6_finding h) ok_X6_finding (id0_16_0) rfl rfl w_247 rfl (Nat.le_of_ble_eq_true rfl) (Nat.le_of_ble_eq_true rfl) rfl dX6_copy_54 (fun r34 σ33 h => ?_)
          exact AW.iret rfl dX6_copy_57 h
    · replace h := ite_f c h
      refine AW.aload_n dX6_copy_14 0 rfl ?_
      refine AW.iconst (v := (0 : Int32)) dX6_copy_15 rfl ?_
      refine AW.callVI [.int (0 : Int32)] (C_X6_finding h) ok_X6_finding (id0_16_0) rfl rfl w_247 rfl (Nat.le_of_ble_eq_true rfl) (Nat.le_of_ble_eq_true rfl) rfl dX6_copy_16 (fun r36 σ35 h => ?_)
      exact AW.iret rfl dX6_copy_19 h
theorem ok_X6_copy : OkV M_X6_copy 5 := ⟨w_799, w_800, w_1, w_801, by decide +kernel, (Nat.le_of_ble_eq_true rfl)⟩
def M_X6_takesToldSeat : MT := (yX6_takesToldSeat, cX6_takesToldSeat, 4, some .boolean, 5)
def f_X6_takesToldSeat (a1 : Int32) (a2 : Int32) (a3 : Int32) (σ : Mm) (K : Bool → Mm → Prop) : Prop := (if a3 = (8 : Int32) then (vp_in a1 5 ∧ ((5 * 0 + a1.toNatClampNeg) < 17 ∧ (vp_in a2 8 ∧ (∃ σ9, σ9 = mset σ 1 (5 * 0 + a1.toNatClampNeg) (a2.toNatClampNeg) (-1 : Int32) ∧ (K true σ9))))) else (f_X6_isPerson a3 σ (fun b2 σ1 => (if b2 = true then (f_X2_isTakenByAnother 0 a1 a2 a3 σ1 (fun b4 σ3 => (if b4 = true then (K false σ3) else (f_X2_putDown 0 a3 a1 a2 σ3 (fun σ5 => (K true σ5)))))) else (K false σ1)))))
set_option maxRecDepth 100000 in
set_option maxHeartbeats 4000000 in
theorem C_X6_takesToldSeat {g : GG} {a1 : Int32} {a2 : Int32} {a3 : Int32} {σ : Mm} {K : Bool → Mm → Prop} (h : f_X6_takesToldSeat a1 a2 a3 σ K) : Ct g 0 M_X6_takesToldSeat (QB g 0 K) [.ref (gad g 16 0), .int a1, .int a2, .int a3] σ := by
  unfold f_X6_takesToldSeat at h
  refine Ct.of (L := [(0, .ref (gad g 16 0)), (1, .int a1), (2, .int a2), (3, .int a3)]) (show plainName RX6 = true by decide) (Nat.le_of_ble_eq_true rfl) rfl ?_
  refine AW.iload_n dX6_takesToldSeat_0 3 rfl ?_
  refine AW.bipush (v := (8 : Int32)) dX6_takesToldSeat_1 rfl ?_
  refine AW.icmp_ne (tgt := 23) dX6_takesToldSeat_3 rfl (fun c => ?_) (fun c => ?_)
  · replace h := ite_f c h
    refine AW.iload_n dX6_takesToldSeat_23 3 rfl ?_
    refine AW.callSB [.int a3] (C_X6_isPerson h) ok_X6_isPerson w_244 rfl (Nat.le_of_ble_eq_true rfl) (Nat.le_of_ble_eq_true rfl) rfl dX6_takesToldSeat_24 (fun b2 σ1 h => ?_)
    refine AW.ifb_eq (tgt := 43) dX6_takesToldSeat_27 rfl (fun c => ?_) (fun c => ?_)
    · replace h := ite_f c h
      refine AW.iconst (v := (0 : Int32)) dX6_takesToldSeat_43 rfl ?_
      exact AW.bret false rfl rfl dX6_takesToldSeat_44 h
    · replace h := ite_t c h
      refine AW.aload_n dX6_takesToldSeat_30 0 rfl ?_
      refine AW.get (k := 0) (v := .ref (gad g 5 0)) (id0_16_0) rfl rfl inGX6 (Nat.le_of_ble_eq_true rfl) w_203 rfl dX6_takesToldSeat_31 ?_
      refine AW.iload_n dX6_takesToldSeat_34 1 rfl ?_
      refine AW.iload_n dX6_takesToldSeat_35 2 rfl ?_
      refine AW.iload_n dX6_takesToldSeat_36 3 rfl ?_
      refine AW.callVB [.int a1, .int a2, .int a3] (C_X2_isTakenByAnother h) ok_X2_isTakenByAnother (id0_5_0) rfl rfl w_375 rfl (Nat.le_of_ble_eq_true rfl) (Nat.le_of_ble_eq_true rfl) rfl dX6_takesToldSeat_37 (fun b4 σ3 h => ?_)
      refine AW.ifb_eq (tgt := 45) dX6_takesToldSeat_40 rfl (fun c => ?_) (fun c => ?_)
      · replace h := ite_f c h
        refine AW.aload_n dX6_takesToldSeat_45 0 rfl ?_
        refine AW.get (k := 0) (v := .ref (gad g 5 0)) (id0_16_0) rfl rfl inGX6 (Nat.le_of_ble_eq_true rfl) w_203 rfl dX6_takesToldSeat_46 ?_
        refine AW.iload_n dX6_takesToldSeat_49 3 rfl ?_
        refine AW.iload_n dX6_takesToldSeat_50 1 rfl ?_
        refine AW.iload_n dX6_takesToldSeat_51 2 rfl ?_
        refine AW.callVV [.int a3, .int a1, .int a2] (C_X2_putDown h) ok_X2_putDown (id0_5_0) rfl rfl w_379 rfl (Nat.le_of_ble_eq_true rfl) (Nat.le_of_ble_eq_true rfl) rfl dX6_takesToldSeat_52 (fun σ5 h => ?_)
        refine AW.iconst (v := (1 : Int32)) dX6_takesToldSeat_55 rfl ?_
        exact AW.bret true rfl rfl dX6_takesToldSeat_56 h
      · replace h := ite_t c h
        refine AW.iconst (v := (0 : Int32)) dX6_takesToldSeat_43 rfl ?_
        exact AW.bret false rfl rfl dX6_takesToldSeat_44 h
  · replace h := ite_t c h
    refine AW.aload_n dX6_takesToldSeat_6 0 rfl ?_
    refine AW.get (k := 0) (v := .ref (gad g 5 0)) (id0_16_0) rfl rfl inGX6 (Nat.le_of_ble_eq_true rfl) w_203 rfl dX6_takesToldSeat_7 ?_
    refine AW.get (k := 1) (v := .ref (gad g 6 0)) (id0_5_0) rfl rfl inGX2 (Nat.le_of_ble_eq_true rfl) w_96 rfl dX6_takesToldSeat_10 ?_
    refine AW.iload_n dX6_takesToldSeat_13 1 rfl ?_
    obtain ⟨hq6, h⟩ := h
    obtain ⟨hv7, h⟩ := h
    refine AW.aald (a' := gad g 0 (5 * 0 + a1.toNatClampNeg)) (ty := 1) (id0_6_0) rfl rfl rfl hq6 dX6_takesToldSeat_14 ?_
    refine AW.get (k := 2) (v := .ref (gad g 1 (5 * 0 + a1.toNatClampNeg))) (ids_in (Nat.le_of_ble_eq_true rfl) hv7) rfl rfl inGX0 (Nat.le_of_ble_eq_true rfl) w_82 rfl dX6_takesToldSeat_15 ?_
    refine AW.iload_n dX6_takesToldSeat_18 2 rfl ?_
    refine AW.iconst (v := (-1 : Int32)) dX6_takesToldSeat_19 rfl ?_
    obtain ⟨hq8, h⟩ := h
    refine AW.iast (jn := (a2.toNatClampNeg)) (ids_in (Nat.le_of_ble_eq_true rfl) hv7) (fun _ => rfl) hq8 rfl dX6_takesToldSeat_20 ?_
    obtain ⟨σ9, eσ9, h⟩ := h
    rw [← eσ9]
    refine AW.iconst (v := (1 : Int32)) dX6_takesToldSeat_21 rfl ?_
    exact AW.bret true rfl rfl dX6_takesToldSeat_22 h
theorem ok_X6_takesToldSeat : OkV M_X6_takesToldSeat 3 := ⟨w_814, wp_25, w_1, w_815, by decide +kernel, (Nat.le_of_ble_eq_true rfl)⟩
def M_X6_load : MT := (yX6_load, cX6_load, 5, some .int, 6)
set_option maxRecDepth 100000 in
def f_X6_load_73 (a1 : Int32) (a2 : Int32) (a3 : Int32) (K : Int32 → Mm → Prop) : Nat → Int32 → Mm → Prop
  | 0, _, _ => False
  | n + 1, a4, σ => (if a3 ≤ a4 then (K a4 σ) else (vp_in a1 4 ∧ ((a1.toNatClampNeg) < 4 ∧ (vp_in a4 40 ∧ (f_X6_takesToldSeat a2 a4 (σ 14 (a1.toNatClampNeg) (a4.toNatClampNeg)) σ (fun b16 σ15 => (if b16 = true then (f_X6_load_73 a1 a2 a3 K n (a4 + (1 : Int32)) σ15) else (K a4 σ15))))))))
set_option maxRecDepth 100000 in
set_option maxHeartbeats 4000000 in
theorem T_X6_load_73 {g : GG} {a1 : Int32} {a2 : Int32} {a3 : Int32} {K : Int32 → Mm → Prop} : ∀ (n : Nat) (a4 : Int32) (σ : Mm), f_X6_load_73 a1 a2 a3 K n a4 σ → AW g 0 M_X6_load (QI g 0 K) 73 [(0, .ref (gad g 16 0)), (1, .int a1), (2, .int a2), (3, .int a3), (4, .int a4)] [] σ := by
  intro n
  induction n with
  | zero => intro a4 σ h; exact False.elim h
  | succ n ih =>
    intro a4 σ h
    rw [f_X6_load_73] at h
    refine AW.iload dX6_load_73 4 rfl ?_
    refine AW.iload_n dX6_load_75 3 rfl ?_
    refine AW.icmp_ge (tgt := 107) dX6_load_76 rfl (fun c => ?_) (fun c => ?_)
    · replace h := ite_t c h
      refine AW.iload dX6_load_107 4 rfl ?_
      exact AW.iret rfl dX6_load_109 h
    · replace h := ite_f c h
      refine AW.aload_n dX6_load_79 0 rfl ?_
      refine AW.iload_n dX6_load_80 2 rfl ?_
      refine AW.iload dX6_load_81 4 rfl ?_
      refine AW.aload_n dX6_load_83 0 rfl ?_
      refine AW.get (k := 9) (v := .ref (gad g 12 0)) (id0_16_0) rfl rfl inGX6 (Nat.le_of_ble_eq_true rfl) w_212 rfl dX6_load_84 ?_
      refine AW.iload_n dX6_load_87 1 rfl ?_
      obtain ⟨hq12, h⟩ := h
      obtain ⟨hv13, h⟩ := h
      refine AW.aald (a' := gad g 13 (a1.toNatClampNeg)) (ty := 2) (id0_12_0) rfl rfl rfl hq12 dX6_load_88 ?_
      refine AW.get (k := 2) (v := .ref (gad g 14 (a1.toNatClampNeg))) (ids_in (Nat.le_of_ble_eq_true rfl) hv13) rfl rfl inGX4 (Nat.le_of_ble_eq_true rfl) w_195 rfl dX6_load_89 ?_
      refine AW.iload dX6_load_92 4 rfl ?_
      obtain ⟨hq14, h⟩ := h
      refine AW.iald (jn := (a4.toNatClampNeg)) (ids_in (Nat.le_of_ble_eq_true rfl) hv13) rfl hq14 rfl dX6_load_94 ?_
      refine AW.callVB [.int a2, .int a4, .int (σ 14 (a1.toNatClampNeg) (a4.toNatClampNeg))] (C_X6_takesToldSeat h) ok_X6_takesToldSeat (id0_16_0) rfl rfl w_812 rfl (Nat.le_of_ble_eq_true rfl) (Nat.le_of_ble_eq_true rfl) rfl dX6_load_95 (fun b16 σ15 h => ?_)
      refine AW.ifb_eq (tgt := 107) dX6_load_98 rfl (fun c => ?_) (fun c => ?_)
      · replace h := ite_f c h
        refine AW.iload dX6_load_107 4 rfl ?_
        exact AW.iret rfl dX6_load_109 h
      · replace h := ite_t c h
        refine AW.iinc (v := (a4 + (1 : Int32))) (L' := [(0, .ref (gad g 16 0)), (1, .int a1), (2, .int a2), (3, .int a3), (4, .int (a4 + (1 : Int32)))]) dX6_load_101 4 rfl rfl (Nat.le_of_ble_eq_true rfl) rfl ?_
        refine AW.goto (tgt := 73) dX6_load_104 rfl ?_
        exact ih _ _ h
def f_X6_load (a1 : Int32) (a2 : Int32) (σ : Mm) (K : Int32 → Mm → Prop) : Prop := (f_X6_isSheet a1 σ (fun b2 σ1 => (if b2 = true then (vp_in a1 4 ∧ ((a1.toNatClampNeg) < 4 ∧ (f_X4_isMissing (a1.toNatClampNeg) σ1 (fun b6 σ5 => (if b6 = true then (f_X6_finding (5 : Int32) σ5 (fun r20 σ19 => (K r20 σ19))) else (f_X6_isBench a2 σ5 (fun b8 σ7 => (if b8 = true then (vp_in a1 4 ∧ (vp_in a2 5 ∧ ((5 * 0 + a2.toNatClampNeg) < 17 ∧ (∃ m, f_X6_load_73 a1 a2 (if (σ7 0 (5 * 0 + a2.toNatClampNeg) 1) < (σ7 13 (a1.toNatClampNeg) 1) then (σ7 0 (5 * 0 + a2.toNatClampNeg) 1) else (σ7 13 (a1.toNatClampNeg) 1)) K m (0 : Int32) σ7)))) else (f_X6_finding (0 : Int32) σ7 (fun r18 σ17 => (K r18 σ17))))))))))) else (f_X6_finding (0 : Int32) σ1 (fun r22 σ21 => (K r22 σ21))))))
set_option maxRecDepth 100000 in
set_option maxHeartbeats 4000000 in
theorem C_X6_load {g : GG} {a1 : Int32} {a2 : Int32} {σ : Mm} {K : Int32 → Mm → Prop} (h : f_X6_load a1 a2 σ K) : Ct g 0 M_X6_load (QI g 0 K) [.ref (gad g 16 0), .int a1, .int a2] σ := by
  unfold f_X6_load at h
  refine Ct.of (L := [(0, .ref (gad g 16 0)), (1, .int a1), (2, .int a2)]) (show plainName RX6 = true by decide) (Nat.le_of_ble_eq_true rfl) rfl ?_
  refine AW.iload_n dX6_load_0 1 rfl ?_
  refine AW.callSB [.int a1] (C_X6_isSheet h) ok_X6_isSheet w_778 rfl (Nat.le_of_ble_eq_true rfl) (Nat.le_of_ble_eq_true rfl) rfl dX6_load_1 (fun b2 σ1 h => ?_)
  refine AW.ifb_ne (tgt := 13) dX6_load_4 rfl (fun c => ?_) (fun c => ?_)
  · replace h := ite_t c h
    refine AW.aload_n dX6_load_13 0 rfl ?_
    refine AW.get (k := 9) (v := .ref (gad g 12 0)) (id0_16_0) rfl rfl inGX6 (Nat.le_of_ble_eq_true rfl) w_212 rfl dX6_load_14 ?_
    refine AW.iload_n dX6_load_17 1 rfl ?_
    obtain ⟨hq3, h⟩ := h
    obtain ⟨hv4, h⟩ := h
    refine AW.aald (a' := gad g 13 (a1.toNatClampNeg)) (ty := 2) (id0_12_0) rfl rfl rfl hq3 dX6_load_18 ?_
    refine AW.callVB [] (C_X4_isMissing h) ok_X4_isMissing (ids_in (Nat.le_of_ble_eq_true rfl) hv4) rfl rfl w_790 rfl (Nat.le_of_ble_eq_true rfl) (Nat.le_of_ble_eq_true rfl) rfl dX6_load_19 (fun b6 σ5 h => ?_)
    refine AW.ifb_eq (tgt := 31) dX6_load_22 rfl (fun c => ?_) (fun c => ?_)
    · replace h := ite_f c h
      refine AW.aload_n dX6_load_31 0 rfl ?_
      refine AW.iload_n dX6_load_32 2 rfl ?_
      refine AW.callVB [.int a2] (C_X6_isBench h) ok_X6_isBench (id0_16_0) rfl rfl w_308 rfl (Nat.le_of_ble_eq_true rfl) (Nat.le_of_ble_eq_true rfl) rfl dX6_load_33 (fun b8 σ7 h => ?_)
      refine AW.ifb_ne (tgt := 45) dX6_load_36 rfl (fun c => ?_) (fun c => ?_)
      · replace h := ite_t c h
        refine AW.aload_n dX6_load_45 0 rfl ?_
        refine AW.get (k := 9) (v := .ref (gad g 12 0)) (id0_16_0) rfl rfl inGX6 (Nat.le_of_ble_eq_true rfl) w_212 rfl dX6_load_46 ?_
        refine AW.iload_n dX6_load_49 1 rfl ?_
        obtain ⟨hq9, h⟩ := h
        refine AW.aald (a' := gad g 13 (a1.toNatClampNeg)) (ty := 2) (id0_12_0) rfl rfl rfl hq9 dX6_load_50 ?_
        refine AW.get (k := 1) (v := .int (σ7 13 (a1.toNatClampNeg) 1)) (ids_in (Nat.le_of_ble_eq_true rfl) hv4) rfl rfl inGX4 (Nat.le_of_ble_eq_true rfl) w_193 rfl dX6_load_51 ?_
        refine AW.aload_n dX6_load_54 0 rfl ?_
        refine AW.get (k := 0) (v := .ref (gad g 5 0)) (id0_16_0) rfl rfl inGX6 (Nat.le_of_ble_eq_true rfl) w_203 rfl dX6_load_55 ?_
        refine AW.get (k := 1) (v := .ref (gad g 6 0)) (id0_5_0) rfl rfl inGX2 (Nat.le_of_ble_eq_true rfl) w_96 rfl dX6_load_58 ?_
        refine AW.iload_n dX6_load_61 2 rfl ?_
        obtain ⟨hq10, h⟩ := h
        obtain ⟨hv11, h⟩ := h
        refine AW.aald (a' := gad g 0 (5 * 0 + a2.toNatClampNeg)) (ty := 1) (id0_6_0) rfl rfl rfl hq10 dX6_load_62 ?_
        refine AW.get (k := 1) (v := .int (σ7 0 (5 * 0 + a2.toNatClampNeg) 1)) (ids_in (Nat.le_of_ble_eq_true rfl) hv11) rfl rfl inGX0 (Nat.le_of_ble_eq_true rfl) w_75 rfl dX6_load_63 ?_
        refine AW.mmin w_811 w_506 w_10 w_507 (Nat.le_of_ble_eq_true rfl) (Nat.le_of_ble_eq_true rfl) dX6_load_66 ?_
        refine AW.istore_n (L' := [(0, .ref (gad g 16 0)), (1, .int a1), (2, .int a2), (3, .int (if (σ7 0 (5 * 0 + a2.toNatClampNeg) 1) < (σ7 13 (a1.toNatClampNeg) 1) then (σ7 0 (5 * 0 + a2.toNatClampNeg) 1) else (σ7 13 (a1.toNatClampNeg) 1)))]) dX6_load_69 (Nat.le_of_ble_eq_true rfl) rfl ?_
        refine AW.iconst (v := (0 : Int32)) dX6_load_70 rfl ?_
        refine AW.istore (L' := [(0, .ref (gad g 16 0)), (1, .int a1), (2, .int a2), (3, .int (if (σ7 0 (5 * 0 + a2.toNatClampNeg) 1) < (σ7 13 (a1.toNatClampNeg) 1) then (σ7 0 (5 * 0 + a2.toNatClampNeg) 1) else (σ7 13 (a1.toNatClampNeg) 1))), (4, .int (0 : Int32))]) dX6_load_71 (Nat.le_of_ble_eq_true rfl) rfl ?_
        obtain ⟨m, h⟩ := h
        refine T_X6_load_73 m _ _ h
      · replace h := ite_f c h
        refine AW.aload_n dX6_load_39 0 rfl ?_
        refine AW.iconst (v := (0 : Int32)) dX6_load_40 rfl ?_
        refine AW.callVI [.int (0 : Int32)] (C_X6_finding h) ok_X6_finding (id0_16_0) rfl rfl w_247 rfl (Nat.le_of_ble_eq_true rfl) (Nat.le_of_ble_eq_true rfl) rfl dX6_load_41 (fun r18 σ17 h => ?_)
        exact AW.iret rfl dX6_load_44 h
    · replace h := ite_t c h
      refine AW.aload_n dX6_load_25 0 rfl ?_
      refine AW.iconst (v := (5 : Int32)) dX6_load_26 rfl ?_
      refine AW.callVI [.int (5 : Int32)] (C_X6_finding h) ok_X6_finding (id0_16_0) rfl rfl w_247 rfl (Nat.le_of_ble_eq_true rfl) (Nat.le_of_ble_eq_true rfl) rfl dX6_load_27 (fun r20 σ19 h => ?_)
      exact AW.iret rfl dX6_load_30 h
  · replace h := ite_f c h
    refine AW.aload_n dX6_load_7 0 rfl ?_
    refine AW.iconst (v := (0 : Int32)) dX6_load_8 rfl ?_
    refine AW.callVI [.int (0 : Int32)] (C_X6_finding h) ok_X6_finding (id0_16_0) rfl rfl w_247 rfl (Nat.le_of_ble_eq_true rfl) (Nat.le_of_ble_eq_true rfl) rfl dX6_load_9 (fun r22 σ21 h => ?_)
    exact AW.iret rfl dX6_load_12 h
theorem ok_X6_load : OkV M_X6_load 2 := ⟨w_808, w_809, w_1, w_810, by decide +kernel, (Nat.le_of_ble_eq_true rfl)⟩
def M_X4_firstNoSeater : MT := (yX4_firstNoSeater, cX4_firstNoSeater, 4, some .int, 2)
set_option maxRecDepth 100000 in
def f_X4_firstNoSeater_4 (i0 : Nat) (K : Int32 → Mm → Prop) : Nat → Int32 → Int32 → Mm → Prop
  | 0, _, _, _ => False
  | n + 1, a1, a2, σ => (if (σ 13 i0 1) ≤ a2 then (K (-1 : Int32) σ) else (vp_in a2 40 ∧ (if (σ 14 i0 (a2.toNatClampNeg)) = (8 : Int32) then (f_X4_firstNoSeater_4 i0 K n a1 (a2 + (1 : Int32)) σ) else (f_X6_isPerson (σ 14 i0 (a2.toNatClampNeg)) σ (fun b3 σ2 => (if b3 = true then (f_X6_has a1 (σ 14 i0 (a2.toNatClampNeg)) σ2 (fun b5 σ4 => (if b5 = true then (K a2 σ4) else (f_X4_firstNoSeater_4 i0 K n (a1 ||| ((1 : Int32) <<< ((σ 14 i0 (a2.toNatClampNeg)) &&& 31))) (a2 + (1 : Int32)) σ4)))) else (K a2 σ2)))))))
set_option maxRecDepth 100000 in
set_option maxHeartbeats 4000000 in
theorem T_X4_firstNoSeater_4 {g : GG} {i0 : Nat} {K : Int32 → Mm → Prop} (hi0 : i0 < 4) : ∀ (n : Nat) (a1 : Int32) (a2 : Int32) (σ : Mm), f_X4_firstNoSeater_4 i0 K n a1 a2 σ → AW g 0 M_X4_firstNoSeater (QI g 0 K) 4 [(0, .ref (gad g 13 i0)), (1, .int a1), (2, .int a2)] [] σ := by
  intro n
  induction n with
  | zero => intro a1 a2 σ h; exact False.elim h
  | succ n ih =>
    intro a1 a2 σ h
    rw [f_X4_firstNoSeater_4] at h
    refine AW.iload_n dX4_firstNoSeater_4 2 rfl ?_
    refine AW.aload_n dX4_firstNoSeater_5 0 rfl ?_
    refine AW.get (k := 1) (v := .int (σ 13 i0 1)) (ids_in (Nat.le_of_ble_eq_true rfl) hi0) rfl rfl inGX4 (Nat.le_of_ble_eq_true rfl) w_192 rfl dX4_firstNoSeater_6 ?_
    refine AW.icmp_ge (tgt := 54) dX4_firstNoSeater_9 rfl (fun c => ?_) (fun c => ?_)
    · replace h := ite_t c h
      refine AW.iconst (v := (-1 : Int32)) dX4_firstNoSeater_54 rfl ?_
      exact AW.iret rfl dX4_firstNoSeater_55 h
    · replace h := ite_f c h
      refine AW.aload_n dX4_firstNoSeater_12 0 rfl ?_
      refine AW.get (k := 2) (v := .ref (gad g 14 i0)) (ids_in (Nat.le_of_ble_eq_true rfl) hi0) rfl rfl inGX4 (Nat.le_of_ble_eq_true rfl) w_194 rfl dX4_firstNoSeater_13 ?_
      refine AW.iload_n dX4_firstNoSeater_16 2 rfl ?_
      obtain ⟨hq1, h⟩ := h
      refine AW.iald (jn := (a2.toNatClampNeg)) (ids_in (Nat.le_of_ble_eq_true rfl) hi0) rfl hq1 rfl dX4_firstNoSeater_17 ?_
      refine AW.istore_n (L' := [(0, .ref (gad g 13 i0)), (1, .int a1), (2, .int a2), (3, .int (σ 14 i0 (a2.toNatClampNeg)))]) dX4_firstNoSeater_18 (Nat.le_of_ble_eq_true rfl) rfl ?_
      refine AW.iload_n dX4_firstNoSeater_19 3 rfl ?_
      refine AW.bipush (v := (8 : Int32)) dX4_firstNoSeater_20 rfl ?_
      refine AW.icmp_eq (tgt := 48) dX4_firstNoSeater_22 rfl (fun c => ?_) (fun c => ?_)
      · replace h := ite_t c h
        refine AW.iinc (v := (a2 + (1 : Int32))) (L' := [(0, .ref (gad g 13 i0)), (1, .int a1), (2, .int (a2 + (1 : Int32))), (3, .int (σ 14 i0 (a2.toNatClampNeg)))]) dX4_firstNoSeater_48 2 rfl rfl (Nat.le_of_ble_eq_true rfl) rfl ?_
        refine AW.goto (tgt := 4) dX4_firstNoSeater_51 rfl ?_
        refine AW.eqL [0, 1, 2] rfl ?_
        exact ih _ _ _ h
      · replace h := ite_f c h
        refine AW.iload_n dX4_firstNoSeater_25 3 rfl ?_
        refine AW.callNB [.int (σ 14 i0 (a2.toNatClampNeg))] (C_X6_isPerson h) ok_X6_isPerson (by decide) rfl (Nat.le_of_ble_eq_true rfl) (Nat.le_of_ble_eq_true rfl) rfl dX4_firstNoSeater_26 (fun b3 σ2 h => ?_)
        refine AW.ifb_eq (tgt := 40) dX4_firstNoSeater_29 rfl (fun c => ?_) (fun c => ?_)
        · replace h := ite_f c h
          refine AW.iload_n dX4_firstNoSeater_40 2 rfl ?_
          exact AW.iret rfl dX4_firstNoSeater_41 h
        · replace h := ite_t c h
          refine AW.iload_n dX4_firstNoSeater_32 1 rfl ?_
          refine AW.iload_n dX4_firstNoSeater_33 3 rfl ?_
          refine AW.callNB [.int a1, .int (σ 14 i0 (a2.toNatClampNeg))] (C_X6_has h) ok_X6_has (by decide) rfl (Nat.le_of_ble_eq_true rfl) (Nat.le_of_ble_eq_true rfl) rfl dX4_firstNoSeater_34 (fun b5 σ4 h => ?_)
          refine AW.ifb_eq (tgt := 42) dX4_firstNoSeater_37 rfl (fun c => ?_) (fun c => ?_)
          · replace h := ite_f c h
            refine AW.iload_n dX4_firstNoSeater_42 1 rfl ?_
            refine AW.iconst (v := (1 : Int32)) dX4_firstNoSeater_43 rfl ?_
            refine AW.iload_n dX4_firstNoSeater_44 3 rfl ?_
            refine AW.ishl dX4_firstNoSeater_45 ?_
            refine AW.ior dX4_firstNoSeater_46 ?_
            refine AW.istore_n (L' := [(0, .ref (gad g 13 i0)), (1, .int (a1 ||| ((1 : Int32) <<< ((σ 14 i0 (a2.toNatClampNeg)) &&& 31)))), (2, .int a2), (3, .int (σ 14 i0 (a2.toNatClampNeg)))]) dX4_firstNoSeater_47 (Nat.le_of_ble_eq_true rfl) rfl ?_
            refine AW.iinc (v := (a2 + (1 : Int32))) (L' := [(0, .ref (gad g 13 i0)), (1, .int (a1 ||| ((1 : Int32) <<< ((σ 14 i0 (a2.toNatClampNeg)) &&& 31)))), (2, .int (a2 + (1 : Int32))), (3, .int (σ 14 i0 (a2.toNatClampNeg)))]) dX4_firstNoSeater_48 2 rfl rfl (Nat.le_of_ble_eq_true rfl) rfl ?_
            refine AW.goto (tgt := 4) dX4_firstNoSeater_51 rfl ?_
            refine AW.eqL [0, 1, 2] rfl ?_
            exact ih _ _ _ h
          · replace h := ite_t c h
            refine AW.iload_n dX4_firstNoSeater_40 2 rfl ?_
            exact AW.iret rfl dX4_firstNoSeater_41 h
def f_X4_firstNoSeater (i0 : Nat) (σ : Mm) (K : Int32 → Mm → Prop) : Prop := (i0 < 4 ∧ (∃ m, f_X4_firstNoSeater_4 i0 K m (0 : Int32) (0 : Int32) σ))
set_option maxRecDepth 100000 in
set_option maxHeartbeats 4000000 in
theorem C_X4_firstNoSeater {g : GG} {i0 : Nat} {σ : Mm} {K : Int32 → Mm → Prop} (h : f_X4_firstNoSeater i0 σ K) : Ct g 0 M_X4_firstNoSeater (QI g 0 K) [.ref (gad g 13 i0)] σ := by
  unfold f_X4_firstNoSeater at h
  obtain ⟨hi0, h⟩ := h
  refine Ct.of (L := [(0, .ref (gad g 13 i0))]) (show plainName RX4 = true by decide) (Nat.le_of_ble_eq_true rfl) rfl ?_
  refine AW.iconst (v := (0 : Int32)) dX4_firstNoSeater_0 rfl ?_
  refine AW.istore_n (L' := [(0, .ref (gad g 13 i0)), (1, .int (0 : Int32))]) dX4_firstNoSeater_1 (Nat.le_of_ble_eq_true rfl) rfl ?_
  refine AW.iconst (v := (0 : Int32)) dX4_firstNoSeater_2 rfl ?_
  refine AW.istore_n (L' := [(0, .ref (gad g 13 i0)), (1, .int (0 : Int32)), (2, .int (0 : Int32))]) dX4_firstNoSeater_3 (Nat.le_of_ble_eq_true rfl) rfl ?_
  obtain ⟨m, h⟩ := h
  refine T_X4_firstNoSeater_4 hi0 m _ _ _ h
theorem ok_X4_firstNoSeater : OkV M_X4_firstNoSeater 0 := ⟨w_821, w_822, w_8, w_823, by decide +kernel, (Nat.le_of_ble_eq_true rfl)⟩
def M_X6_judge : MT := (yX6_judge, cX6_judge, 7, some .int, 5)
set_option maxRecDepth 100000 in
def f_X6_judge_114 (a1 : Int32) (i4 : Nat) (K : Int32 → Mm → Prop) (k167 : Mm → Prop) : Nat → Int32 → Mm → Prop
  | 0, _, _ => False
  | n + 1, a5, σ => (if (σ 0 i4 1) ≤ a5 then (k167 σ) else (vp_in a1 4 ∧ ((a1.toNatClampNeg) < 4 ∧ (vp_in a5 40 ∧ (if (σ 14 (a1.toNatClampNeg) (a5.toNatClampNeg)) = (8 : Int32) then (vp_in a5 8 ∧ (∃ σ22, σ22 = mset σ 1 15 (a5.toNatClampNeg) (-1 : Int32) ∧ (f_X6_judge_114 a1 i4 K k167 n (a5 + (1 : Int32)) σ22))) else (vp_in a5 8 ∧ (∃ σ20, σ20 = mset σ 1 15 (a5.toNatClampNeg) (σ 14 (a1.toNatClampNeg) (a5.toNatClampNeg)) ∧ (f_X6_judge_114 a1 i4 K k167 n (a5 + (1 : Int32)) σ20))))))))
set_option maxRecDepth 100000 in
set_option maxHeartbeats 4000000 in
theorem T_X6_judge_114 {g : GG} {a1 : Int32} {i4 : Nat} {K : Int32 → Mm → Prop} {k167 : Mm → Prop} (hi4 : i4 < 17) (hk167 : ∀  (u : Mm), k167  u → AW g 0 M_X6_judge (QI g 0 K) 167 [(0, .ref (gad g 16 0))] [] u) : ∀ (n : Nat) (a5 : Int32) (σ : Mm), f_X6_judge_114 a1 i4 K k167 n a5 σ → AW g 0 M_X6_judge (QI g 0 K) 114 [(0, .ref (gad g 16 0)), (1, .int a1), (4, .ref (gad g 0 i4)), (5, .int a5)] [] σ := by
  intro n
  induction n with
  | zero => intro a5 σ h; exact False.elim h
  | succ n ih =>
    intro a5 σ h
    rw [f_X6_judge_114] at h
    refine AW.iload dX6_judge_114 3 rfl ?_
    refine AW.aload dX6_judge_116 2 rfl ?_
    refine AW.get (k := 1) (v := .int (σ 0 i4 1)) (ids_in (Nat.le_of_ble_eq_true rfl) hi4) rfl rfl inGX0 (Nat.le_of_ble_eq_true rfl) w_75 rfl dX6_judge_118 ?_
    refine AW.icmp_ge (tgt := 167) dX6_judge_121 rfl (fun c => ?_) (fun c => ?_)
    · replace h := ite_t c h
      refine AW.eqL [0] rfl ?_
      exact hk167 _ h
    · replace h := ite_f c h
      refine AW.aload_n dX6_judge_124 0 rfl ?_
      refine AW.get (k := 9) (v := .ref (gad g 12 0)) (id0_16_0) rfl rfl inGX6 (Nat.le_of_ble_eq_true rfl) w_212 rfl dX6_judge_125 ?_
      refine AW.iload_n dX6_judge_128 1 rfl ?_
      obtain ⟨hq16, h⟩ := h
      obtain ⟨hv17, h⟩ := h
      refine AW.aald (a' := gad g 13 (a1.toNatClampNeg)) (ty := 2) (id0_12_0) rfl rfl rfl hq16 dX6_judge_129 ?_
      refine AW.get (k := 2) (v := .ref (gad g 14 (a1.toNatClampNeg))) (ids_in (Nat.le_of_ble_eq_true rfl) hv17) rfl rfl inGX4 (Nat.le_of_ble_eq_true rfl) w_195 rfl dX6_judge_130 ?_
      refine AW.iload dX6_judge_133 3 rfl ?_
      obtain ⟨hq18, h⟩ := h
      refine AW.iald (jn := (a5.toNatClampNeg)) (ids_in (Nat.le_of_ble_eq_true rfl) hv17) rfl hq18 rfl dX6_judge_135 ?_
      refine AW.istore (L' := [(0, .ref (gad g 16 0)), (1, .int a1), (4, .ref (gad g 0 i4)), (5, .int a5), (6, .int (σ 14 (a1.toNatClampNeg) (a5.toNatClampNeg)))]) dX6_judge_136 (Nat.le_of_ble_eq_true rfl) rfl ?_
      refine AW.aload_n dX6_judge_138 0 rfl ?_
      refine AW.get (k := 4) (v := .ref (gad g 0 15)) (id0_16_0) rfl rfl inGX6 (Nat.le_of_ble_eq_true rfl) w_207 rfl dX6_judge_139 ?_
      refine AW.get (k := 2) (v := .ref (gad g 1 15)) (id0_0_15) rfl rfl inGX0 (Nat.le_of_ble_eq_true rfl) w_82 rfl dX6_judge_142 ?_
      refine AW.iload dX6_judge_145 3 rfl ?_
      refine AW.iload dX6_judge_147 4 rfl ?_
      refine AW.bipush (v := (8 : Int32)) dX6_judge_149 rfl ?_
      refine AW.icmp_ne (tgt := 158) dX6_judge_151 rfl (fun c => ?_) (fun c => ?_)
      · replace h := ite_f c h
        refine AW.iload dX6_judge_158 4 rfl ?_
        obtain ⟨hq19, h⟩ := h
        refine AW.iast (jn := (a5.toNatClampNeg)) (id0_1_15) (fun _ => rfl) hq19 rfl dX6_judge_160 ?_
        obtain ⟨σ20, eσ20, h⟩ := h
        rw [← eσ20]
        refine AW.iinc (v := (a5 + (1 : Int32))) (L' := [(0, .ref (gad g 16 0)), (1, .int a1), (4, .ref (gad g 0 i4)), (5, .int (a5 + (1 : Int32))), (6, .int (σ 14 (a1.toNatClampNeg) (a5.toNatClampNeg)))]) dX6_judge_161 3 rfl rfl (Nat.le_of_ble_eq_true rfl) rfl ?_
        refine AW.goto (tgt := 114) dX6_judge_164 rfl ?_
        refine AW.eqL [0, 1, 2, 3] rfl ?_
        exact ih _ _ h
      · replace h := ite_t c h
        refine AW.iconst (v := (-1 : Int32)) dX6_judge_154 rfl ?_
        refine AW.goto (tgt := 160) dX6_judge_155 rfl ?_
        obtain ⟨hq21, h⟩ := h
        refine AW.iast (jn := (a5.toNatClampNeg)) (id0_1_15) (fun _ => rfl) hq21 rfl dX6_judge_160 ?_
        obtain ⟨σ22, eσ22, h⟩ := h
        rw [← eσ22]
        refine AW.iinc (v := (a5 + (1 : Int32))) (L' := [(0, .ref (gad g 16 0)), (1, .int a1), (4, .ref (gad g 0 i4)), (5, .int (a5 + (1 : Int32))), (6, .int (σ 14 (a1.toNatClampNeg) (a5.toNatClampNeg)))]) dX6_judge_161 3 rfl rfl (Nat.le_of_ble_eq_true rfl) rfl ?_
        refine AW.goto (tgt := 114) dX6_judge_164 rfl ?_
        refine AW.eqL [0, 1, 2, 3] rfl ?_
        exact ih _ _ h
def f_X6_judge (a1 : Int32) (a2 : Int32) (σ : Mm) (K : Int32 → Mm → Prop) : Prop := (f_X6_isSheet a1 σ (fun b2 σ1 => (if b2 = true then (vp_in a1 4 ∧ ((a1.toNatClampNeg) < 4 ∧ (f_X4_isMissing (a1.toNatClampNeg) σ1 (fun b6 σ5 => (if b6 = true then (f_X6_finding (5 : Int32) σ5 (fun r29 σ28 => (K r29 σ28))) else (f_X6_isBench a2 σ5 (fun b8 σ7 => (if b8 = true then (vp_in a1 4 ∧ (f_X4_firstNoSeater (a1.toNatClampNeg) σ7 (fun r11 σ10 => (if r11 < 0 then (vp_in a2 5 ∧ ((5 * 0 + a2.toNatClampNeg) < 17 ∧ (vp_in a1 4 ∧ (if (σ10 13 (a1.toNatClampNeg) 1) = (σ10 0 (5 * 0 + a2.toNatClampNeg) 1) then (f_X0_clear 15 (σ10 0 (5 * 0 + a2.toNatClampNeg) 0) (σ10 0 (5 * 0 + a2.toNatClampNeg) 1) σ10 (fun σ15 => (∃ m, f_X6_judge_114 a1 (5 * 0 + a2.toNatClampNeg) K (fun σ23 => (f_X1_holds 0 15 σ23 (fun b25 σ24 => (if b25 = true then (K (0 : Int32) σ24) else (K (42 : Int32) σ24))))) m (0 : Int32) σ15))) else (K (41 : Int32) σ10))))) else (K ((1 : Int32) + r11) σ10))))) else (f_X6_finding (0 : Int32) σ7 (fun r27 σ26 => (K r27 σ26))))))))))) else (f_X6_finding (0 : Int32) σ1 (fun r31 σ30 => (K r31 σ30))))))
set_option maxRecDepth 100000 in
set_option maxHeartbeats 4000000 in
theorem C_X6_judge {g : GG} {a1 : Int32} {a2 : Int32} {σ : Mm} {K : Int32 → Mm → Prop} (h : f_X6_judge a1 a2 σ K) : Ct g 0 M_X6_judge (QI g 0 K) [.ref (gad g 16 0), .int a1, .int a2] σ := by
  unfold f_X6_judge at h
  refine Ct.of (L := [(0, .ref (gad g 16 0)), (1, .int a1), (2, .int a2)]) (show plainName RX6 = true by decide) (Nat.le_of_ble_eq_true rfl) rfl ?_
  refine AW.iload_n dX6_judge_0 1 rfl ?_
  refine AW.callSB [.int a1] (C_X6_isSheet h) ok_X6_isSheet w_778 rfl (Nat.le_of_ble_eq_true rfl) (Nat.le_of_ble_eq_true rfl) rfl dX6_judge_1 (fun b2 σ1 h => ?_)
  refine AW.ifb_ne (tgt := 13) dX6_judge_4 rfl (fun c => ?_) (fun c => ?_)
  · replace h := ite_t c h
    refine AW.aload_n dX6_judge_13 0 rfl ?_
    refine AW.get (k := 9) (v := .ref (gad g 12 0)) (id0_16_0) rfl rfl inGX6 (Nat.le_of_ble_eq_true rfl) w_212 rfl dX6_judge_14 ?_
    refine AW.iload_n dX6_judge_17 1 rfl ?_
    obtain ⟨hq3, h⟩ := h
    obtain ⟨hv4, h⟩ := h
    refine AW.aald (a' := gad g 13 (a1.toNatClampNeg)) (ty := 2) (id0_12_0) rfl rfl rfl hq3 dX6_judge_18 ?_
    refine AW.callVB [] (C_X4_isMissing h) ok_X4_isMissing (ids_in (Nat.le_of_ble_eq_true rfl) hv4) rfl rfl w_790 rfl (Nat.le_of_ble_eq_true rfl) (Nat.le_of_ble_eq_true rfl) rfl dX6_judge_19 (fun b6 σ5 h => ?_)
    refine AW.ifb_eq (tgt := 31) dX6_judge_22 rfl (fun c => ?_) (fun c => ?_)
    · replace h := ite_f c h
      refine AW.aload_n dX6_judge_31 0 rfl ?_
      refine AW.iload_n dX6_judge_32 2 rfl ?_
      refine AW.callVB [.int a2] (C_X6_isBench h) ok_X6_isBench (id0_16_0) rfl rfl w_308 rfl (Nat.le_of_ble_eq_true rfl) (Nat.le_of_ble_eq_true rfl) rfl dX6_judge_33 (fun b8 σ7 h => ?_)
      refine AW.ifb_ne (tgt := 45) dX6_judge_36 rfl (fun c => ?_) (fun c => ?_)
      · replace h := ite_t c h
        refine AW.aload_n dX6_judge_45 0 rfl ?_
        refine AW.get (k := 9) (v := .ref (gad g 12 0)) (id0_16_0) rfl rfl inGX6 (Nat.le_of_ble_eq_true rfl) w_212 rfl dX6_judge_46 ?_
        refine AW.iload_n dX6_judge_49 1 rfl ?_
        obtain ⟨hq9, h⟩ := h
        refine AW.aald (a' := gad g 13 (a1.toNatClampNeg)) (ty := 2) (id0_12_0) rfl rfl rfl hq9 dX6_judge_50 ?_
        refine AW.callVI [] (C_X4_firstNoSeater h) ok_X4_firstNoSeater (ids_in (Nat.le_of_ble_eq_true rfl) hv4) rfl rfl w_820 rfl (Nat.le_of_ble_eq_true rfl) (Nat.le_of_ble_eq_true rfl) rfl dX6_judge_51 (fun r11 σ10 h => ?_)
        refine AW.istore_n (L' := [(0, .ref (gad g 16 0)), (1, .int a1), (2, .int a2), (3, .int r11)]) dX6_judge_54 (Nat.le_of_ble_eq_true rfl) rfl ?_
        refine AW.iload_n dX6_judge_55 3 rfl ?_
        refine AW.if_lt (tgt := 63) dX6_judge_56 rfl (fun c => ?_) (fun c => ?_)
        · replace h := ite_t c h
          refine AW.aload_n dX6_judge_63 0 rfl ?_
          refine AW.get (k := 0) (v := .ref (gad g 5 0)) (id0_16_0) rfl rfl inGX6 (Nat.le_of_ble_eq_true rfl) w_203 rfl dX6_judge_64 ?_
          refine AW.get (k := 1) (v := .ref (gad g 6 0)) (id0_5_0) rfl rfl inGX2 (Nat.le_of_ble_eq_true rfl) w_96 rfl dX6_judge_67 ?_
          refine AW.iload_n dX6_judge_70 2 rfl ?_
          obtain ⟨hq12, h⟩ := h
          obtain ⟨hv13, h⟩ := h
          refine AW.aald (a' := gad g 0 (5 * 0 + a2.toNatClampNeg)) (ty := 1) (id0_6_0) rfl rfl rfl hq12 dX6_judge_71 ?_
          refine AW.astore (L' := [(0, .ref (gad g 16 0)), (1, .int a1), (2, .int a2), (3, .int r11), (4, .ref (gad g 0 (5 * 0 + a2.toNatClampNeg)))]) dX6_judge_72 (Nat.le_of_ble_eq_true rfl) rfl ?_
          refine AW.aload_n dX6_judge_74 0 rfl ?_
          refine AW.get (k := 9) (v := .ref (gad g 12 0)) (id0_16_0) rfl rfl inGX6 (Nat.le_of_ble_eq_true rfl) w_212 rfl dX6_judge_75 ?_
          refine AW.iload_n dX6_judge_78 1 rfl ?_
          obtain ⟨hq14, h⟩ := h
          refine AW.aald (a' := gad g 13 (a1.toNatClampNeg)) (ty := 2) (id0_12_0) rfl rfl rfl hq14 dX6_judge_79 ?_
          refine AW.get (k := 1) (v := .int (σ10 13 (a1.toNatClampNeg) 1)) (ids_in (Nat.le_of_ble_eq_true rfl) hv4) rfl rfl inGX4 (Nat.le_of_ble_eq_true rfl) w_193 rfl dX6_judge_80 ?_
          refine AW.aload dX6_judge_83 4 rfl ?_
          refine AW.get (k := 1) (v := .int (σ10 0 (5 * 0 + a2.toNatClampNeg) 1)) (ids_in (Nat.le_of_ble_eq_true rfl) hv13) rfl rfl inGX0 (Nat.le_of_ble_eq_true rfl) w_75 rfl dX6_judge_85 ?_
          refine AW.icmp_eq (tgt := 94) dX6_judge_88 rfl (fun c => ?_) (fun c => ?_)
          · replace h := ite_t c h
            refine AW.aload_n dX6_judge_94 0 rfl ?_
            refine AW.get (k := 4) (v := .ref (gad g 0 15)) (id0_16_0) rfl rfl inGX6 (Nat.le_of_ble_eq_true rfl) w_207 rfl dX6_judge_95 ?_
            refine AW.aload dX6_judge_98 4 rfl ?_
            refine AW.get (k := 0) (v := .int (σ10 0 (5 * 0 + a2.toNatClampNeg) 0)) (ids_in (Nat.le_of_ble_eq_true rfl) hv13) rfl rfl inGX0 (Nat.le_of_ble_eq_true rfl) w_70 rfl dX6_judge_100 ?_
            refine AW.aload dX6_judge_103 4 rfl ?_
            refine AW.get (k := 1) (v := .int (σ10 0 (5 * 0 + a2.toNatClampNeg) 1)) (ids_in (Nat.le_of_ble_eq_true rfl) hv13) rfl rfl inGX0 (Nat.le_of_ble_eq_true rfl) w_75 rfl dX6_judge_105 ?_
            refine AW.callVV [.int (σ10 0 (5 * 0 + a2.toNatClampNeg) 0), .int (σ10 0 (5 * 0 + a2.toNatClampNeg) 1)] (C_X0_clear h) ok_X0_clear (id0_0_15) rfl rfl w_565 rfl (Nat.le_of_ble_eq_true rfl) (Nat.le_of_ble_eq_true rfl) rfl dX6_judge_108 (fun σ15 h => ?_)
            refine AW.iconst (v := (0 : Int32)) dX6_judge_111 rfl ?_
            refine AW.istore (L' := [(0, .ref (gad g 16 0)), (1, .int a1), (2, .int a2), (3, .int r11), (4, .ref (gad g 0 (5 * 0 + a2.toNatClampNeg))), (5, .int (0 : Int32))]) dX6_judge_112 (Nat.le_of_ble_eq_true rfl) rfl ?_
            obtain ⟨m, h⟩ := h
            refine AW.eqL [0, 1, 4, 5] rfl ?_
            refine T_X6_judge_114 hv13 (fun σ23 h => ?_) m _ _ h
            refine AW.aload_n dX6_judge_167 0 rfl ?_
            refine AW.get (k := 0) (v := .ref (gad g 5 0)) (id0_16_0) rfl rfl inGX6 (Nat.le_of_ble_eq_true rfl) w_203 rfl dX6_judge_168 ?_
            refine AW.get (k := 0) (v := .ref (gad g 2 0)) (id0_5_0) rfl rfl inGX2 (Nat.le_of_ble_eq_true rfl) w_93 rfl dX6_judge_171 ?_
            refine AW.aload_n dX6_judge_174 0 rfl ?_
            refine AW.get (k := 4) (v := .ref (gad g 0 15)) (id0_16_0) rfl rfl inGX6 (Nat.le_of_ble_eq_true rfl) w_207 rfl dX6_judge_175 ?_
            refine AW.callVB [.ref (gad g 0 15)] (C_X1_holds h) ok_X1_holds (id0_2_0) rfl rfl w_324 rfl (Nat.le_of_ble_eq_true rfl) (Nat.le_of_ble_eq_true rfl) rfl dX6_judge_178 (fun b25 σ24 h => ?_)
            refine AW.ifb_eq (tgt := 188) dX6_judge_181 rfl (fun c => ?_) (fun c => ?_)
            · replace h := ite_f c h
              refine AW.bipush (v := (42 : Int32)) dX6_judge_188 rfl ?_
              exact AW.iret rfl dX6_judge_190 h
            · replace h := ite_t c h
              refine AW.iconst (v := (0 : Int32)) dX6_judge_184 rfl ?_
              refine AW.goto (tgt := 190) dX6_judge_185 rfl ?_
              exact AW.iret rfl dX6_judge_190 h
          · replace h := ite_f c h
            refine AW.bipush (v := (41 : Int32)) dX6_judge_91 rfl ?_
            exact AW.iret rfl dX6_judge_93 h
        · replace h := ite_f c h
          refine AW.iconst (v := (1 : Int32)) dX6_judge_59 rfl ?_
          refine AW.iload_n dX6_judge_60 3 rfl ?_
          refine AW.iadd dX6_judge_61 ?_
          exact AW.iret rfl dX6_judge_62 h
      · replace h := ite_f c h
        refine AW.aload_n dX6_judge_39 0 rfl ?_
        refine AW.iconst (v := (0 : Int32)) dX6_judge_40 rfl ?_
        refine AW.callVI [.int (0 : Int32)] (C_X6_finding h) ok_X6_finding (id0_16_0) rfl rfl w_247 rfl (Nat.le_of_ble_eq_true rfl) (Nat.le_of_ble_eq_true rfl) rfl dX6_judge_41 (fun r27 σ26 h => ?_)
        exact AW.iret rfl dX6_judge_44 h
    · replace h := ite_t c h
      refine AW.aload_n dX6_judge_25 0 rfl ?_
      refine AW.iconst (v := (5 : Int32)) dX6_judge_26 rfl ?_
      refine AW.callVI [.int (5 : Int32)] (C_X6_finding h) ok_X6_finding (id0_16_0) rfl rfl w_247 rfl (Nat.le_of_ble_eq_true rfl) (Nat.le_of_ble_eq_true rfl) rfl dX6_judge_27 (fun r29 σ28 h => ?_)
      exact AW.iret rfl dX6_judge_30 h
  · replace h := ite_f c h
    refine AW.aload_n dX6_judge_7 0 rfl ?_
    refine AW.iconst (v := (0 : Int32)) dX6_judge_8 rfl ?_
    refine AW.callVI [.int (0 : Int32)] (C_X6_finding h) ok_X6_finding (id0_16_0) rfl rfl w_247 rfl (Nat.le_of_ble_eq_true rfl) (Nat.le_of_ble_eq_true rfl) rfl dX6_judge_9 (fun r31 σ30 h => ?_)
    exact AW.iret rfl dX6_judge_12 h
theorem ok_X6_judge : OkV M_X6_judge 2 := ⟨w_817, w_818, w_1, w_819, by decide +kernel, (Nat.le_of_ble_eq_true rfl)⟩
def M_X6_image : MT := (yX6_image, cX6_image, 1, some .int, 4)
def f_X6_image (σ : Mm) (K : Int32 → Mm → Prop) : Prop := (f_X2_become 1 0 σ (fun σ1 => (∃ σ2, σ2 = mset σ1 16 0 2 (1 : Int32) ∧ (K (1 : Int32) σ2))))
set_option maxRecDepth 100000 in
set_option maxHeartbeats 4000000 in
theorem C_X6_image {g : GG} {σ : Mm} {K : Int32 → Mm → Prop} (h : f_X6_image σ K) : Ct g 0 M_X6_image (QI g 0 K) [.ref (gad g 16 0)] σ := by
  unfold f_X6_image at h
  refine Ct.of (L := [(0, .ref (gad g 16 0))]) (show plainName RX6 = true by decide) (Nat.le_of_ble_eq_true rfl) rfl ?_
  refine AW.aload_n dX6_image_0 0 rfl ?_
  refine AW.get (k := 1) (v := .ref (gad g 5 1)) (id0_16_0) rfl rfl inGX6 (Nat.le_of_ble_eq_true rfl) w_204 rfl dX6_image_1 ?_
  refine AW.aload_n dX6_image_4 0 rfl ?_
  refine AW.get (k := 0) (v := .ref (gad g 5 0)) (id0_16_0) rfl rfl inGX6 (Nat.le_of_ble_eq_true rfl) w_203 rfl dX6_image_5 ?_
  refine AW.callVV [.ref (gad g 5 0)] (C_X2_become h) ok_X2_become (id0_5_1) rfl rfl w_633 rfl (Nat.le_of_ble_eq_true rfl) (Nat.le_of_ble_eq_true rfl) rfl dX6_image_8 (fun σ1 h => ?_)
  refine AW.aload_n dX6_image_11 0 rfl ?_
  refine AW.iconst (v := (1 : Int32)) dX6_image_12 rfl ?_
  refine AW.put (k := 2) (w := (1 : Int32)) (id0_16_0) rfl rfl inGX6 tyX6_ok nmX6 (Nat.le_of_ble_eq_true rfl) w_205 rfl rfl rfl rfl (Nat.le_of_ble_eq_true rfl) rfl dX6_image_13 ?_
  obtain ⟨σ2, eσ2, h⟩ := h
  rw [← eσ2]
  refine AW.iconst (v := (1 : Int32)) dX6_image_16 rfl ?_
  exact AW.iret rfl dX6_image_17 h
theorem ok_X6_image : OkV M_X6_image 0 := ⟨w_827, w_828, w_1, w_829, by decide +kernel, (Nat.le_of_ble_eq_true rfl)⟩
def M_X6_undo : MT := (yX6_undo, cX6_undo, 1, some .int, 4)
def f_X6_undo (σ : Mm) (K : Int32 → Mm → Prop) : Prop := (if (σ 16 0 2) = 0 then (f_X6_finding (3 : Int32) σ (fun r3 σ2 => (K r3 σ2))) else (f_X2_become 0 1 σ (fun σ1 => (K (σ1 5 0 2) σ1))))
set_option maxRecDepth 100000 in
set_option maxHeartbeats 4000000 in
theorem C_X6_undo {g : GG} {σ : Mm} {K : Int32 → Mm → Prop} (h : f_X6_undo σ K) : Ct g 0 M_X6_undo (QI g 0 K) [.ref (gad g 16 0)] σ := by
  unfold f_X6_undo at h
  refine Ct.of (L := [(0, .ref (gad g 16 0))]) (show plainName RX6 = true by decide) (Nat.le_of_ble_eq_true rfl) rfl ?_
  refine AW.aload_n dX6_undo_0 0 rfl ?_
  refine AW.get (k := 2) (v := .int (σ 16 0 2)) (id0_16_0) rfl rfl inGX6 (Nat.le_of_ble_eq_true rfl) w_205 rfl dX6_undo_1 ?_
  refine AW.if_ne (tgt := 13) dX6_undo_4 rfl (fun c => ?_) (fun c => ?_)
  · replace h := ite_f c h
    refine AW.aload_n dX6_undo_13 0 rfl ?_
    refine AW.get (k := 0) (v := .ref (gad g 5 0)) (id0_16_0) rfl rfl inGX6 (Nat.le_of_ble_eq_true rfl) w_203 rfl dX6_undo_14 ?_
    refine AW.aload_n dX6_undo_17 0 rfl ?_
    refine AW.get (k := 1) (v := .ref (gad g 5 1)) (id0_16_0) rfl rfl inGX6 (Nat.le_of_ble_eq_true rfl) w_204 rfl dX6_undo_18 ?_
    refine AW.callVV [.ref (gad g 5 1)] (C_X2_become h) ok_X2_become (id0_5_0) rfl rfl w_633 rfl (Nat.le_of_ble_eq_true rfl) (Nat.le_of_ble_eq_true rfl) rfl dX6_undo_21 (fun σ1 h => ?_)
    refine AW.aload_n dX6_undo_24 0 rfl ?_
    refine AW.get (k := 0) (v := .ref (gad g 5 0)) (id0_16_0) rfl rfl inGX6 (Nat.le_of_ble_eq_true rfl) w_203 rfl dX6_undo_25 ?_
    refine AW.get (k := 2) (v := .int (σ1 5 0 2)) (id0_5_0) rfl rfl inGX2 (Nat.le_of_ble_eq_true rfl) w_99 rfl dX6_undo_28 ?_
    exact AW.iret rfl dX6_undo_31 h
  · replace h := ite_t c h
    refine AW.aload_n dX6_undo_7 0 rfl ?_
    refine AW.iconst (v := (3 : Int32)) dX6_undo_8 rfl ?_
    refine AW.callVI [.int (3 : Int32)] (C_X6_finding h) ok_X6_finding (id0_16_0) rfl rfl w_247 rfl (Nat.le_of_ble_eq_true rfl) (Nat.le_of_ble_eq_true rfl) rfl dX6_undo_9 (fun r3 σ2 h => ?_)
    exact AW.iret rfl dX6_undo_12 h
theorem ok_X6_undo : OkV M_X6_undo 0 := ⟨w_831, w_832, w_1, w_833, by decide +kernel, (Nat.le_of_ble_eq_true rfl)⟩
def M_X6_tear : MT := (yX6_tear, cX6_tear, 2, some .int, 1)
def f_X6_tear (σ : Mm) (K : Int32 → Mm → Prop) : Prop := (if (σ 16 0 2) = 0 then (∃ σ1, σ1 = mset σ 16 0 2 (0 : Int32) ∧ (K (0 : Int32) σ1)) else (∃ σ2, σ2 = mset σ 16 0 2 (0 : Int32) ∧ (K (1 : Int32) σ2)))
set_option maxRecDepth 100000 in
set_option maxHeartbeats 4000000 in
theorem C_X6_tear {g : GG} {σ : Mm} {K : Int32 → Mm → Prop} (h : f_X6_tear σ K) : Ct g 0 M_X6_tear (QI g 0 K) [.ref (gad g 16 0)] σ := by
  unfold f_X6_tear at h
  refine Ct.of (L := [(0, .ref (gad g 16 0))]) (show plainName RX6 = true by decide) (Nat.le_of_ble_eq_true rfl) rfl ?_
  refine AW.aload_n dX6_tear_0 0 rfl ?_
  refine AW.get (k := 2) (v := .int (σ 16 0 2)) (id0_16_0) rfl rfl inGX6 (Nat.le_of_ble_eq_true rfl) w_205 rfl dX6_tear_1 ?_
  refine AW.if_eq (tgt := 11) dX6_tear_4 rfl (fun c => ?_) (fun c => ?_)
  · replace h := ite_t c h
    refine AW.iconst (v := (0 : Int32)) dX6_tear_11 rfl ?_
    refine AW.istore_n (L' := [(0, .ref (gad g 16 0)), (1, .int (0 : Int32))]) dX6_tear_12 (Nat.le_of_ble_eq_true rfl) rfl ?_
    refine AW.aload_n dX6_tear_13 0 rfl ?_
    refine AW.iconst (v := (0 : Int32)) dX6_tear_14 rfl ?_
    refine AW.put (k := 2) (w := (0 : Int32)) (id0_16_0) rfl rfl inGX6 tyX6_ok nmX6 (Nat.le_of_ble_eq_true rfl) w_205 rfl rfl rfl rfl (Nat.le_of_ble_eq_true rfl) rfl dX6_tear_15 ?_
    obtain ⟨σ1, eσ1, h⟩ := h
    rw [← eσ1]
    refine AW.iload_n dX6_tear_18 1 rfl ?_
    exact AW.iret rfl dX6_tear_19 h
  · replace h := ite_f c h
    refine AW.iconst (v := (1 : Int32)) dX6_tear_7 rfl ?_
    refine AW.goto (tgt := 12) dX6_tear_8 rfl ?_
    refine AW.istore_n (L' := [(0, .ref (gad g 16 0)), (1, .int (1 : Int32))]) dX6_tear_12 (Nat.le_of_ble_eq_true rfl) rfl ?_
    refine AW.aload_n dX6_tear_13 0 rfl ?_
    refine AW.iconst (v := (0 : Int32)) dX6_tear_14 rfl ?_
    refine AW.put (k := 2) (w := (0 : Int32)) (id0_16_0) rfl rfl inGX6 tyX6_ok nmX6 (Nat.le_of_ble_eq_true rfl) w_205 rfl rfl rfl rfl (Nat.le_of_ble_eq_true rfl) rfl dX6_tear_15 ?_
    obtain ⟨σ2, eσ2, h⟩ := h
    rw [← eσ2]
    refine AW.iload_n dX6_tear_18 1 rfl ?_
    exact AW.iret rfl dX6_tear_19 h
theorem ok_X6_tear : OkV M_X6_tear 0 := ⟨w_835, w_836, w_1, w_837, by decide +kernel, (Nat.le_of_ble_eq_true rfl)⟩
def M_X2_howManySit : MT := (yX2_howManySit, cX2_howManySit, 3, some .int, 2)
set_option maxRecDepth 100000 in
def f_X2_howManySit_4 (i0 : Nat) (K : Int32 → Mm → Prop) : Nat → Int32 → Int32 → Mm → Prop
  | 0, _, _, _ => False
  | n + 1, a1, a2, σ => (if (σ 5 i0 2) ≤ a2 then (K a1 σ) else (vp_in a2 5 ∧ ((5 * i0 + a2.toNatClampNeg) < 17 ∧ (f_X0_howManySit (5 * i0 + a2.toNatClampNeg) σ (fun r4 σ3 => (f_X2_howManySit_4 i0 K n (a1 + r4) (a2 + (1 : Int32)) σ3))))))
set_option maxRecDepth 100000 in
set_option maxHeartbeats 4000000 in
theorem T_X2_howManySit_4 {g : GG} {i0 : Nat} {K : Int32 → Mm → Prop} (hi0 : i0 < 3) : ∀ (n : Nat) (a1 : Int32) (a2 : Int32) (σ : Mm), f_X2_howManySit_4 i0 K n a1 a2 σ → AW g 0 M_X2_howManySit (QI g 0 K) 4 [(0, .ref (gad g 5 i0)), (1, .int a1), (2, .int a2)] [] σ := by
  intro n
  induction n with
  | zero => intro a1 a2 σ h; exact False.elim h
  | succ n ih =>
    intro a1 a2 σ h
    rw [f_X2_howManySit_4] at h
    refine AW.iload_n dX2_howManySit_4 2 rfl ?_
    refine AW.aload_n dX2_howManySit_5 0 rfl ?_
    refine AW.get (k := 2) (v := .int (σ 5 i0 2)) (ids_in (Nat.le_of_ble_eq_true rfl) hi0) rfl rfl inGX2 (Nat.le_of_ble_eq_true rfl) w_98 rfl dX2_howManySit_6 ?_
    refine AW.icmp_ge (tgt := 30) dX2_howManySit_9 rfl (fun c => ?_) (fun c => ?_)
    · replace h := ite_t c h
      refine AW.iload_n dX2_howManySit_30 1 rfl ?_
      exact AW.iret rfl dX2_howManySit_31 h
    · replace h := ite_f c h
      refine AW.iload_n dX2_howManySit_12 1 rfl ?_
      refine AW.aload_n dX2_howManySit_13 0 rfl ?_
      refine AW.get (k := 1) (v := .ref (gad g 6 i0)) (ids_in (Nat.le_of_ble_eq_true rfl) hi0) rfl rfl inGX2 (Nat.le_of_ble_eq_true rfl) w_95 rfl dX2_howManySit_14 ?_
      refine AW.iload_n dX2_howManySit_17 2 rfl ?_
      obtain ⟨hq1, h⟩ := h
      obtain ⟨hv2, h⟩ := h
      refine AW.aald (a' := gad g 0 (5 * i0 + a2.toNatClampNeg)) (ty := 1) (ids_in (Nat.le_of_ble_eq_true rfl) hi0) rfl rfl rfl hq1 dX2_howManySit_18 ?_
      refine AW.callVI [] (C_X0_howManySit h) ok_X0_howManySit (ids_in (Nat.le_of_ble_eq_true rfl) hv2) rfl rfl w_846 rfl (Nat.le_of_ble_eq_true rfl) (Nat.le_of_ble_eq_true rfl) rfl dX2_howManySit_19 (fun r4 σ3 h => ?_)
      refine AW.iadd dX2_howManySit_22 ?_
      refine AW.istore_n (L' := [(0, .ref (gad g 5 i0)), (1, .int (a1 + r4)), (2, .int a2)]) dX2_howManySit_23 (Nat.le_of_ble_eq_true rfl) rfl ?_
      refine AW.iinc (v := (a2 + (1 : Int32))) (L' := [(0, .ref (gad g 5 i0)), (1, .int (a1 + r4)), (2, .int (a2 + (1 : Int32)))]) dX2_howManySit_24 2 rfl rfl (Nat.le_of_ble_eq_true rfl) rfl ?_
      refine AW.goto (tgt := 4) dX2_howManySit_27 rfl ?_
      exact ih _ _ _ h
def f_X2_howManySit (i0 : Nat) (σ : Mm) (K : Int32 → Mm → Prop) : Prop := (i0 < 3 ∧ (∃ m, f_X2_howManySit_4 i0 K m (0 : Int32) (0 : Int32) σ))
set_option maxRecDepth 100000 in
set_option maxHeartbeats 4000000 in
theorem C_X2_howManySit {g : GG} {i0 : Nat} {σ : Mm} {K : Int32 → Mm → Prop} (h : f_X2_howManySit i0 σ K) : Ct g 0 M_X2_howManySit (QI g 0 K) [.ref (gad g 5 i0)] σ := by
  unfold f_X2_howManySit at h
  obtain ⟨hi0, h⟩ := h
  refine Ct.of (L := [(0, .ref (gad g 5 i0))]) (show plainName RX2 = true by decide) (Nat.le_of_ble_eq_true rfl) rfl ?_
  refine AW.iconst (v := (0 : Int32)) dX2_howManySit_0 rfl ?_
  refine AW.istore_n (L' := [(0, .ref (gad g 5 i0)), (1, .int (0 : Int32))]) dX2_howManySit_1 (Nat.le_of_ble_eq_true rfl) rfl ?_
  refine AW.iconst (v := (0 : Int32)) dX2_howManySit_2 rfl ?_
  refine AW.istore_n (L' := [(0, .ref (gad g 5 i0)), (1, .int (0 : Int32)), (2, .int (0 : Int32))]) dX2_howManySit_3 (Nat.le_of_ble_eq_true rfl) rfl ?_
  obtain ⟨m, h⟩ := h
  refine T_X2_howManySit_4 hi0 m _ _ _ h
theorem ok_X2_howManySit : OkV M_X2_howManySit 0 := ⟨w_843, w_844, w_2, w_845, by decide +kernel, (Nat.le_of_ble_eq_true rfl)⟩
def M_X1_pairsThatCount : MT := (yX1_pairsThatCount, cX1_pairsThatCount, 3, some .int, 4)
set_option maxRecDepth 100000 in
def f_X1_pairsThatCount_4 (i0 : Nat) (K : Int32 → Mm → Prop) : Nat → Int32 → Int32 → Mm → Prop
  | 0, _, _, _ => False
  | n + 1, a1, a2, σ => (if (8 : Int32) ≤ a2 then (K (a1 / (2 : Int32)) σ) else (f_X1_friendsOf i0 a2 σ (fun r2 σ1 => (f_J6_bitCount_0f7a4 r2 σ1 (fun r4 σ3 => (f_X1_pairsThatCount_4 i0 K n (a1 + r4) (a2 + (1 : Int32)) σ3))))))
set_option maxRecDepth 100000 in
set_option maxHeartbeats 4000000 in
theorem T_X1_pairsThatCount_4 {g : GG} {i0 : Nat} {K : Int32 → Mm → Prop} (hi0 : i0 < 3) : ∀ (n : Nat) (a1 : Int32) (a2 : Int32) (σ : Mm), f_X1_pairsThatCount_4 i0 K n a1 a2 σ → AW g 0 M_X1_pairsThatCount (QI g 0 K) 4 [(0, .ref (gad g 2 i0)), (1, .int a1), (2, .int a2)] [] σ := by
  intro n
  induction n with
  | zero => intro a1 a2 σ h; exact False.elim h
  | succ n ih =>
    intro a1 a2 σ h
    rw [f_X1_pairsThatCount_4] at h
    refine AW.iload_n dX1_pairsThatCount_4 2 rfl ?_
    refine AW.bipush (v := (8 : Int32)) dX1_pairsThatCount_5 rfl ?_
    refine AW.icmp_ge (tgt := 27) dX1_pairsThatCount_7 rfl (fun c => ?_) (fun c => ?_)
    · replace h := ite_t c h
      refine AW.iload_n dX1_pairsThatCount_27 1 rfl ?_
      refine AW.iconst (v := (2 : Int32)) dX1_pairsThatCount_28 rfl ?_
      refine AW.idiv dX1_pairsThatCount_29 (by decide) ?_
      exact AW.iret rfl dX1_pairsThatCount_30 h
    · replace h := ite_f c h
      refine AW.iload_n dX1_pairsThatCount_10 1 rfl ?_
      refine AW.aload_n dX1_pairsThatCount_11 0 rfl ?_
      refine AW.iload_n dX1_pairsThatCount_12 2 rfl ?_
      refine AW.callVI [.int a2] (C_X1_friendsOf h) ok_X1_friendsOf (ids_in (Nat.le_of_ble_eq_true rfl) hi0) rfl rfl w_851 rfl (Nat.le_of_ble_eq_true rfl) (Nat.le_of_ble_eq_true rfl) rfl dX1_pairsThatCount_13 (fun r2 σ1 h => ?_)
      refine AW.callSI [.int r2] (C_J6_bitCount_0f7a4 h) ok_J6_bitCount_0f7a4 w_852 rfl (Nat.le_of_ble_eq_true rfl) (Nat.le_of_ble_eq_true rfl) rfl dX1_pairsThatCount_16 (fun r4 σ3 h => ?_)
      refine AW.iadd dX1_pairsThatCount_19 ?_
      refine AW.istore_n (L' := [(0, .ref (gad g 2 i0)), (1, .int (a1 + r4)), (2, .int a2)]) dX1_pairsThatCount_20 (Nat.le_of_ble_eq_true rfl) rfl ?_
      refine AW.iinc (v := (a2 + (1 : Int32))) (L' := [(0, .ref (gad g 2 i0)), (1, .int (a1 + r4)), (2, .int (a2 + (1 : Int32)))]) dX1_pairsThatCount_21 2 rfl rfl (Nat.le_of_ble_eq_true rfl) rfl ?_
      refine AW.goto (tgt := 4) dX1_pairsThatCount_24 rfl ?_
      exact ih _ _ _ h
def f_X1_pairsThatCount (i0 : Nat) (σ : Mm) (K : Int32 → Mm → Prop) : Prop := (i0 < 3 ∧ (∃ m, f_X1_pairsThatCount_4 i0 K m (0 : Int32) (0 : Int32) σ))
set_option maxRecDepth 100000 in
set_option maxHeartbeats 4000000 in
theorem C_X1_pairsThatCount {g : GG} {i0 : Nat} {σ : Mm} {K : Int32 → Mm → Prop} (h : f_X1_pairsThatCount i0 σ K) : Ct g 0 M_X1_pairsThatCount (QI g 0 K) [.ref (gad g 2 i0)] σ := by
  unfold f_X1_pairsThatCount at h
  obtain ⟨hi0, h⟩ := h
  refine Ct.of (L := [(0, .ref (gad g 2 i0))]) (show plainName RX1 = true by decide) (Nat.le_of_ble_eq_true rfl) rfl ?_
  refine AW.iconst (v := (0 : Int32)) dX1_pairsThatCount_0 rfl ?_
  refine AW.istore_n (L' := [(0, .ref (gad g 2 i0)), (1, .int (0 : Int32))]) dX1_pairsThatCount_1 (Nat.le_of_ble_eq_true rfl) rfl ?_
  refine AW.iconst (v := (0 : Int32)) dX1_pairsThatCount_2 rfl ?_
  refine AW.istore_n (L' := [(0, .ref (gad g 2 i0)), (1, .int (0 : Int32)), (2, .int (0 : Int32))]) dX1_pairsThatCount_3 (Nat.le_of_ble_eq_true rfl) rfl ?_
  obtain ⟨m, h⟩ := h
  refine T_X1_pairsThatCount_4 hi0 m _ _ _ h
theorem ok_X1_pairsThatCount : OkV M_X1_pairsThatCount 0 := ⟨w_848, w_849, w_3, w_850, by decide +kernel, (Nat.le_of_ble_eq_true rfl)⟩
def M_X1_secretPairs : MT := (yX1_secretPairs, cX1_secretPairs, 3, some .int, 1)
set_option maxRecDepth 100000 in
def f_X1_secretPairs_4 (i0 : Nat) (K : Int32 → Mm → Prop) : Nat → Int32 → Int32 → Mm → Prop
  | 0, _, _, _ => False
  | n + 1, a1, a2, σ => (if (64 : Int32) ≤ a2 then (K (a1 / (2 : Int32)) σ) else (vp_in a2 64 ∧ (if (σ 3 i0 (a2.toNatClampNeg)) = (2 : Int32) then (f_X1_secretPairs_4 i0 K n (a1 + (1 : Int32)) (a2 + (1 : Int32)) σ) else (f_X1_secretPairs_4 i0 K n a1 (a2 + (1 : Int32)) σ))))
set_option maxRecDepth 100000 in
set_option maxHeartbeats 4000000 in
theorem T_X1_secretPairs_4 {g : GG} {i0 : Nat} {K : Int32 → Mm → Prop} (hi0 : i0 < 3) : ∀ (n : Nat) (a1 : Int32) (a2 : Int32) (σ : Mm), f_X1_secretPairs_4 i0 K n a1 a2 σ → AW g 0 M_X1_secretPairs (QI g 0 K) 4 [(0, .ref (gad g 2 i0)), (1, .int a1), (2, .int a2)] [] σ := by
  intro n
  induction n with
  | zero => intro a1 a2 σ h; exact False.elim h
  | succ n ih =>
    intro a1 a2 σ h
    rw [f_X1_secretPairs_4] at h
    refine AW.iload_n dX1_secretPairs_4 2 rfl ?_
    refine AW.bipush (v := (64 : Int32)) dX1_secretPairs_5 rfl ?_
    refine AW.icmp_ge (tgt := 29) dX1_secretPairs_7 rfl (fun c => ?_) (fun c => ?_)
    · replace h := ite_t c h
      refine AW.iload_n dX1_secretPairs_29 1 rfl ?_
      refine AW.iconst (v := (2 : Int32)) dX1_secretPairs_30 rfl ?_
      refine AW.idiv dX1_secretPairs_31 (by decide) ?_
      exact AW.iret rfl dX1_secretPairs_32 h
    · replace h := ite_f c h
      refine AW.aload_n dX1_secretPairs_10 0 rfl ?_
      refine AW.get (k := 0) (v := .ref (gad g 3 i0)) (ids_in (Nat.le_of_ble_eq_true rfl) hi0) rfl rfl inGX1 (Nat.le_of_ble_eq_true rfl) w_40 rfl dX1_secretPairs_11 ?_
      refine AW.iload_n dX1_secretPairs_14 2 rfl ?_
      obtain ⟨hq1, h⟩ := h
      refine AW.iald (jn := (a2.toNatClampNeg)) (ids_in (Nat.le_of_ble_eq_true rfl) hi0) rfl hq1 rfl dX1_secretPairs_15 ?_
      refine AW.iconst (v := (2 : Int32)) dX1_secretPairs_16 rfl ?_
      refine AW.icmp_ne (tgt := 23) dX1_secretPairs_17 rfl (fun c => ?_) (fun c => ?_)
      · replace h := ite_f c h
        refine AW.iinc (v := (a2 + (1 : Int32))) (L' := [(0, .ref (gad g 2 i0)), (1, .int a1), (2, .int (a2 + (1 : Int32)))]) dX1_secretPairs_23 2 rfl rfl (Nat.le_of_ble_eq_true rfl) rfl ?_
        refine AW.goto (tgt := 4) dX1_secretPairs_26 rfl ?_
        exact ih _ _ _ h
      · replace h := ite_t c h
        refine AW.iinc (v := (a1 + (1 : Int32))) (L' := [(0, .ref (gad g 2 i0)), (1, .int (a1 + (1 : Int32))), (2, .int a2)]) dX1_secretPairs_20 1 rfl rfl (Nat.le_of_ble_eq_true rfl) rfl ?_
        refine AW.iinc (v := (a2 + (1 : Int32))) (L' := [(0, .ref (gad g 2 i0)), (1, .int (a1 + (1 : Int32))), (2, .int (a2 + (1 : Int32)))]) dX1_secretPairs_23 2 rfl rfl (Nat.le_of_ble_eq_true rfl) rfl ?_
        refine AW.goto (tgt := 4) dX1_secretPairs_26 rfl ?_
        exact ih _ _ _ h
def f_X1_secretPairs (i0 : Nat) (σ : Mm) (K : Int32 → Mm → Prop) : Prop := (i0 < 3 ∧ (∃ m, f_X1_secretPairs_4 i0 K m (0 : Int32) (0 : Int32) σ))
set_option maxRecDepth 100000 in
set_option maxHeartbeats 4000000 in
theorem C_X1_secretPairs {g : GG} {i0 : Nat} {σ : Mm} {K : Int32 → Mm → Prop} (h : f_X1_secretPairs i0 σ K) : Ct g 0 M_X1_secretPairs (QI g 0 K) [.ref (gad g 2 i0)] σ := by
  unfold f_X1_secretPairs at h
  obtain ⟨hi0, h⟩ := h
  refine Ct.of (L := [(0, .ref (gad g 2 i0))]) (show plainName RX1 = true by decide) (Nat.le_of_ble_eq_true rfl) rfl ?_
  refine AW.iconst (v := (0 : Int32)) dX1_secretPairs_0 rfl ?_
  refine AW.istore_n (L' := [(0, .ref (gad g 2 i0)), (1, .int (0 : Int32))]) dX1_secretPairs_1 (Nat.le_of_ble_eq_true rfl) rfl ?_
  refine AW.iconst (v := (0 : Int32)) dX1_secretPairs_2 rfl ?_
  refine AW.istore_n (L' := [(0, .ref (gad g 2 i0)), (1, .int (0 : Int32)), (2, .int (0 : Int32))]) dX1_secretPairs_3 (Nat.le_of_ble_eq_true rfl) rfl ?_
  obtain ⟨m, h⟩ := h
  refine T_X1_secretPairs_4 hi0 m _ _ _ h
theorem ok_X1_secretPairs : OkV M_X1_secretPairs 0 := ⟨w_854, w_855, w_3, w_856, by decide +kernel, (Nat.le_of_ble_eq_true rfl)⟩
