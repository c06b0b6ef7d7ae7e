def M_J6_bitCount_0f7a4 : MT := (yJ6_bitCount_0f7a4, cJ6_bitCount_0f7a4, 1, some .int, 1)
def f_J6_bitCount_0f7a4 (a0 : Int32) (σ : Mm) (K : Int32 → Mm → Prop) : Prop := (K ((((((((a0 - ((((a0).toUInt32 >>> (((1 : Int32)).toUInt32 &&& Int32.toUInt32 31)).toInt32) &&& (1431655765 : Int32))) &&& (858993459 : Int32)) + (((((a0 - ((((a0).toUInt32 >>> (((1 : Int32)).toUInt32 &&& Int32.toUInt32 31)).toInt32) &&& (1431655765 : Int32)))).toUInt32 >>> (((2 : Int32)).toUInt32 &&& Int32.toUInt32 31)).toInt32) &&& (858993459 : Int32))) + ((((((a0 - ((((a0).toUInt32 >>> (((1 : Int32)).toUInt32 &&& Int32.toUInt32 31)).toInt32) &&& (1431655765 : Int32))) &&& (858993459 : Int32)) + (((((a0 - ((((a0).toUInt32 >>> (((1 : Int32)).toUInt32 &&& Int32.toUInt32 31)).toInt32) &&& (1431655765 : Int32)))).toUInt32 >>> (((2 : Int32)).toUInt32 &&& Int32.toUInt32 31)).toInt32) &&& (858993459 : Int32)))).toUInt32 >>> (((4 : Int32)).toUInt32 &&& Int32.toUInt32 31)).toInt32)) &&& (252645135 : Int32)) + ((((((((a0 - ((((a0).toUInt32 >>> (((1 : Int32)).toUInt32 &&& Int32.toUInt32 31)).toInt32) &&& (1431655765 : Int32))) &&& (858993459 : Int32)) + (((((a0 - ((((a0).toUInt32 >>> (((1 : Int32)).toUInt32 &&& Int32.toUInt32 31)).toInt32) &&& (1431655765 : Int32)))).toUInt32 >>> (((2 : Int32)).toUInt32 &&& Int32.toUInt32 31)).toInt32) &&& (858993459 : Int32))) + ((((((a0 - ((((a0).toUInt32 >>> (((1 : Int32)).toUInt32 &&& Int32.toUInt32 31)).toInt32) &&& (1431655765 : Int32))) &&& (858993459 : Int32)) + (((((a0 - ((((a0).toUInt32 >>> (((1 : Int32)).toUInt32 &&& Int32.toUInt32 31)).toInt32) &&& (1431655765 : Int32)))).toUInt32 >>> (((2 : Int32)).toUInt32 &&& Int32.toUInt32 31)).toInt32) &&& (858993459 : Int32)))).toUInt32 >>> (((4 : Int32)).toUInt32 &&& Int32.toUInt32 31)).toInt32)) &&& (252645135 : Int32))).toUInt32 >>> (((8 : Int32)).toUInt32 &&& Int32.toUInt32 31)).toInt32)) + (((((((((a0 - ((((a0).toUInt32 >>> (((1 : Int32)).toUInt32 &&& Int32.toUInt32 31)).toInt32) &&& (1431655765 : Int32))) &&& (858993459 : Int32)) + (((((a0 - ((((a0).toUInt32 >>> (((1 : Int32)).toUInt32 &&& Int32.toUInt32 31)).toInt32) &&& (1431655765 : Int32)))).toUInt32 >>> (((2 : Int32)).toUInt32 &&& Int32.toUInt32 31)).toInt32) &&& (858993459 : Int32))) + ((((((a0 - ((((a0).toUInt32 >>> (((1 : Int32)).toUInt32 &&& Int32.toUInt32 31)).toInt32) &&& (1431655765 : Int32))) &&& (858993459 : Int32)) + (((((a0 - ((((a0).toUInt32 >>> (((1 : Int32)).toUInt32 &&& Int32.toUInt32 31)).toInt32) &&& (1431655765 : Int32)))).toUInt32 >>> (((2 : Int32)).toUInt32 &&& Int32.toUInt32 31)).toInt32) &&& (858993459 : Int32)))).toUInt32 >>> (((4 : Int32)).toUInt32 &&& Int32.toUInt32 31)).toInt32)) &&& (252645135 : Int32)) + ((((((((a0 - ((((a0).toUInt32 >>> (((1 : Int32)).toUInt32 &&& Int32.toUInt32 31)).toInt32) &&& (1431655765 : Int32))) &&& (858993459 : Int32)) + (((((a0 - ((((a0).toUInt32 >>> (((1 : Int32)).toUInt32 &&& Int32.toUInt32 31)).toInt32) &&& (1431655765 : Int32)))).toUInt32 >>> (((2 : Int32)).toUInt32 &&& Int32.toUInt32 31)).toInt32) &&& (858993459 : Int32))) + ((((((a0 - ((((a0).toUInt32 >>> (((1 : Int32)).toUInt32 &&& Int32.toUInt32 31)).toInt32) &&& (1431655765 : Int32))) &&& (858993459 : Int32)) + (((((a0 - ((((a0).toUInt32 >>> (((1 : Int32)).toUInt32 &&& Int32.toUInt32 31)).toInt32) &&& (1431655765 : Int32)))).toUInt32 >>> (((2 : Int32)).toUInt32 &&& Int32.toUInt32 31)).toInt32) &&& (858993459 : Int32)))).toUInt32 >>> (((4 : Int32)).toUInt32 &&& Int32.toUInt32 31)).toInt32)) &&& (252645135 : Int32))).toUInt32 >>> (((8 : Int32)).toUInt32 &&& Int32.toUInt32 31)).toInt32))).toUInt32 >>> (((16 : Int32)).toUInt32 &&& Int32.toUInt32 31)).toInt32)) &&& (63 : Int32)) σ)
set_option maxRecDepth 100000 in
set_option maxHeartbeats 4000000 in
theorem C_J6_bitCount_0f7a4 {g : GG} {a0 : Int32} {σ : Mm} {K : Int32 → Mm → Prop} (h : f_J6_bitCount_0f7a4 a0 σ K) : Ct g 0 M_J6_bitCount_0f7a4 (QI g 0 K) [.int a0] σ := by
  unfold f_J6_bitCount_0f7a4 at h
  refine Ct.of (L := [(0, .int a0)]) (show plainName RJ6 = true by decide) (Nat.le_of_ble_eq_true rfl) rfl ?_
  refine AW.iload_n dJ6_bitCount_0f7a4_0 0 rfl ?_
  refine AW.iload_n dJ6_bitCount_0f7a4_1 0 rfl ?_
  refine AW.iconst (v := (1 : Int32)) dJ6_bitCount_0f7a4_2 rfl ?_
  refine AW.iushr dJ6_bitCount_0f7a4_3 ?_
  refine AW.ldcw (v := (1431655765 : Int32)) dJ6_bitCount_0f7a4_4 w_473 ?_
  refine AW.iand dJ6_bitCount_0f7a4_7 ?_
  refine AW.isub dJ6_bitCount_0f7a4_8 ?_
  refine AW.istore_n (L' := [(0, .int (a0 - ((((a0).toUInt32 >>> (((1 : Int32)).toUInt32 &&& Int32.toUInt32 31)).toInt32) &&& (1431655765 : Int32))))]) dJ6_bitCount_0f7a4_9 (Nat.le_of_ble_eq_true rfl) rfl ?_
  refine AW.iload_n dJ6_bitCount_0f7a4_10 0 rfl ?_
  refine AW.ldcw (v := (858993459 : Int32)) dJ6_bitCount_0f7a4_11 w_474 ?_
  refine AW.iand dJ6_bitCount_0f7a4_14 ?_
  refine AW.iload_n dJ6_bitCount_0f7a4_15 0 rfl ?_
  refine AW.iconst (v := (2 : Int32)) dJ6_bitCount_0f7a4_16 rfl ?_
  refine AW.iushr dJ6_bitCount_0f7a4_17 ?_
  refine AW.ldcw (v := (858993459 : Int32)) dJ6_bitCount_0f7a4_18 w_474 ?_
  refine AW.iand dJ6_bitCount_0f7a4_21 ?_
  refine AW.iadd dJ6_bitCount_0f7a4_22 ?_
  refine AW.istore_n (L' := [(0, .int (((a0 - ((((a0).toUInt32 >>> (((1 : Int32)).toUInt32 &&& Int32.toUInt32 31)).toInt32) &&& (1431655765 : Int32))) &&& (858993459 : Int32)) + (((((a0 - ((((a0).toUInt32 >>> (((1 : Int32)).toUInt32 &&& Int32.toUInt32 31)).toInt32) &&& (1431655765 : Int32)))).toUInt32 >>> (((2 : Int32)).toUInt32 &&& Int32.toUInt32 31)).toInt32) &&& (858993459 : Int32))))]) dJ6_bitCount_0f7a4_23 (Nat.le_of_ble_eq_true rfl) rfl ?_
  refine AW.iload_n dJ6_bitCount_0f7a4_24 0 rfl ?_
  refine AW.iload_n dJ6_bitCount_0f7a4_25 0 rfl ?_
  refine AW.iconst (v := (4 : Int32)) dJ6_bitCount_0f7a4_26 rfl ?_
  refine AW.iushr dJ6_bitCount_0f7a4_27 ?_
  refine AW.iadd dJ6_bitCount_0f7a4_28 ?_
  refine AW.ldcw (v := (252645135 : Int32)) dJ6_bitCount_0f7a4_29 w_475 ?_
  refine AW.iand dJ6_bitCount_0f7a4_32 ?_
  refine AW.istore_n (L' := [(0, .int (((((a0 - ((((a0).toUInt32 >>> (((1 : Int32)).toUInt32 &&& Int32.toUInt32 31)).toInt32) &&& (1431655765 : Int32))) &&& (858993459 : Int32)) + (((((a0 - ((((a0).toUInt32 >>> (((1 : Int32)).toUInt32 &&& Int32.toUInt32 31)).toInt32) &&& (1431655765 : Int32)))).toUInt32 >>> (((2 : Int32)).toUInt32 &&& Int32.toUInt32 31)).toInt32) &&& (858993459 : Int32))) + ((((((a0 - ((((a0).toUInt32 >>> (((1 : Int32)).toUInt32 &&& Int32.toUInt32 31)).toInt32) &&& (1431655765 : Int32))) &&& (858993459 : Int32)) + (((((a0 - ((((a0).toUInt32 >>> (((1 : Int32)).toUInt32 &&& Int32.toUInt32 31)).toInt32) &&& (1431655765 : Int32)))).toUInt32 >>> (((2 : Int32)).toUInt32 &&& Int32.toUInt32 31)).toInt32) &&& (858993459 : Int32)))).toUInt32 >>> (((4 : Int32)).toUInt32 &&& Int32.toUInt32 31)).toInt32)) &&& (252645135 : Int32)))]) dJ6_bitCount_0f7a4_33 (Nat.le_of_ble_eq_true rfl) rfl ?_
  refine AW.iload_n dJ6_bitCount_0f7a4_34 0 rfl ?_
  refine AW.iload_n dJ6_bitCount_0f7a4_35 0 rfl ?_
  refine AW.bipush (v := (8 : Int32)) dJ6_bitCount_0f7a4_36 rfl ?_
  refine AW.iushr dJ6_bitCount_0f7a4_38 ?_
  refine AW.iadd dJ6_bitCount_0f7a4_39 ?_
  refine AW.istore_n (L' := [(0, .int ((((((a0 - ((((a0).toUInt32 >>> (((1 : Int32)).toUInt32 &&& Int32.toUInt32 31)).toInt32) &&& (1431655765 : Int32))) &&& (858993459 : Int32)) + (((((a0 - ((((a0).toUInt32 >>> (((1 : Int32)).toUInt32 &&& Int32.toUInt32 31)).toInt32) &&& (1431655765 : Int32)))).toUInt32 >>> (((2 : Int32)).toUInt32 &&& Int32.toUInt32 31)).toInt32) &&& (858993459 : Int32))) + ((((((a0 - ((((a0).toUInt32 >>> (((1 : Int32)).toUInt32 &&& Int32.toUInt32 31)).toInt32) &&& (1431655765 : Int32))) &&& (858993459 : Int32)) + (((((a0 - ((((a0).toUInt32 >>> (((1 : Int32)).toUInt32 &&& Int32.toUInt32 31)).toInt32) &&& (1431655765 : Int32)))).toUInt32 >>> (((2 : Int32)).toUInt32 &&& Int32.toUInt32 31)).toInt32) &&& (858993459 : Int32)))).toUInt32 >>> (((4 : Int32)).toUInt32 &&& Int32.toUInt32 31)).toInt32)) &&& (252645135 : Int32)) + ((((((((a0 - ((((a0).toUInt32 >>> (((1 : Int32)).toUInt32 &&& Int32.toUInt32 31)).toInt32) &&& (1431655765 : Int32))) &&& (858993459 : Int32)) + (((((a0 - ((((a0).toUInt32 >>> (((1 : Int32)).toUInt32 &&& Int32.toUInt32 31)).toInt32) &&& (1431655765 : Int32)))).toUInt32 >>> (((2 : Int32)).toUInt32 &&& Int32.toUInt32 31)).toInt32) &&& (858993459 : Int32))) + ((((((a0 - ((((a0).toUInt32 >>> (((1 : Int32)).toUInt32 &&& Int32.toUInt32 31)).toInt32) &&& (1431655765 : Int32))) &&& (858993459 : Int32)) + (((((a0 - ((((a0).toUInt32 >>> (((1 : Int32)).toUInt32 &&& Int32.toUInt32 31)).toInt32) &&& (1431655765 : Int32)))).toUInt32 >>> (((2 : Int32)).toUInt32 &&& Int32.toUInt32 31)).toInt32) &&& (858993459 : Int32)))).toUInt32 >>> (((4 : Int32)).toUInt32 &&& Int32.toUInt32 31)).toInt32)) &&& (252645135 : Int32))).toUInt32 >>> (((8 : Int32)).toUInt32 &&& Int32.toUInt32 31)).toInt32)))]) dJ6_bitCount_0f7a4_40 (Nat.le_of_ble_eq_true rfl) rfl ?_
  refine AW.iload_n dJ6_bitCount_0f7a4_41 0 rfl ?_
  refine AW.iload_n dJ6_bitCount_0f7a4_42 0 rfl ?_
  refine AW.bipush (v := (16 : Int32)) dJ6_bitCount_0f7a4_43 rfl ?_
  refine AW.iushr dJ6_bitCount_0f7a4_45 ?_
  refine AW.iadd dJ6_bitCount_0f7a4_46 ?_
  refine AW.istore_n (L' := [(0, .int (((((((a0 - ((((a0).toUInt32 >>> (((1 : Int32)).toUInt32 &&& Int32.toUInt32 31)).toInt32) &&& (1431655765 : Int32))) &&& (858993459 : Int32)) + (((((a0 - ((((a0).toUInt32 >>> (((1 : Int32)).toUInt32 &&& Int32.toUInt32 31)).toInt32) &&& (1431655765 : Int32)))).toUInt32 >>> (((2 : Int32)).toUInt32 &&& Int32.toUInt32 31)).toInt32) &&& (858993459 : Int32))) + ((((((a0 - ((((a0).toUInt32 >>> (((1 : Int32)).toUInt32 &&& Int32.toUInt32 31)).toInt32) &&& (1431655765 : Int32))) &&& (858993459 : Int32)) + (((((a0 - ((((a0).toUInt32 >>> (((1 : Int32)).toUInt32 &&& Int32.toUInt32 31)).toInt32) &&& (1431655765 : Int32)))).toUInt32 >>> (((2 : Int32)).toUInt32 &&& Int32.toUInt32 31)).toInt32) &&& (858993459 : Int32)))).toUInt32 >>> (((4 : Int32)).toUInt32 &&& Int32.toUInt32 31)).toInt32)) &&& (252645135 : Int32)) + ((((((((a0 - ((((a0).toUInt32 >>> (((1 : Int32)).toUInt32 &&& Int32.toUInt32 31)).toInt32) &&& (1431655765 : Int32))) &&& (858993459 : Int32)) + (((((a0 - ((((a0).toUInt32 >>> (((1 : Int32)).toUInt32 &&& Int32.toUInt32 31)).toInt32) &&& (1431655765 : Int32)))).toUInt32 >>> (((2 : Int32)).toUInt32 &&& Int32.toUInt32 31)).toInt32) &&& (858993459 : Int32))) + ((((((a0 - ((((a0).toUInt32 >>> (((1 : Int32)).toUInt32 &&& Int32.toUInt32 31)).toInt32) &&& (1431655765 : Int32))) &&& (858993459 : Int32)) + (((((a0 - ((((a0).toUInt32 >>> (((1 : Int32)).toUInt32 &&& Int32.toUInt32 31)).toInt32) &&& (1431655765 : Int32)))).toUInt32 >>> (((2 : Int32)).toUInt32 &&& Int32.toUInt32 31)).toInt32) &&& (858993459 : Int32)))).toUInt32 >>> (((4 : Int32)).toUInt32 &&& Int32.toUInt32 31)).toInt32)) &&& (252645135 : Int32))).toUInt32 >>> (((8 : Int32)).toUInt32 &&& Int32.toUInt32 31)).toInt32)) + (((((((((a0 - ((((a0).toUInt32 >>> (((1 : Int32)).toUInt32 &&& Int32.toUInt32 31)).toInt32) &&& (1431655765 : Int32))) &&& (858993459 : Int32)) + (((((a0 - ((((a0).toUInt32 >>> (((1 : Int32)).toUInt32 &&& Int32.toUInt32 31)).toInt32) &&& (1431655765 : Int32)))).toUInt32 >>> (((2 : Int32)).toUInt32 &&& Int32.toUInt32 31)).toInt32) &&& (858993459 : Int32))) + ((((((a0 - ((((a0).toUInt32 >>> (((1 : Int32)).toUInt32 &&& Int32.toUInt32 31)).toInt32) &&& (1431655765 : Int32))) &&& (858993459 : Int32)) + (((((a0 - ((((a0).toUInt32 >>> (((1 : Int32)).toUInt32 &&& Int32.toUInt32 31)).toInt32) &&& (1431655765 : Int32)))).toUInt32 >>> (((2 : Int32)).toUInt32 &&& Int32.toUInt32 31)).toInt32) &&& (858993459 : Int32)))).toUInt32 >>> (((4 : Int32)).toUInt32 &&& Int32.toUInt32 31)).toInt32)) &&& (252645135 : Int32)) + ((((((((a0 - ((((a0).toUInt32 >>> (((1 : Int32)).toUInt32 &&& Int32.toUInt32 31)).toInt32) &&& (1431655765 : Int32))) &&& (858993459 : Int32)) + (((((a0 - ((((a0).toUInt32 >>> (((1 : Int32)).toUInt32 &&& Int32.toUInt32 31)).toInt32) &&& (1431655765 : Int32)))).toUInt32 >>> (((2 : Int32)).toUInt32 &&& Int32.toUInt32 31)).toInt32) &&& (858993459 : Int32))) + ((((((a0 - ((((a0).toUInt32 >>> (((1 : Int32)).toUInt32 &&& Int32.toUInt32 31)).toInt32) &&& (1431655765 : Int32))) &&& (858993459 : Int32)) + (((((a0 - ((((a0).toUInt32 >>> (((1 : Int32)).toUInt32 &&& Int32.toUInt32 31)).toInt32) &&& (1431655765 : Int32)))).toUInt32 >>> (((2 : Int32)).toUInt32 &&& Int32.toUInt32 31)).toInt32) &&& (858993459 : Int32)))).toUInt32 >>> (((4 : Int32)).toUInt32 &&& Int32.toUInt32 31)).toInt32)) &&& (252645135 : Int32))).toUInt32 >>> (((8 : Int32)).toUInt32 &&& Int32.toUInt32 31)).toInt32))).toUInt32 >>> (((16 : Int32)).toUInt32 &&& Int32.toUInt32 31)).toInt32)))]) dJ6_bitCount_0f7a4_47 (Nat.le_of_ble_eq_true rfl) rfl ?_
  refine AW.iload_n dJ6_bitCount_0f7a4_48 0 rfl ?_
  refine AW.bipush (v := (63 : Int32)) dJ6_bitCount_0f7a4_49 rfl ?_
  refine AW.iand dJ6_bitCount_0f7a4_51 ?_
  exact AW.iret rfl dJ6_bitCount_0f7a4_52 h
theorem ok_J6_bitCount_0f7a4 : OkS M_J6_bitCount_0f7a4 1 := ⟨w_471, w_12, w_472, by decide +kernel, (Nat.le_of_ble_eq_true rfl)⟩
def M_X6_fitsOn : MT := (yX6_fitsOn, cX6_fitsOn, 4, some .boolean, 2)
def f_X6_fitsOn (a1 : Int32) (a2 : Int32) (σ : Mm) (K : Bool → Mm → Prop) : Prop := (f_J6_bitCount_0f7a4 a2 σ (fun r2 σ1 => (vp_in a1 5 ∧ ((5 * 0 + a1.toNatClampNeg) < 17 ∧ (if (σ1 0 (5 * 0 + a1.toNatClampNeg) 1) < r2 then (K false σ1) else (if (6 : Int32) < r2 then (K false σ1) else (K true σ1)))))))
set_option maxRecDepth 100000 in
set_option maxHeartbeats 4000000 in
theorem C_X6_fitsOn {g : GG} {a1 : Int32} {a2 : Int32} {σ : Mm} {K : Bool → Mm → Prop} (h : f_X6_fitsOn a1 a2 σ K) : Ct g 0 M_X6_fitsOn (QB g 0 K) [.ref (gad g 16 0), .int a1, .int a2] σ := by
  unfold f_X6_fitsOn at h
  refine Ct.of (L := [(0, .ref (gad g 16 0)), (1, .int a1), (2, .int a2)]) (show plainName RX6 = true by decide) (Nat.le_of_ble_eq_true rfl) rfl ?_
  refine AW.iload_n dX6_fitsOn_0 2 rfl ?_
  refine AW.callSI [.int a2] (C_J6_bitCount_0f7a4 h) ok_J6_bitCount_0f7a4 w_470 rfl (Nat.le_of_ble_eq_true rfl) (Nat.le_of_ble_eq_true rfl) rfl dX6_fitsOn_1 (fun r2 σ1 h => ?_)
  refine AW.istore_n (L' := [(0, .ref (gad g 16 0)), (1, .int a1), (2, .int a2), (3, .int r2)]) dX6_fitsOn_4 (Nat.le_of_ble_eq_true rfl) rfl ?_
  refine AW.iload_n dX6_fitsOn_5 3 rfl ?_
  refine AW.aload_n dX6_fitsOn_6 0 rfl ?_
  refine AW.get (k := 0) (v := .ref (gad g 5 0)) (id0_16_0) rfl rfl inGX6 (Nat.le_of_ble_eq_true rfl) w_203 rfl dX6_fitsOn_7 ?_
  refine AW.get (k := 1) (v := .ref (gad g 6 0)) (id0_5_0) rfl rfl inGX2 (Nat.le_of_ble_eq_true rfl) w_96 rfl dX6_fitsOn_10 ?_
  refine AW.iload_n dX6_fitsOn_13 1 rfl ?_
  obtain ⟨hq3, h⟩ := h
  obtain ⟨hv4, h⟩ := h
  refine AW.aald (a' := gad g 0 (5 * 0 + a1.toNatClampNeg)) (ty := 1) (id0_6_0) rfl rfl rfl hq3 dX6_fitsOn_14 ?_
  refine AW.get (k := 1) (v := .int (σ1 0 (5 * 0 + a1.toNatClampNeg) 1)) (ids_in (Nat.le_of_ble_eq_true rfl) hv4) rfl rfl inGX0 (Nat.le_of_ble_eq_true rfl) w_75 rfl dX6_fitsOn_15 ?_
  refine AW.icmp_gt (tgt := 31) dX6_fitsOn_18 rfl (fun c => ?_) (fun c => ?_)
  · replace h := ite_t c h
    refine AW.iconst (v := (0 : Int32)) dX6_fitsOn_31 rfl ?_
    exact AW.bret false rfl rfl dX6_fitsOn_32 h
  · replace h := ite_f c h
    refine AW.iload_n dX6_fitsOn_21 3 rfl ?_
    refine AW.bipush (v := (6 : Int32)) dX6_fitsOn_22 rfl ?_
    refine AW.icmp_gt (tgt := 31) dX6_fitsOn_24 rfl (fun c => ?_) (fun c => ?_)
    · replace h := ite_t c h
      refine AW.iconst (v := (0 : Int32)) dX6_fitsOn_31 rfl ?_
      exact AW.bret false rfl rfl dX6_fitsOn_32 h
    · replace h := ite_f c h
      refine AW.iconst (v := (1 : Int32)) dX6_fitsOn_27 rfl ?_
      refine AW.goto (tgt := 32) dX6_fitsOn_28 rfl ?_
      exact AW.bret true rfl rfl dX6_fitsOn_32 h
theorem ok_X6_fitsOn : OkV M_X6_fitsOn 2 := ⟨w_468, wp_5, w_1, w_469, by decide +kernel, (Nat.le_of_ble_eq_true rfl)⟩
def M_X3_weightOf : MT := (yX3_weightOf, cX3_weightOf, 4, some .int, 2)
set_option maxRecDepth 100000 in
def f_X3_weightOf_4 (a1 : Int32) (K : Int32 → Mm → Prop) : Nat → Int32 → Int32 → Mm → Prop
  | 0, _, _, _ => False
  | n + 1, a2, a3, σ => (if (8 : Int32) ≤ a3 then (K a2 σ) else (f_X6_has a1 a3 σ (fun b2 σ1 => (if b2 = true then (vp_in a3 8 ∧ (f_X3_weightOf_4 a1 K n (a2 + (σ1 4 0 (a3.toNatClampNeg))) (a3 + (1 : Int32)) σ1)) else (f_X3_weightOf_4 a1 K n a2 (a3 + (1 : Int32)) σ1)))))
set_option maxRecDepth 100000 in
set_option maxHeartbeats 4000000 in
theorem T_X3_weightOf_4 {g : GG} {a1 : Int32} {K : Int32 → Mm → Prop} : ∀ (n : Nat) (a2 : Int32) (a3 : Int32) (σ : Mm), f_X3_weightOf_4 a1 K n a2 a3 σ → AW g 0 M_X3_weightOf (QI g 0 K) 4 [(0, .ref (gad g 8 0)), (1, .int a1), (2, .int a2), (3, .int a3)] [] σ := by
  intro n
  induction n with
  | zero => intro a2 a3 σ h; exact False.elim h
  | succ n ih =>
    intro a2 a3 σ h
    rw [f_X3_weightOf_4] at h
    refine AW.iload_n dX3_weightOf_4 3 rfl ?_
    refine AW.bipush (v := (8 : Int32)) dX3_weightOf_5 rfl ?_
    refine AW.icmp_ge (tgt := 36) dX3_weightOf_7 rfl (fun c => ?_) (fun c => ?_)
    · replace h := ite_t c h
      refine AW.iload_n dX3_weightOf_36 2 rfl ?_
      exact AW.iret rfl dX3_weightOf_37 h
    · replace h := ite_f c h
      refine AW.iload_n dX3_weightOf_10 1 rfl ?_
      refine AW.iload_n dX3_weightOf_11 3 rfl ?_
      refine AW.callNB [.int a1, .int a3] (C_X6_has h) ok_X6_has (by decide) rfl (Nat.le_of_ble_eq_true rfl) (Nat.le_of_ble_eq_true rfl) rfl dX3_weightOf_12 (fun b2 σ1 h => ?_)
      refine AW.ifb_eq (tgt := 30) dX3_weightOf_15 rfl (fun c => ?_) (fun c => ?_)
      · replace h := ite_f c h
        refine AW.iinc (v := (a3 + (1 : Int32))) (L' := [(0, .ref (gad g 8 0)), (1, .int a1), (2, .int a2), (3, .int (a3 + (1 : Int32)))]) dX3_weightOf_30 3 rfl rfl (Nat.le_of_ble_eq_true rfl) rfl ?_
        refine AW.goto (tgt := 4) dX3_weightOf_33 rfl ?_
        exact ih _ _ _ h
      · replace h := ite_t c h
        refine AW.iload_n dX3_weightOf_18 2 rfl ?_
        refine AW.aload_n dX3_weightOf_19 0 rfl ?_
        refine AW.get (k := 1) (v := .ref (gad g 2 0)) (id0_8_0) rfl rfl inGX3 (Nat.le_of_ble_eq_true rfl) w_128 rfl dX3_weightOf_20 ?_
        refine AW.get (k := 1) (v := .ref (gad g 4 0)) (id0_2_0) rfl rfl inGX1 (Nat.le_of_ble_eq_true rfl) w_43 rfl dX3_weightOf_23 ?_
        refine AW.iload_n dX3_weightOf_26 3 rfl ?_
        obtain ⟨hq3, h⟩ := h
        refine AW.iald (jn := (a3.toNatClampNeg)) (id0_4_0) rfl hq3 rfl dX3_weightOf_27 ?_
        refine AW.iadd dX3_weightOf_28 ?_
        refine AW.istore_n (L' := [(0, .ref (gad g 8 0)), (1, .int a1), (2, .int (a2 + (σ1 4 0 (a3.toNatClampNeg)))), (3, .int a3)]) dX3_weightOf_29 (Nat.le_of_ble_eq_true rfl) rfl ?_
        refine AW.iinc (v := (a3 + (1 : Int32))) (L' := [(0, .ref (gad g 8 0)), (1, .int a1), (2, .int (a2 + (σ1 4 0 (a3.toNatClampNeg)))), (3, .int (a3 + (1 : Int32)))]) dX3_weightOf_30 3 rfl rfl (Nat.le_of_ble_eq_true rfl) rfl ?_
        refine AW.goto (tgt := 4) dX3_weightOf_33 rfl ?_
        exact ih _ _ _ h
def f_X3_weightOf (a1 : Int32) (σ : Mm) (K : Int32 → Mm → Prop) : Prop := (∃ m, f_X3_weightOf_4 a1 K m (0 : Int32) (0 : Int32) σ)
set_option maxRecDepth 100000 in
set_option maxHeartbeats 4000000 in
theorem C_X3_weightOf {g : GG} {a1 : Int32} {σ : Mm} {K : Int32 → Mm → Prop} (h : f_X3_weightOf a1 σ K) : Ct g 0 M_X3_weightOf (QI g 0 K) [.ref (gad g 8 0), .int a1] σ := by
  unfold f_X3_weightOf at h
  refine Ct.of (L := [(0, .ref (gad g 8 0)), (1, .int a1)]) (show plainName RX3 = true by decide) (Nat.le_of_ble_eq_true rfl) rfl ?_
  refine AW.iconst (v := (0 : Int32)) dX3_weightOf_0 rfl ?_
  refine AW.istore_n (L' := [(0, .ref (gad g 8 0)), (1, .int a1), (2, .int (0 : Int32))]) dX3_weightOf_1 (Nat.le_of_ble_eq_true rfl) rfl ?_
  refine AW.iconst (v := (0 : Int32)) dX3_weightOf_2 rfl ?_
  refine AW.istore_n (L' := [(0, .ref (gad g 8 0)), (1, .int a1), (2, .int (0 : Int32)), (3, .int (0 : Int32))]) dX3_weightOf_3 (Nat.le_of_ble_eq_true rfl) rfl ?_
  obtain ⟨m, h⟩ := h
  refine T_X3_weightOf_4 m _ _ _ h
theorem ok_X3_weightOf : OkV M_X3_weightOf 1 := ⟨w_487, wp_6, w_6, w_488, by decide +kernel, (Nat.le_of_ble_eq_true rfl)⟩
def M_X3_canBalance : MT := (yX3_canBalance, cX3_canBalance, 4, some .boolean, 2)
def f_X3_canBalance (a1 : Int32) (a2 : Int32) (a3 : Int32) (σ : Mm) (K : Bool → Mm → Prop) : Prop := (if (σ 8 0 4) = (1000000 : Int32) then (K true σ) else (f_X0_armOf 16 a1 σ (fun r2 σ1 => (if (σ1 8 0 4) < (a2 + (a3 * r2)) then (K false σ1) else (f_X0_armOf 16 ((σ1 0 16 1) - (1 : Int32)) σ1 (fun r4 σ3 => (if (a2 + (a3 * r4)) < (-(σ3 8 0 4)) then (K false σ3) else (K true σ3))))))))
set_option maxRecDepth 100000 in
set_option maxHeartbeats 4000000 in
theorem C_X3_canBalance {g : GG} {a1 : Int32} {a2 : Int32} {a3 : Int32} {σ : Mm} {K : Bool → Mm → Prop} (h : f_X3_canBalance a1 a2 a3 σ K) : Ct g 0 M_X3_canBalance (QB g 0 K) [.ref (gad g 8 0), .int a1, .int a2, .int a3] σ := by
  unfold f_X3_canBalance at h
  refine Ct.of (L := [(0, .ref (gad g 8 0)), (1, .int a1), (2, .int a2), (3, .int a3)]) (show plainName RX3 = true by decide) (Nat.le_of_ble_eq_true rfl) rfl ?_
  refine AW.aload_n dX3_canBalance_0 0 rfl ?_
  refine AW.get (k := 4) (v := .int (σ 8 0 4)) (id0_8_0) rfl rfl inGX3 (Nat.le_of_ble_eq_true rfl) w_131 rfl dX3_canBalance_1 ?_
  refine AW.ldc (v := (1000000 : Int32)) dX3_canBalance_4 w_498 ?_
  refine AW.icmp_eq (tgt := 56) dX3_canBalance_6 rfl (fun c => ?_) (fun c => ?_)
  · replace h := ite_t c h
    refine AW.iconst (v := (1 : Int32)) dX3_canBalance_56 rfl ?_
    refine AW.goto (tgt := 61) dX3_canBalance_57 rfl ?_
    exact AW.bret true rfl rfl dX3_canBalance_61 h
  · replace h := ite_f c h
    refine AW.iload_n dX3_canBalance_9 2 rfl ?_
    refine AW.iload_n dX3_canBalance_10 3 rfl ?_
    refine AW.aload_n dX3_canBalance_11 0 rfl ?_
    refine AW.get (k := 0) (v := .ref (gad g 0 16)) (id0_8_0) rfl rfl inGX3 (Nat.le_of_ble_eq_true rfl) w_126 rfl dX3_canBalance_12 ?_
    refine AW.iload_n dX3_canBalance_15 1 rfl ?_
    refine AW.callVI [.int a1] (C_X0_armOf h) ok_X0_armOf (id0_0_16) rfl rfl w_499 rfl (Nat.le_of_ble_eq_true rfl) (Nat.le_of_ble_eq_true rfl) rfl dX3_canBalance_16 (fun r2 σ1 h => ?_)
    refine AW.imul dX3_canBalance_19 ?_
    refine AW.iadd dX3_canBalance_20 ?_
    refine AW.aload_n dX3_canBalance_21 0 rfl ?_
    refine AW.get (k := 4) (v := .int (σ1 8 0 4)) (id0_8_0) rfl rfl inGX3 (Nat.le_of_ble_eq_true rfl) w_131 rfl dX3_canBalance_22 ?_
    refine AW.icmp_gt (tgt := 60) dX3_canBalance_25 rfl (fun c => ?_) (fun c => ?_)
    · replace h := ite_t c h
      refine AW.iconst (v := (0 : Int32)) dX3_canBalance_60 rfl ?_
      exact AW.bret false rfl rfl dX3_canBalance_61 h
    · replace h := ite_f c h
      refine AW.iload_n dX3_canBalance_28 2 rfl ?_
      refine AW.iload_n dX3_canBalance_29 3 rfl ?_
      refine AW.aload_n dX3_canBalance_30 0 rfl ?_
      refine AW.get (k := 0) (v := .ref (gad g 0 16)) (id0_8_0) rfl rfl inGX3 (Nat.le_of_ble_eq_true rfl) w_126 rfl dX3_canBalance_31 ?_
      refine AW.aload_n dX3_canBalance_34 0 rfl ?_
      refine AW.get (k := 0) (v := .ref (gad g 0 16)) (id0_8_0) rfl rfl inGX3 (Nat.le_of_ble_eq_true rfl) w_126 rfl dX3_canBalance_35 ?_
      refine AW.get (k := 1) (v := .int (σ1 0 16 1)) (id0_0_16) rfl rfl inGX0 (Nat.le_of_ble_eq_true rfl) w_73 rfl dX3_canBalance_38 ?_
      refine AW.iconst (v := (1 : Int32)) dX3_canBalance_41 rfl ?_
      refine AW.isub dX3_canBalance_42 ?_
      refine AW.callVI [.int ((σ1 0 16 1) - (1 : Int32))] (C_X0_armOf h) ok_X0_armOf (id0_0_16) rfl rfl w_499 rfl (Nat.le_of_ble_eq_true rfl) (Nat.le_of_ble_eq_true rfl) rfl dX3_canBalance_43 (fun r4 σ3 h => ?_)
      refine AW.imul dX3_canBalance_46 ?_
      refine AW.iadd dX3_canBalance_47 ?_
      refine AW.aload_n dX3_canBalance_48 0 rfl ?_
      refine AW.get (k := 4) (v := .int (σ3 8 0 4)) (id0_8_0) rfl rfl inGX3 (Nat.le_of_ble_eq_true rfl) w_131 rfl dX3_canBalance_49 ?_
      refine AW.ineg dX3_canBalance_52 ?_
      refine AW.icmp_lt (tgt := 60) dX3_canBalance_53 rfl (fun c => ?_) (fun c => ?_)
      · replace h := ite_t c h
        refine AW.iconst (v := (0 : Int32)) dX3_canBalance_60 rfl ?_
        exact AW.bret false rfl rfl dX3_canBalance_61 h
      · replace h := ite_f c h
        refine AW.iconst (v := (1 : Int32)) dX3_canBalance_56 rfl ?_
        refine AW.goto (tgt := 61) dX3_canBalance_57 rfl ?_
        exact AW.bret true rfl rfl dX3_canBalance_61 h
theorem ok_X3_canBalance : OkV M_X3_canBalance 3 := ⟨w_496, wp_8, w_6, w_497, by decide +kernel, (Nat.le_of_ble_eq_true rfl)⟩
def M_X3_closesRound : MT := (yX3_closesRound, cX3_closesRound, 1, some .boolean, 4)
def f_X3_closesRound (σ : Mm) (K : Bool → Mm → Prop) : Prop := (vp_in (σ 0 16 0) 7 ∧ (if (stF 1 ((σ 0 16 0).toNatClampNeg)) = 0 then (K true σ) else (f_X1_firstWrong 0 16 (0 : Int32) (if (σ 0 16 1) < (σ 8 0 3) then (σ 0 16 1) else (σ 8 0 3)) σ (fun r3 σ2 => (if r3 = (-1 : Int32) then (f_X1_firstWrong 0 16 (if ((σ2 0 16 1) - (σ2 8 0 3)) < (0 : Int32) then (0 : Int32) else ((σ2 0 16 1) - (σ2 8 0 3))) (σ2 0 16 1) σ2 (fun r5 σ4 => (if r5 = (-1 : Int32) then (K true σ4) else (K false σ4)))) else (K false σ2))))))
set_option maxRecDepth 100000 in
set_option maxHeartbeats 4000000 in
theorem C_X3_closesRound {g : GG} {σ : Mm} {K : Bool → Mm → Prop} (h : f_X3_closesRound σ K) : Ct g 0 M_X3_closesRound (QB g 0 K) [.ref (gad g 8 0)] σ := by
  unfold f_X3_closesRound at h
  refine Ct.of (L := [(0, .ref (gad g 8 0))]) (show plainName RX3 = true by decide) (Nat.le_of_ble_eq_true rfl) rfl ?_
  refine AW.getsN (k := 1) (Nat.le_of_ble_eq_true rfl) (by decide) dX3_closesRound_0 ?_
  refine AW.aload_n dX3_closesRound_3 0 rfl ?_
  refine AW.get (k := 0) (v := .ref (gad g 0 16)) (id0_8_0) rfl rfl inGX3 (Nat.le_of_ble_eq_true rfl) w_126 rfl dX3_closesRound_4 ?_
  refine AW.get (k := 0) (v := .int (σ 0 16 0)) (id0_0_16) rfl rfl inGX0 (Nat.le_of_ble_eq_true rfl) w_69 rfl dX3_closesRound_7 ?_
  obtain ⟨hq1, h⟩ := h
  refine AW.stald (Nat.le_of_ble_eq_true rfl) hq1 dX3_closesRound_10 ?_
  refine AW.if_eq (tgt := 82) dX3_closesRound_11 rfl (fun c => ?_) (fun c => ?_)
  · replace h := ite_t c h
    refine AW.iconst (v := (1 : Int32)) dX3_closesRound_82 rfl ?_
    refine AW.goto (tgt := 87) dX3_closesRound_83 rfl ?_
    exact AW.bret true rfl rfl dX3_closesRound_87 h
  · replace h := ite_f c h
    refine AW.aload_n dX3_closesRound_14 0 rfl ?_
    refine AW.get (k := 1) (v := .ref (gad g 2 0)) (id0_8_0) rfl rfl inGX3 (Nat.le_of_ble_eq_true rfl) w_128 rfl dX3_closesRound_15 ?_
    refine AW.aload_n dX3_closesRound_18 0 rfl ?_
    refine AW.get (k := 0) (v := .ref (gad g 0 16)) (id0_8_0) rfl rfl inGX3 (Nat.le_of_ble_eq_true rfl) w_126 rfl dX3_closesRound_19 ?_
    refine AW.iconst (v := (0 : Int32)) dX3_closesRound_22 rfl ?_
    refine AW.aload_n dX3_closesRound_23 0 rfl ?_
    refine AW.get (k := 3) (v := .int (σ 8 0 3)) (id0_8_0) rfl rfl inGX3 (Nat.le_of_ble_eq_true rfl) w_130 rfl dX3_closesRound_24 ?_
    refine AW.aload_n dX3_closesRound_27 0 rfl ?_
    refine AW.get (k := 0) (v := .ref (gad g 0 16)) (id0_8_0) rfl rfl inGX3 (Nat.le_of_ble_eq_true rfl) w_126 rfl dX3_closesRound_28 ?_
    refine AW.get (k := 1) (v := .int (σ 0 16 1)) (id0_0_16) rfl rfl inGX0 (Nat.le_of_ble_eq_true rfl) w_73 rfl dX3_closesRound_31 ?_
    refine AW.mmin w_505 w_506 w_10 w_507 (Nat.le_of_ble_eq_true rfl) (Nat.le_of_ble_eq_true rfl) dX3_closesRound_34 ?_
    refine AW.callVI [.ref (gad g 0 16), .int (0 : Int32), .int (if (σ 0 16 1) < (σ 8 0 3) then (σ 0 16 1) else (σ 8 0 3))] (C_X1_firstWrong h) ok_X1_firstWrong (id0_2_0) rfl rfl w_508 rfl (Nat.le_of_ble_eq_true rfl) (Nat.le_of_ble_eq_true rfl) rfl dX3_closesRound_37 (fun r3 σ2 h => ?_)
    refine AW.iconst (v := (-1 : Int32)) dX3_closesRound_40 rfl ?_
    refine AW.icmp_ne (tgt := 86) dX3_closesRound_41 rfl (fun c => ?_) (fun c => ?_)
    · replace h := ite_f c h
      refine AW.iconst (v := (0 : Int32)) dX3_closesRound_86 rfl ?_
      exact AW.bret false rfl rfl dX3_closesRound_87 h
    · replace h := ite_t c h
      refine AW.aload_n dX3_closesRound_44 0 rfl ?_
      refine AW.get (k := 1) (v := .ref (gad g 2 0)) (id0_8_0) rfl rfl inGX3 (Nat.le_of_ble_eq_true rfl) w_128 rfl dX3_closesRound_45 ?_
      refine AW.aload_n dX3_closesRound_48 0 rfl ?_
      refine AW.get (k := 0) (v := .ref (gad g 0 16)) (id0_8_0) rfl rfl inGX3 (Nat.le_of_ble_eq_true rfl) w_126 rfl dX3_closesRound_49 ?_
      refine AW.aload_n dX3_closesRound_52 0 rfl ?_
      refine AW.get (k := 0) (v := .ref (gad g 0 16)) (id0_8_0) rfl rfl inGX3 (Nat.le_of_ble_eq_true rfl) w_126 rfl dX3_closesRound_53 ?_
      refine AW.get (k := 1) (v := .int (σ2 0 16 1)) (id0_0_16) rfl rfl inGX0 (Nat.le_of_ble_eq_true rfl) w_73 rfl dX3_closesRound_56 ?_
      refine AW.aload_n dX3_closesRound_59 0 rfl ?_
      refine AW.get (k := 3) (v := .int (σ2 8 0 3)) (id0_8_0) rfl rfl inGX3 (Nat.le_of_ble_eq_true rfl) w_130 rfl dX3_closesRound_60 ?_
      refine AW.isub dX3_closesRound_63 ?_
      refine AW.iconst (v := (0 : Int32)) dX3_closesRound_64 rfl ?_
      refine AW.mmax w_509 w_510 w_10 w_511 (Nat.le_of_ble_eq_true rfl) (Nat.le_of_ble_eq_true rfl) dX3_closesRound_65 ?_
      refine AW.aload_n dX3_closesRound_68 0 rfl ?_
      refine AW.get (k := 0) (v := .ref (gad g 0 16)) (id0_8_0) rfl rfl inGX3 (Nat.le_of_ble_eq_true rfl) w_126 rfl dX3_closesRound_69 ?_
      refine AW.get (k := 1) (v := .int (σ2 0 16 1)) (id0_0_16) rfl rfl inGX0 (Nat.le_of_ble_eq_true rfl) w_73 rfl dX3_closesRound_72 ?_
      refine AW.callVI [.ref (gad g 0 16), .int (if ((σ2 0 16 1) - (σ2 8 0 3)) < (0 : Int32) then (0 : Int32) else ((σ2 0 16 1) - (σ2 8 0 3))), .int (σ2 0 16 1)] (C_X1_firstWrong h) ok_X1_firstWrong (id0_2_0) rfl rfl w_508 rfl (Nat.le_of_ble_eq_true rfl) (Nat.le_of_ble_eq_true rfl) rfl dX3_closesRound_75 (fun r5 σ4 h => ?_)
      refine AW.iconst (v := (-1 : Int32)) dX3_closesRound_78 rfl ?_
      refine AW.icmp_ne (tgt := 86) dX3_closesRound_79 rfl (fun c => ?_) (fun c => ?_)
      · replace h := ite_f c h
        refine AW.iconst (v := (0 : Int32)) dX3_closesRound_86 rfl ?_
        exact AW.bret false rfl rfl dX3_closesRound_87 h
      · replace h := ite_t c h
        refine AW.iconst (v := (1 : Int32)) dX3_closesRound_82 rfl ?_
        refine AW.goto (tgt := 87) dX3_closesRound_83 rfl ?_
        exact AW.bret true rfl rfl dX3_closesRound_87 h
theorem ok_X3_closesRound : OkV M_X3_closesRound 0 := ⟨w_502, wp_9, w_6, w_503, by decide +kernel, (Nat.le_of_ble_eq_true rfl)⟩
def M_X3_pinAllows : MT := (yX3_pinAllows, cX3_pinAllows, 3, some .boolean, 1)
def f_X3_pinAllows (a1 : Int32) (a2 : Int32) (σ : Mm) (K : Bool → Mm → Prop) : Prop := (if a1 = (σ 8 0 8) then (if a2 = (σ 8 0 7) then (K true σ) else (K false σ)) else (K true σ))
set_option maxRecDepth 100000 in
set_option maxHeartbeats 4000000 in
theorem C_X3_pinAllows {g : GG} {a1 : Int32} {a2 : Int32} {σ : Mm} {K : Bool → Mm → Prop} (h : f_X3_pinAllows a1 a2 σ K) : Ct g 0 M_X3_pinAllows (QB g 0 K) [.ref (gad g 8 0), .int a1, .int a2] σ := by
  unfold f_X3_pinAllows at h
  refine Ct.of (L := [(0, .ref (gad g 8 0)), (1, .int a1), (2, .int a2)]) (show plainName RX3 = true by decide) (Nat.le_of_ble_eq_true rfl) rfl ?_
  refine AW.iload_n dX3_pinAllows_0 1 rfl ?_
  refine AW.aload_n dX3_pinAllows_1 0 rfl ?_
  refine AW.get (k := 8) (v := .int (σ 8 0 8)) (id0_8_0) rfl rfl inGX3 (Nat.le_of_ble_eq_true rfl) w_135 rfl dX3_pinAllows_2 ?_
  refine AW.icmp_ne (tgt := 16) dX3_pinAllows_5 rfl (fun c => ?_) (fun c => ?_)
  · replace h := ite_f c h
    refine AW.iconst (v := (1 : Int32)) dX3_pinAllows_16 rfl ?_
    refine AW.goto (tgt := 21) dX3_pinAllows_17 rfl ?_
    exact AW.bret true rfl rfl dX3_pinAllows_21 h
  · replace h := ite_t c h
    refine AW.iload_n dX3_pinAllows_8 2 rfl ?_
    refine AW.aload_n dX3_pinAllows_9 0 rfl ?_
    refine AW.get (k := 7) (v := .int (σ 8 0 7)) (id0_8_0) rfl rfl inGX3 (Nat.le_of_ble_eq_true rfl) w_134 rfl dX3_pinAllows_10 ?_
    refine AW.icmp_ne (tgt := 20) dX3_pinAllows_13 rfl (fun c => ?_) (fun c => ?_)
    · replace h := ite_f c h
      refine AW.iconst (v := (0 : Int32)) dX3_pinAllows_20 rfl ?_
      exact AW.bret false rfl rfl dX3_pinAllows_21 h
    · replace h := ite_t c h
      refine AW.iconst (v := (1 : Int32)) dX3_pinAllows_16 rfl ?_
      refine AW.goto (tgt := 21) dX3_pinAllows_17 rfl ?_
      exact AW.bret true rfl rfl dX3_pinAllows_21 h
theorem ok_X3_pinAllows : OkV M_X3_pinAllows 2 := ⟨w_514, wp_10, w_6, w_515, by decide +kernel, (Nat.le_of_ble_eq_true rfl)⟩
def M_X3_leavesNobodyBetween : MT := (yX3_leavesNobodyBetween, cX3_leavesNobodyBetween, 5, some .boolean, 3)
def f_X3_leavesNobodyBetween (a1 : Int32) (a2 : Int32) (σ : Mm) (K : Bool → Mm → Prop) : Prop := (vp_in a1 9 ∧ (if (σ 9 0 (a1.toNatClampNeg)) = (-1 : Int32) then (K true σ) else (if (a1 - (σ 9 0 (a1.toNatClampNeg))) ≤ (σ 8 0 3) then (vp_in (σ 9 0 (a1.toNatClampNeg)) 9 ∧ (if (σ 9 0 ((σ 9 0 (a1.toNatClampNeg)).toNatClampNeg)) = (-1 : Int32) then (K true σ) else (if (σ 8 0 3) < ((σ 9 0 (a1.toNatClampNeg)) - (σ 9 0 ((σ 9 0 (a1.toNatClampNeg)).toNatClampNeg))) then (K true σ) else (vp_in (σ 9 0 ((σ 9 0 (a1.toNatClampNeg)).toNatClampNeg)) 8 ∧ (f_X1_areFriends 0 (σ 1 16 ((σ 9 0 ((σ 9 0 (a1.toNatClampNeg)).toNatClampNeg)).toNatClampNeg)) a2 σ (fun b5 σ4 => (if b5 = true then (K false σ4) else (K true σ4)))))))) else (K true σ))))
set_option maxRecDepth 100000 in
set_option maxHeartbeats 4000000 in
theorem C_X3_leavesNobodyBetween {g : GG} {a1 : Int32} {a2 : Int32} {σ : Mm} {K : Bool → Mm → Prop} (h : f_X3_leavesNobodyBetween a1 a2 σ K) : Ct g 0 M_X3_leavesNobodyBetween (QB g 0 K) [.ref (gad g 8 0), .int a1, .int a2] σ := by
  unfold f_X3_leavesNobodyBetween at h
  refine Ct.of (L := [(0, .ref (gad g 8 0)), (1, .int a1), (2, .int a2)]) (show plainName RX3 = true by decide) (Nat.le_of_ble_eq_true rfl) rfl ?_
  refine AW.aload_n dX3_leavesNobodyBetween_0 0 rfl ?_
  refine AW.get (k := 2) (v := .ref (gad g 9 0)) (id0_8_0) rfl rfl inGX3 (Nat.le_of_ble_eq_true rfl) w_129 rfl dX3_leavesNobodyBetween_1 ?_
  refine AW.iload_n dX3_leavesNobodyBetween_4 1 rfl ?_
  obtain ⟨hq1, h⟩ := h
  refine AW.iald (jn := (a1.toNatClampNeg)) (id0_9_0) rfl hq1 rfl dX3_leavesNobodyBetween_5 ?_
  refine AW.istore_n (L' := [(0, .ref (gad g 8 0)), (1, .int a1), (2, .int a2), (3, .int (σ 9 0 (a1.toNatClampNeg)))]) dX3_leavesNobodyBetween_6 (Nat.le_of_ble_eq_true rfl) rfl ?_
  refine AW.iload_n dX3_leavesNobodyBetween_7 3 rfl ?_
  refine AW.iconst (v := (-1 : Int32)) dX3_leavesNobodyBetween_8 rfl ?_
  refine AW.icmp_eq (tgt := 22) dX3_leavesNobodyBetween_9 rfl (fun c => ?_) (fun c => ?_)
  · replace h := ite_t c h
    refine AW.iconst (v := (1 : Int32)) dX3_leavesNobodyBetween_22 rfl ?_
    exact AW.bret true rfl rfl dX3_leavesNobodyBetween_23 h
  · replace h := ite_f c h
    refine AW.iload_n dX3_leavesNobodyBetween_12 1 rfl ?_
    refine AW.iload_n dX3_leavesNobodyBetween_13 3 rfl ?_
    refine AW.isub dX3_leavesNobodyBetween_14 ?_
    refine AW.aload_n dX3_leavesNobodyBetween_15 0 rfl ?_
    refine AW.get (k := 3) (v := .int (σ 8 0 3)) (id0_8_0) rfl rfl inGX3 (Nat.le_of_ble_eq_true rfl) w_130 rfl dX3_leavesNobodyBetween_16 ?_
    refine AW.icmp_le (tgt := 24) dX3_leavesNobodyBetween_19 rfl (fun c => ?_) (fun c => ?_)
    · replace h := ite_t c h
      refine AW.aload_n dX3_leavesNobodyBetween_24 0 rfl ?_
      refine AW.get (k := 2) (v := .ref (gad g 9 0)) (id0_8_0) rfl rfl inGX3 (Nat.le_of_ble_eq_true rfl) w_129 rfl dX3_leavesNobodyBetween_25 ?_
      refine AW.iload_n dX3_leavesNobodyBetween_28 3 rfl ?_
      obtain ⟨hq2, h⟩ := h
      refine AW.iald (jn := ((σ 9 0 (a1.toNatClampNeg)).toNatClampNeg)) (id0_9_0) rfl hq2 rfl dX3_leavesNobodyBetween_29 ?_
      refine AW.istore (L' := [(0, .ref (gad g 8 0)), (1, .int a1), (2, .int a2), (3, .int (σ 9 0 (a1.toNatClampNeg))), (4, .int (σ 9 0 ((σ 9 0 (a1.toNatClampNeg)).toNatClampNeg)))]) dX3_leavesNobodyBetween_30 (Nat.le_of_ble_eq_true rfl) rfl ?_
      refine AW.iload dX3_leavesNobodyBetween_32 4 rfl ?_
      refine AW.iconst (v := (-1 : Int32)) dX3_leavesNobodyBetween_34 rfl ?_
      refine AW.icmp_eq (tgt := 70) dX3_leavesNobodyBetween_35 rfl (fun c => ?_) (fun c => ?_)
      · replace h := ite_t c h
        refine AW.iconst (v := (1 : Int32)) dX3_leavesNobodyBetween_70 rfl ?_
        refine AW.goto (tgt := 75) dX3_leavesNobodyBetween_71 rfl ?_
        exact AW.bret true rfl rfl dX3_leavesNobodyBetween_75 h
      · replace h := ite_f c h
        refine AW.iload_n dX3_leavesNobodyBetween_38 3 rfl ?_
        refine AW.iload dX3_leavesNobodyBetween_39 4 rfl ?_
        refine AW.isub dX3_leavesNobodyBetween_41 ?_
        refine AW.aload_n dX3_leavesNobodyBetween_42 0 rfl ?_
        refine AW.get (k := 3) (v := .int (σ 8 0 3)) (id0_8_0) rfl rfl inGX3 (Nat.le_of_ble_eq_true rfl) w_130 rfl dX3_leavesNobodyBetween_43 ?_
        refine AW.icmp_gt (tgt := 70) dX3_leavesNobodyBetween_46 rfl (fun c => ?_) (fun c => ?_)
        · replace h := ite_t c h
          refine AW.iconst (v := (1 : Int32)) dX3_leavesNobodyBetween_70 rfl ?_
          refine AW.goto (tgt := 75) dX3_leavesNobodyBetween_71 rfl ?_
          exact AW.bret true rfl rfl dX3_leavesNobodyBetween_75 h
        · replace h := ite_f c h
          refine AW.aload_n dX3_leavesNobodyBetween_49 0 rfl ?_
          refine AW.get (k := 1) (v := .ref (gad g 2 0)) (id0_8_0) rfl rfl inGX3 (Nat.le_of_ble_eq_true rfl) w_128 rfl dX3_leavesNobodyBetween_50 ?_
          refine AW.aload_n dX3_leavesNobodyBetween_53 0 rfl ?_
          refine AW.get (k := 0) (v := .ref (gad g 0 16)) (id0_8_0) rfl rfl inGX3 (Nat.le_of_ble_eq_true rfl) w_126 rfl dX3_leavesNobodyBetween_54 ?_
          refine AW.get (k := 2) (v := .ref (gad g 1 16)) (id0_0_16) rfl rfl inGX0 (Nat.le_of_ble_eq_true rfl) w_80 rfl dX3_leavesNobodyBetween_57 ?_
          refine AW.iload dX3_leavesNobodyBetween_60 4 rfl ?_
          obtain ⟨hq3, h⟩ := h
          refine AW.iald (jn := ((σ 9 0 ((σ 9 0 (a1.toNatClampNeg)).toNatClampNeg)).toNatClampNeg)) (id0_1_16) rfl hq3 rfl dX3_leavesNobodyBetween_62 ?_
          refine AW.iload_n dX3_leavesNobodyBetween_63 2 rfl ?_
          refine AW.callVB [.int (σ 1 16 ((σ 9 0 ((σ 9 0 (a1.toNatClampNeg)).toNatClampNeg)).toNatClampNeg)), .int a2] (C_X1_areFriends h) ok_X1_areFriends (id0_2_0) rfl rfl w_520 rfl (Nat.le_of_ble_eq_true rfl) (Nat.le_of_ble_eq_true rfl) rfl dX3_leavesNobodyBetween_64 (fun b5 σ4 h => ?_)
          refine AW.ifb_ne (tgt := 74) dX3_leavesNobodyBetween_67 rfl (fun c => ?_) (fun c => ?_)
          · replace h := ite_t c h
            refine AW.iconst (v := (0 : Int32)) dX3_leavesNobodyBetween_74 rfl ?_
            exact AW.bret false rfl rfl dX3_leavesNobodyBetween_75 h
          · replace h := ite_f c h
            refine AW.iconst (v := (1 : Int32)) dX3_leavesNobodyBetween_70 rfl ?_
            refine AW.goto (tgt := 75) dX3_leavesNobodyBetween_71 rfl ?_
            exact AW.bret true rfl rfl dX3_leavesNobodyBetween_75 h
    · replace h := ite_f c h
      refine AW.iconst (v := (1 : Int32)) dX3_leavesNobodyBetween_22 rfl ?_
      exact AW.bret true rfl rfl dX3_leavesNobodyBetween_23 h
theorem ok_X3_leavesNobodyBetween : OkV M_X3_leavesNobodyBetween 2 := ⟨w_518, wp_11, w_6, w_519, by decide +kernel, (Nat.le_of_ble_eq_true rfl)⟩
def M_X3_fill (d : Nat) : MT := (yX3_fill, cX3_fill, 7, none, d)
theorem ok_X3_fill (d : Nat) : OkV (M_X3_fill d) 5 := ⟨w_492, wp_7, w_6, w_493, (by decide +kernel : yX3_fill.cls ≠ "java/lang/invoke/MethodHandle" ∧ yX3_fill.cls ≠ "java/lang/invoke/VarHandle" ∧ (parseMethodDescriptor yX3_fill.desc).map (fun d => d.parameters.length) = some 5), (Nat.le_of_ble_eq_true rfl)⟩
def M_X3_setDown (d : Nat) : MT := (yX3_setDown, cX3_setDown, 8, none, d)
theorem ok_X3_setDown (d : Nat) : OkV (M_X3_setDown d) 6 := ⟨w_523, wp_12, w_6, w_524, (by decide +kernel : yX3_setDown.cls ≠ "java/lang/invoke/MethodHandle" ∧ yX3_setDown.cls ≠ "java/lang/invoke/VarHandle" ∧ (parseMethodDescriptor yX3_setDown.desc).map (fun d => d.parameters.length) = some 6), (Nat.le_of_ble_eq_true rfl)⟩
def f_X3_setDown (F : Int32 → Int32 → Int32 → Int32 → Int32 → Mm → (Mm → Prop) → Prop) (a1 : Int32) (a2 : Int32) (a3 : Int32) (a4 : Int32) (a5 : Int32) (a6 : Int32) (σ : Mm) (K : Mm → Prop) : Prop := (vp_in a2 8 ∧ (∃ σ2, σ2 = mset σ 1 16 (a2.toNatClampNeg) a1 ∧ (vp_in (a2 + (1 : Int32)) 9 ∧ (∃ σ4, σ4 = mset σ2 9 0 ((a2 + (1 : Int32)).toNatClampNeg) a2 ∧ (vp_in a1 8 ∧ (f_X0_armOf 16 a2 σ4 (fun r7 σ6 => (F (a2 + (1 : Int32)) (a3 &&& (((1 : Int32) <<< (a1 &&& 31)) ^^^ (-1 : Int32))) a4 (a5 + ((σ4 4 0 (a1.toNatClampNeg)) * r7)) (a6 - (σ4 4 0 (a1.toNatClampNeg))) σ6 (fun σ8 => (K σ8))))))))))
set_option maxRecDepth 100000 in
set_option maxHeartbeats 4000000 in
theorem C_X3_setDown {g : GG} {a1 : Int32} {a2 : Int32} {a3 : Int32} {a4 : Int32} {a5 : Int32} {a6 : Int32} {σ : Mm} {d : Nat} {F : Int32 → Int32 → Int32 → Int32 → Int32 → Mm → (Mm → Prop) → Prop} {K : Mm → Prop} (hd0 : 4 ≤ d) (hF : ∀ (a1 a2 a3 a4 a5 : Int32) (σ : Mm) (K : Mm → Prop), F a1 a2 a3 a4 a5 σ K → Ct g 0 (M_X3_fill d) (QV g 0 K) [.ref (gad g 8 0), .int a1, .int a2, .int a3, .int a4, .int a5] σ) (h : f_X3_setDown F a1 a2 a3 a4 a5 a6 σ K) : Ct g 0 (M_X3_setDown (d + 1)) (QV g 0 K) [.ref (gad g 8 0), .int a1, .int a2, .int a3, .int a4, .int a5, .int a6] σ := by
  unfold f_X3_setDown at h
  refine Ct.of (L := [(0, .ref (gad g 8 0)), (1, .int a1), (2, .int a2), (3, .int a3), (4, .int a4), (5, .int a5), (6, .int a6)]) (show plainName RX3 = true by decide) (Nat.le_of_ble_eq_true rfl) rfl ?_
  refine AW.aload_n dX3_setDown_0 0 rfl ?_
  refine AW.get (k := 0) (v := .ref (gad g 0 16)) (id0_8_0) rfl rfl inGX3 (Nat.le_of_ble_eq_true rfl) w_126 rfl dX3_setDown_1 ?_
  refine AW.get (k := 2) (v := .ref (gad g 1 16)) (id0_0_16) rfl rfl inGX0 (Nat.le_of_ble_eq_true rfl) w_80 rfl dX3_setDown_4 ?_
  refine AW.iload_n dX3_setDown_7 2 rfl ?_
  refine AW.iload_n dX3_setDown_8 1 rfl ?_
  obtain ⟨hq1, h⟩ := h
  refine AW.iast (jn := (a2.toNatClampNeg)) (id0_1_16) (fun _ => rfl) hq1 rfl dX3_setDown_9 ?_
  obtain ⟨σ2, eσ2, h⟩ := h
  rw [← eσ2]
  refine AW.aload_n dX3_setDown_10 0 rfl ?_
  refine AW.get (k := 2) (v := .ref (gad g 9 0)) (id0_8_0) rfl rfl inGX3 (Nat.le_of_ble_eq_true rfl) w_129 rfl dX3_setDown_11 ?_
  refine AW.iload_n dX3_setDown_14 2 rfl ?_
  refine AW.iconst (v := (1 : Int32)) dX3_setDown_15 rfl ?_
  refine AW.iadd dX3_setDown_16 ?_
  refine AW.iload_n dX3_setDown_17 2 rfl ?_
  obtain ⟨hq3, h⟩ := h
  refine AW.iast (jn := ((a2 + (1 : Int32)).toNatClampNeg)) (id0_9_0) (fun _ => rfl) hq3 rfl dX3_setDown_18 ?_
  obtain ⟨σ4, eσ4, h⟩ := h
  rw [← eσ4]
  refine AW.aload_n dX3_setDown_19 0 rfl ?_
  refine AW.get (k := 1) (v := .ref (gad g 2 0)) (id0_8_0) rfl rfl inGX3 (Nat.le_of_ble_eq_true rfl) w_128 rfl dX3_setDown_20 ?_
  refine AW.get (k := 1) (v := .ref (gad g 4 0)) (id0_2_0) rfl rfl inGX1 (Nat.le_of_ble_eq_true rfl) w_43 rfl dX3_setDown_23 ?_
  refine AW.iload_n dX3_setDown_26 1 rfl ?_
  obtain ⟨hq5, h⟩ := h
  refine AW.iald (jn := (a1.toNatClampNeg)) (id0_4_0) rfl hq5 rfl dX3_setDown_27 ?_
  refine AW.istore (L' := [(0, .ref (gad g 8 0)), (1, .int a1), (2, .int a2), (3, .int a3), (4, .int a4), (5, .int a5), (6, .int a6), (7, .int (σ4 4 0 (a1.toNatClampNeg)))]) dX3_setDown_28 (Nat.le_of_ble_eq_true rfl) rfl ?_
  refine AW.aload_n dX3_setDown_30 0 rfl ?_
  refine AW.iload_n dX3_setDown_31 2 rfl ?_
  refine AW.iconst (v := (1 : Int32)) dX3_setDown_32 rfl ?_
  refine AW.iadd dX3_setDown_33 ?_
  refine AW.iload_n dX3_setDown_34 3 rfl ?_
  refine AW.iconst (v := (1 : Int32)) dX3_setDown_35 rfl ?_
  refine AW.iload_n dX3_setDown_36 1 rfl ?_
  refine AW.ishl dX3_setDown_37 ?_
  refine AW.iconst (v := (-1 : Int32)) dX3_setDown_38 rfl ?_
  refine AW.ixor dX3_setDown_39 ?_
  refine AW.iand dX3_setDown_40 ?_
  refine AW.iload dX3_setDown_41 4 rfl ?_
  refine AW.iload dX3_setDown_43 5 rfl ?_
  refine AW.iload dX3_setDown_45 7 rfl ?_
  refine AW.aload_n dX3_setDown_47 0 rfl ?_
  refine AW.get (k := 0) (v := .ref (gad g 0 16)) (id0_8_0) rfl rfl inGX3 (Nat.le_of_ble_eq_true rfl) w_126 rfl dX3_setDown_48 ?_
  refine AW.iload_n dX3_setDown_51 2 rfl ?_
  refine AW.callVI [.int a2] (C_X0_armOf h) ok_X0_armOf (id0_0_16) rfl rfl w_499 rfl (Nat.succ_le_succ (Nat.le_trans (Nat.le_of_ble_eq_true rfl) hd0)) (Nat.le_of_ble_eq_true rfl) rfl dX3_setDown_52 (fun r7 σ6 h => ?_)
  refine AW.imul dX3_setDown_55 ?_
  refine AW.iadd dX3_setDown_56 ?_
  refine AW.iload dX3_setDown_57 6 rfl ?_
  refine AW.iload dX3_setDown_59 7 rfl ?_
  refine AW.isub dX3_setDown_61 ?_
  refine AW.callVV [.int (a2 + (1 : Int32)), .int (a3 &&& (((1 : Int32) <<< (a1 &&& 31)) ^^^ (-1 : Int32))), .int a4, .int (a5 + ((σ4 4 0 (a1.toNatClampNeg)) * r7)), .int (a6 - (σ4 4 0 (a1.toNatClampNeg)))] (hF _ _ _ _ _ _ _ h) (ok_X3_fill _) (id0_8_0) rfl rfl w_490 rfl (Nat.le_refl _) (Nat.le_of_ble_eq_true rfl) rfl dX3_setDown_62 (fun σ8 h => ?_)
  exact AW.vret rfl dX3_setDown_65 h
set_option maxRecDepth 100000 in
def f_X3_fill_97 (a1 : Int32) (a2 : Int32) (a3 : Int32) (a4 : Int32) (a5 : Int32) (F : Int32 → Int32 → Int32 → Int32 → Int32 → Mm → (Mm → Prop) → Prop) (K : Mm → Prop) : Nat → Int32 → Mm → Prop
  | 0, _, _ => False
  | n + 1, a6, σ => (if (8 : Int32) ≤ a6 then (K σ) else (if (σ 8 0 6) ≤ (σ 8 0 5) then (K σ) else (if ((a2 >>> (a6 &&& 31)) &&& (1 : Int32)) = 0 then (f_X3_fill_97 a1 a2 a3 a4 a5 F K n (a6 + (1 : Int32)) σ) else (f_X3_pinAllows a1 a6 σ (fun b4 σ3 => (if b4 = true then (f_X3_leavesNobodyBetween a1 a6 σ3 (fun b6 σ5 => (if b6 = true then (f_X3_setDown F a6 a1 a2 a3 a4 a5 σ5 (fun σ7 => (f_X3_fill_97 a1 a2 a3 a4 a5 F K n (a6 + (1 : Int32)) σ7))) else (f_X3_fill_97 a1 a2 a3 a4 a5 F K n (a6 + (1 : Int32)) σ5)))) else (f_X3_fill_97 a1 a2 a3 a4 a5 F K n (a6 + (1 : Int32)) σ3)))))))
set_option maxRecDepth 100000 in
set_option maxHeartbeats 4000000 in
theorem T_X3_fill_97 {g : GG} {a1 : Int32} {a2 : Int32} {a3 : Int32} {a4 : Int32} {a5 : Int32} {d : Nat} {F : Int32 → Int32 → Int32 → Int32 → Int32 → Mm → (Mm → Prop) → Prop} {K : Mm → Prop} (hd0 : 4 ≤ d) (hF : ∀ (a1 a2 a3 a4 a5 : Int32) (σ : Mm) (K : Mm → Prop), F a1 a2 a3 a4 a5 σ K → Ct g 0 (M_X3_fill d) (QV g 0 K) [.ref (gad g 8 0), .int a1, .int a2, .int a3, .int a4, .int a5] σ) : ∀ (n : Nat) (a6 : Int32) (σ : Mm), f_X3_fill_97 a1 a2 a3 a4 a5 F K n a6 σ → AW g 0 (M_X3_fill (d + 2)) (QV g 0 K) 97 [(0, .ref (gad g 8 0)), (1, .int a1), (2, .int a2), (3, .int a3), (4, .int a4), (5, .int a5), (6, .int a6)] [] σ := by
  intro n
  induction n with
  | zero => intro a6 σ h; exact False.elim h
  | succ n ih =>
    intro a6 σ h
    rw [f_X3_fill_97] at h
    refine AW.iload dX3_fill_97 6 rfl ?_
    refine AW.bipush (v := (8 : Int32)) dX3_fill_99 rfl ?_
    refine AW.icmp_ge (tgt := 163) dX3_fill_101 rfl (fun c => ?_) (fun c => ?_)
    · replace h := ite_t c h
      exact AW.vret rfl dX3_fill_163 h
    · replace h := ite_f c h
      refine AW.aload_n dX3_fill_104 0 rfl ?_
      refine AW.get (k := 5) (v := .int (σ 8 0 5)) (id0_8_0) rfl rfl inGX3 (Nat.le_of_ble_eq_true rfl) w_132 rfl dX3_fill_105 ?_
      refine AW.aload_n dX3_fill_108 0 rfl ?_
      refine AW.get (k := 6) (v := .int (σ 8 0 6)) (id0_8_0) rfl rfl inGX3 (Nat.le_of_ble_eq_true rfl) w_133 rfl dX3_fill_109 ?_
      refine AW.icmp_ge (tgt := 163) dX3_fill_112 rfl (fun c => ?_) (fun c => ?_)
      · replace h := ite_t c h
        exact AW.vret rfl dX3_fill_163 h
      · replace h := ite_f c h
        refine AW.iload_n dX3_fill_115 2 rfl ?_
        refine AW.iload dX3_fill_116 6 rfl ?_
        refine AW.ishr dX3_fill_118 ?_
        refine AW.iconst (v := (1 : Int32)) dX3_fill_119 rfl ?_
        refine AW.iand dX3_fill_120 ?_
        refine AW.if_eq (tgt := 157) dX3_fill_121 rfl (fun c => ?_) (fun c => ?_)
        · replace h := ite_t c h
          refine AW.iinc (v := (a6 + (1 : Int32))) (L' := [(0, .ref (gad g 8 0)), (1, .int a1), (2, .int a2), (3, .int a3), (4, .int a4), (5, .int a5), (6, .int (a6 + (1 : Int32)))]) dX3_fill_157 6 rfl rfl (Nat.le_of_ble_eq_true rfl) rfl ?_
          refine AW.goto (tgt := 97) dX3_fill_160 rfl ?_
          exact ih _ _ h
        · replace h := ite_f c h
          refine AW.aload_n dX3_fill_124 0 rfl ?_
          refine AW.iload_n dX3_fill_125 1 rfl ?_
          refine AW.iload dX3_fill_126 6 rfl ?_
          refine AW.callVB [.int a1, .int a6] (C_X3_pinAllows h) ok_X3_pinAllows (id0_8_0) rfl rfl w_512 rfl (Nat.succ_le_succ (Nat.le_succ_of_le (Nat.le_trans (Nat.le_of_ble_eq_true rfl) hd0))) (Nat.le_of_ble_eq_true rfl) rfl dX3_fill_128 (fun b4 σ3 h => ?_)
          refine AW.ifb_eq (tgt := 157) dX3_fill_131 rfl (fun c => ?_) (fun c => ?_)
          · replace h := ite_f c h
            refine AW.iinc (v := (a6 + (1 : Int32))) (L' := [(0, .ref (gad g 8 0)), (1, .int a1), (2, .int a2), (3, .int a3), (4, .int a4), (5, .int a5), (6, .int (a6 + (1 : Int32)))]) dX3_fill_157 6 rfl rfl (Nat.le_of_ble_eq_true rfl) rfl ?_
            refine AW.goto (tgt := 97) dX3_fill_160 rfl ?_
            exact ih _ _ h
          · replace h := ite_t c h
            refine AW.aload_n dX3_fill_134 0 rfl ?_
            refine AW.iload_n dX3_fill_135 1 rfl ?_
            refine AW.iload dX3_fill_136 6 rfl ?_
            refine AW.callVB [.int a1, .int a6] (C_X3_leavesNobodyBetween h) ok_X3_leavesNobodyBetween (id0_8_0) rfl rfl w_516 rfl (Nat.succ_le_succ (Nat.le_succ_of_le (Nat.le_trans (Nat.le_of_ble_eq_true rfl) hd0))) (Nat.le_of_ble_eq_true rfl) rfl dX3_fill_138 (fun b6 σ5 h => ?_)
            refine AW.ifb_eq (tgt := 157) dX3_fill_141 rfl (fun c => ?_) (fun c => ?_)
            · replace h := ite_f c h
              refine AW.iinc (v := (a6 + (1 : Int32))) (L' := [(0, .ref (gad g 8 0)), (1, .int a1), (2, .int a2), (3, .int a3), (4, .int a4), (5, .int a5), (6, .int (a6 + (1 : Int32)))]) dX3_fill_157 6 rfl rfl (Nat.le_of_ble_eq_true rfl) rfl ?_
              refine AW.goto (tgt := 97) dX3_fill_160 rfl ?_
              exact ih _ _ h
            · replace h := ite_t c h
              refine AW.aload_n dX3_fill_144 0 rfl ?_
              refine AW.iload dX3_fill_145 6 rfl ?_
              refine AW.iload_n dX3_fill_147 1 rfl ?_
              refine AW.iload_n dX3_fill_148 2 rfl ?_
              refine AW.iload_n dX3_fill_149 3 rfl ?_
              refine AW.iload dX3_fill_150 4 rfl ?_
              refine AW.iload dX3_fill_152 5 rfl ?_
              refine AW.callVV [.int a6, .int a1, .int a2, .int a3, .int a4, .int a5] (C_X3_setDown hd0 hF h) (ok_X3_setDown _) (id0_8_0) rfl rfl w_521 rfl (Nat.le_refl _) (Nat.le_of_ble_eq_true rfl) rfl dX3_fill_154 (fun σ7 h => ?_)
              refine AW.iinc (v := (a6 + (1 : Int32))) (L' := [(0, .ref (gad g 8 0)), (1, .int a1), (2, .int a2), (3, .int a3), (4, .int a4), (5, .int a5), (6, .int (a6 + (1 : Int32)))]) dX3_fill_157 6 rfl rfl (Nat.le_of_ble_eq_true rfl) rfl ?_
              refine AW.goto (tgt := 97) dX3_fill_160 rfl ?_
              exact ih _ _ h
def f_X3_fill_94 (a1 : Int32) (a2 : Int32) (a3 : Int32) (a4 : Int32) (a5 : Int32) (F : Int32 → Int32 → Int32 → Int32 → Int32 → Mm → (Mm → Prop) → Prop) (K : Mm → Prop) (σ : Mm) : Prop := (∃ m, f_X3_fill_97 a1 a2 a3 a4 a5 F K m (0 : Int32) σ)
set_option maxRecDepth 100000 in
set_option maxHeartbeats 4000000 in
theorem T_X3_fill_94 {g : GG} {a1 : Int32} {a2 : Int32} {a3 : Int32} {a4 : Int32} {a5 : Int32} {d : Nat} {F : Int32 → Int32 → Int32 → Int32 → Int32 → Mm → (Mm → Prop) → Prop} {K : Mm → Prop} {σ : Mm} (hd0 : 4 ≤ d) (hF : ∀ (a1 a2 a3 a4 a5 : Int32) (σ : Mm) (K : Mm → Prop), F a1 a2 a3 a4 a5 σ K → Ct g 0 (M_X3_fill d) (QV g 0 K) [.ref (gad g 8 0), .int a1, .int a2, .int a3, .int a4, .int a5] σ) (h : f_X3_fill_94 a1 a2 a3 a4 a5 F K σ) : AW g 0 (M_X3_fill (d + 2)) (QV g 0 K) 94 [(0, .ref (gad g 8 0)), (1, .int a1), (2, .int a2), (3, .int a3), (4, .int a4), (5, .int a5)] [] σ := by
  unfold f_X3_fill_94 at h
  refine AW.iconst (v := (0 : Int32)) dX3_fill_94 rfl ?_
  refine AW.istore (L' := [(0, .ref (gad g 8 0)), (1, .int a1), (2, .int a2), (3, .int a3), (4, .int a4), (5, .int a5), (6, .int (0 : Int32))]) dX3_fill_95 (Nat.le_of_ble_eq_true rfl) rfl ?_
  obtain ⟨m, h⟩ := h
  refine T_X3_fill_97 hd0 hF m _ _ h
def f_X3_fill (F : Int32 → Int32 → Int32 → Int32 → Int32 → Mm → (Mm → Prop) → Prop) (a1 : Int32) (a2 : Int32) (a3 : Int32) (a4 : Int32) (a5 : Int32) (σ : Mm) (K : Mm → Prop) : Prop := (f_X3_canBalance a1 a4 a5 σ (fun b2 σ1 => (if b2 = true then (if a1 < (σ1 0 16 1) then (if a3 ≤ 0 then (f_X3_fill_94 a1 a2 a3 a4 a5 F K σ1) else (f_X3_pinAllows a1 (-1 : Int32) σ1 (fun b9 σ8 => (if b9 = true then (vp_in a1 8 ∧ (∃ σ11, σ11 = mset σ8 1 16 (a1.toNatClampNeg) (-1 : Int32) ∧ (vp_in a1 9 ∧ (vp_in (a1 + (1 : Int32)) 9 ∧ (∃ σ14, σ14 = mset σ11 9 0 ((a1 + (1 : Int32)).toNatClampNeg) (σ11 9 0 (a1.toNatClampNeg)) ∧ (F (a1 + (1 : Int32)) a2 (a3 - (1 : Int32)) a4 a5 σ14 (fun σ15 => (f_X3_fill_94 a1 a2 a3 a4 a5 F K σ15)))))))) else (f_X3_fill_94 a1 a2 a3 a4 a5 F K σ8))))) else (f_X3_closesRound σ1 (fun b17 σ16 => (if b17 = true then (∃ σ18, σ18 = mset σ16 8 0 5 ((σ16 8 0 5) + (1 : Int32)) ∧ (K σ18)) else (K σ16))))) else (K σ1))))
set_option maxRecDepth 100000 in
set_option maxHeartbeats 4000000 in
theorem C_X3_fill {g : GG} {a1 : Int32} {a2 : Int32} {a3 : Int32} {a4 : Int32} {a5 : Int32} {σ : Mm} {d : Nat} {F : Int32 → Int32 → Int32 → Int32 → Int32 → Mm → (Mm → Prop) → Prop} {K : Mm → Prop} (hd0 : 4 ≤ d) (hF : ∀ (a1 a2 a3 a4 a5 : Int32) (σ : Mm) (K : Mm → Prop), F a1 a2 a3 a4 a5 σ K → Ct g 0 (M_X3_fill d) (QV g 0 K) [.ref (gad g 8 0), .int a1, .int a2, .int a3, .int a4, .int a5] σ) (h : f_X3_fill F a1 a2 a3 a4 a5 σ K) : Ct g 0 (M_X3_fill (d + 2)) (QV g 0 K) [.ref (gad g 8 0), .int a1, .int a2, .int a3, .int a4, .int a5] σ := by
  unfold f_X3_fill at h
  refine Ct.of (L := [(0, .ref (gad g 8 0)), (1, .int a1), (2, .int a2), (3, .int a3), (4, .int a4), (5, .int a5)]) (show plainName RX3 = true by decide) (Nat.le_of_ble_eq_true rfl) rfl ?_
  refine AW.aload_n dX3_fill_0 0 rfl ?_
  refine AW.iload_n dX3_fill_1 1 rfl ?_
  refine AW.iload dX3_fill_2 4 rfl ?_
  refine AW.iload dX3_fill_4 5 rfl ?_
  refine AW.callVB [.int a1, .int a4, .int a5] (C_X3_canBalance h) ok_X3_canBalance (id0_8_0) rfl rfl w_494 rfl (Nat.succ_le_succ (Nat.le_succ_of_le (Nat.le_trans (Nat.le_of_ble_eq_true rfl) hd0))) (Nat.le_of_ble_eq_true rfl) rfl dX3_fill_6 (fun b2 σ1 h => ?_)
  refine AW.ifb_ne (tgt := 13) dX3_fill_9 rfl (fun c => ?_) (fun c => ?_)
  · replace h := ite_t c h
    refine AW.iload_n dX3_fill_13 1 rfl ?_
    refine AW.aload_n dX3_fill_14 0 rfl ?_
    refine AW.get (k := 0) (v := .ref (gad g 0 16)) (id0_8_0) rfl rfl inGX3 (Nat.le_of_ble_eq_true rfl) w_126 rfl dX3_fill_15 ?_
    refine AW.get (k := 1) (v := .int (σ1 0 16 1)) (id0_0_16) rfl rfl inGX0 (Nat.le_of_ble_eq_true rfl) w_73 rfl dX3_fill_18 ?_
    refine AW.icmp_lt (tgt := 42) dX3_fill_21 rfl (fun c => ?_) (fun c => ?_)
    · replace h := ite_t c h
      refine AW.iload_n dX3_fill_42 3 rfl ?_
      refine AW.if_le (tgt := 94) dX3_fill_43 rfl (fun c => ?_) (fun c => ?_)
      · replace h := ite_t c h
        exact T_X3_fill_94 hd0 hF h
      · replace h := ite_f c h
        refine AW.aload_n dX3_fill_46 0 rfl ?_
        refine AW.iload_n dX3_fill_47 1 rfl ?_
        refine AW.iconst (v := (-1 : Int32)) dX3_fill_48 rfl ?_
        refine AW.callVB [.int a1, .int (-1 : Int32)] (C_X3_pinAllows h) ok_X3_pinAllows (id0_8_0) rfl rfl w_512 rfl (Nat.succ_le_succ (Nat.le_succ_of_le (Nat.le_trans (Nat.le_of_ble_eq_true rfl) hd0))) (Nat.le_of_ble_eq_true rfl) rfl dX3_fill_49 (fun b9 σ8 h => ?_)
        refine AW.ifb_eq (tgt := 94) dX3_fill_52 rfl (fun c => ?_) (fun c => ?_)
        · replace h := ite_f c h
          exact T_X3_fill_94 hd0 hF h
        · replace h := ite_t c h
          refine AW.aload_n dX3_fill_55 0 rfl ?_
          refine AW.get (k := 0) (v := .ref (gad g 0 16)) (id0_8_0) rfl rfl inGX3 (Nat.le_of_ble_eq_true rfl) w_126 rfl dX3_fill_56 ?_
          refine AW.get (k := 2) (v := .ref (gad g 1 16)) (id0_0_16) rfl rfl inGX0 (Nat.le_of_ble_eq_true rfl) w_80 rfl dX3_fill_59 ?_
          refine AW.iload_n dX3_fill_62 1 rfl ?_
          refine AW.iconst (v := (-1 : Int32)) dX3_fill_63 rfl ?_
          obtain ⟨hq10, h⟩ := h
          refine AW.iast (jn := (a1.toNatClampNeg)) (id0_1_16) (fun _ => rfl) hq10 rfl dX3_fill_64 ?_
          obtain ⟨σ11, eσ11, h⟩ := h
          rw [← eσ11]
          refine AW.aload_n dX3_fill_65 0 rfl ?_
          refine AW.get (k := 2) (v := .ref (gad g 9 0)) (id0_8_0) rfl rfl inGX3 (Nat.le_of_ble_eq_true rfl) w_129 rfl dX3_fill_66 ?_
          refine AW.iload_n dX3_fill_69 1 rfl ?_
          refine AW.iconst (v := (1 : Int32)) dX3_fill_70 rfl ?_
          refine AW.iadd dX3_fill_71 ?_
          refine AW.aload_n dX3_fill_72 0 rfl ?_
          refine AW.get (k := 2) (v := .ref (gad g 9 0)) (id0_8_0) rfl rfl inGX3 (Nat.le_of_ble_eq_true rfl) w_129 rfl dX3_fill_73 ?_
          refine AW.iload_n dX3_fill_76 1 rfl ?_
          obtain ⟨hq12, h⟩ := h
          refine AW.iald (jn := (a1.toNatClampNeg)) (id0_9_0) rfl hq12 rfl dX3_fill_77 ?_
          obtain ⟨hq13, h⟩ := h
          refine AW.iast (jn := ((a1 + (1 : Int32)).toNatClampNeg)) (id0_9_0) (fun _ => rfl) hq13 rfl dX3_fill_78 ?_
          obtain ⟨σ14, eσ14, h⟩ := h
          rw [← eσ14]
          refine AW.aload_n dX3_fill_79 0 rfl ?_
          refine AW.iload_n dX3_fill_80 1 rfl ?_
          refine AW.iconst (v := (1 : Int32)) dX3_fill_81 rfl ?_
          refine AW.iadd dX3_fill_82 ?_
          refine AW.iload_n dX3_fill_83 2 rfl ?_
          refine AW.iload_n dX3_fill_84 3 rfl ?_
          refine AW.iconst (v := (1 : Int32)) dX3_fill_85 rfl ?_
          refine AW.isub dX3_fill_86 ?_
          refine AW.iload dX3_fill_87 4 rfl ?_
          refine AW.iload dX3_fill_89 5 rfl ?_
          refine AW.callVV [.int (a1 + (1 : Int32)), .int a2, .int (a3 - (1 : Int32)), .int a4, .int a5] (hF _ _ _ _ _ _ _ h) (ok_X3_fill _) (id0_8_0) rfl rfl w_490 rfl (Nat.le_succ _) (Nat.le_of_ble_eq_true rfl) rfl dX3_fill_91 (fun σ15 h => ?_)
          exact T_X3_fill_94 hd0 hF h
    · replace h := ite_f c h
      refine AW.aload_n dX3_fill_24 0 rfl ?_
      refine AW.callVB [] (C_X3_closesRound h) ok_X3_closesRound (id0_8_0) rfl rfl w_500 rfl (Nat.succ_le_succ (Nat.le_succ_of_le (Nat.le_trans (Nat.le_of_ble_eq_true rfl) hd0))) (Nat.le_of_ble_eq_true rfl) rfl dX3_fill_25 (fun b17 σ16 h => ?_)
      refine AW.ifb_eq (tgt := 41) dX3_fill_28 rfl (fun c => ?_) (fun c => ?_)
      · replace h := ite_f c h
        exact AW.vret rfl dX3_fill_41 h
      · replace h := ite_t c h
        refine AW.aload_n dX3_fill_31 0 rfl ?_
        refine AW.dup dX3_fill_32 rfl ?_
        refine AW.get (k := 5) (v := .int (σ16 8 0 5)) (id0_8_0) rfl rfl inGX3 (Nat.le_of_ble_eq_true rfl) w_132 rfl dX3_fill_33 ?_
        refine AW.iconst (v := (1 : Int32)) dX3_fill_36 rfl ?_
        refine AW.iadd dX3_fill_37 ?_
        refine AW.put (k := 5) (w := ((σ16 8 0 5) + (1 : Int32))) (id0_8_0) rfl rfl inGX3 tyX3_ok nmX3 (Nat.le_of_ble_eq_true rfl) w_132 rfl rfl rfl rfl (Nat.le_of_ble_eq_true rfl) rfl dX3_fill_38 ?_
        obtain ⟨σ18, eσ18, h⟩ := h
        rw [← eσ18]
        exact AW.vret rfl dX3_fill_41 h
  · replace h := ite_f c h
    exact AW.vret rfl dX3_fill_12 h
def f_X3_fillN : Nat → Int32 → Int32 → Int32 → Int32 → Int32 → Mm → (Mm → Prop) → Prop
  | 0, _, _, _, _, _, _, _ => False
  | n + 1, a1, a2, a3, a4, a5, σ, K => f_X3_fill (f_X3_fillN n) a1 a2 a3 a4 a5 σ K
theorem C_X3_fillN {g : GG} : ∀ (n : Nat) (a1 a2 a3 a4 a5 : Int32) (σ : Mm) (K : Mm → Prop), f_X3_fillN n a1 a2 a3 a4 a5 σ K → Ct g 0 (M_X3_fill (4 + 2 * n)) (QV g 0 K) [.ref (gad g 8 0), .int a1, .int a2, .int a3, .int a4, .int a5] σ := by
  intro n
  induction n with
  | zero => intro a1 a2 a3 a4 a5 σ K h; exact False.elim h
  | succ n ih =>
    intro a1 a2 a3 a4 a5 σ K h
    exact C_X3_fill (d := 4 + 2 * n) (Nat.le_add_right _ _) ih h
def M_X3_fillT : MT := M_X3_fill (4 + 2 * 12)
def f_X3_fillT (a1 a2 a3 a4 a5 : Int32) (σ : Mm) (K : Mm → Prop) : Prop := f_X3_fillN 12 a1 a2 a3 a4 a5 σ K
theorem C_X3_fillT {g : GG} {a1 a2 a3 a4 a5 : Int32} {σ : Mm} {K : Mm → Prop} (h : f_X3_fillT a1 a2 a3 a4 a5 σ K) : Ct g 0 M_X3_fillT (QV g 0 K) [.ref (gad g 8 0), .int a1, .int a2, .int a3, .int a4, .int a5] σ := C_X3_fillN 12 a1 a2 a3 a4 a5 σ K h
theorem ok_X3_fillT : OkV M_X3_fillT 5 := ok_X3_fill _
def M_X3_countUpTo : MT := (yX3_countUpTo, cX3_countUpTo, 5, some .int, 29)
def f_X3_countUpTo (a1 : Int32) (i2 : Nat) (a3 : Int32) (σ : Mm) (K : Int32 → Mm → Prop) : Prop := (i2 < 17 ∧ (f_X0_clear 16 (σ 0 i2 0) (σ 0 i2 1) σ (fun σ1 => (vp_in (σ1 0 i2 0) 7 ∧ (∃ σ3, σ3 = mset σ1 8 0 3 (stF 0 ((σ1 0 i2 0).toNatClampNeg)) ∧ (f_X1_listsAtMost 0 (σ3 0 i2 0) σ3 (fun r5 σ4 => (∃ σ6, σ6 = mset σ4 8 0 4 r5 ∧ (∃ σ7, σ7 = mset σ6 8 0 5 (0 : Int32) ∧ (∃ σ8, σ8 = mset σ7 8 0 6 a1 ∧ (f_J6_bitCount_0f7a4 a3 σ8 (fun r10 σ9 => (if ((σ8 0 16 1) - r10) < 0 then (K (σ9 8 0 5) σ9) else (f_X3_weightOf a3 σ9 (fun r12 σ11 => (f_X3_fillT (0 : Int32) a3 ((σ8 0 16 1) - r10) (0 : Int32) r12 σ11 (fun σ13 => (K (σ13 8 0 5) σ13))))))))))))))))))
set_option maxRecDepth 100000 in
set_option maxHeartbeats 4000000 in
theorem C_X3_countUpTo {g : GG} {a1 : Int32} {i2 : Nat} {a3 : Int32} {σ : Mm} {K : Int32 → Mm → Prop} (h : f_X3_countUpTo a1 i2 a3 σ K) : Ct g 0 M_X3_countUpTo (QI g 0 K) [.ref (gad g 8 0), .int a1, .ref (gad g 0 i2), .int a3] σ := by
  unfold f_X3_countUpTo at h
  obtain ⟨hi2, h⟩ := h
  refine Ct.of (L := [(0, .ref (gad g 8 0)), (1, .int a1), (2, .ref (gad g 0 i2)), (3, .int a3)]) (show plainName RX3 = true by decide) (Nat.le_of_ble_eq_true rfl) rfl ?_
  refine AW.aload_n dX3_countUpTo_0 0 rfl ?_
  refine AW.get (k := 0) (v := .ref (gad g 0 16)) (id0_8_0) rfl rfl inGX3 (Nat.le_of_ble_eq_true rfl) w_126 rfl dX3_countUpTo_1 ?_
  refine AW.aload_n dX3_countUpTo_4 2 rfl ?_
  refine AW.get (k := 0) (v := .int (σ 0 i2 0)) (ids_in (Nat.le_of_ble_eq_true rfl) hi2) rfl rfl inGX0 (Nat.le_of_ble_eq_true rfl) w_69 rfl dX3_countUpTo_5 ?_
  refine AW.aload_n dX3_countUpTo_8 2 rfl ?_
  refine AW.get (k := 1) (v := .int (σ 0 i2 1)) (ids_in (Nat.le_of_ble_eq_true rfl) hi2) rfl rfl inGX0 (Nat.le_of_ble_eq_true rfl) w_73 rfl dX3_countUpTo_9 ?_
  refine AW.callVV [.int (σ 0 i2 0), .int (σ 0 i2 1)] (C_X0_clear h) ok_X0_clear (id0_0_16) rfl rfl w_481 rfl (Nat.le_of_ble_eq_true rfl) (Nat.le_of_ble_eq_true rfl) rfl dX3_countUpTo_12 (fun σ1 h => ?_)
  refine AW.aload_n dX3_countUpTo_15 0 rfl ?_
  refine AW.getsN (k := 0) (Nat.le_of_ble_eq_true rfl) (by decide) dX3_countUpTo_16 ?_
  refine AW.aload_n dX3_countUpTo_19 2 rfl ?_
  refine AW.get (k := 0) (v := .int (σ1 0 i2 0)) (ids_in (Nat.le_of_ble_eq_true rfl) hi2) rfl rfl inGX0 (Nat.le_of_ble_eq_true rfl) w_69 rfl dX3_countUpTo_20 ?_
  obtain ⟨hq2, h⟩ := h
  refine AW.stald (Nat.le_of_ble_eq_true rfl) hq2 dX3_countUpTo_23 ?_
  refine AW.put (k := 3) (w := (stF 0 ((σ1 0 i2 0).toNatClampNeg))) (id0_8_0) rfl rfl inGX3 tyX3_ok nmX3 (Nat.le_of_ble_eq_true rfl) w_130 rfl rfl rfl rfl (Nat.le_of_ble_eq_true rfl) rfl dX3_countUpTo_24 ?_
  obtain ⟨σ3, eσ3, h⟩ := h
  rw [← eσ3]
  refine AW.aload_n dX3_countUpTo_27 0 rfl ?_
  refine AW.aload_n dX3_countUpTo_28 0 rfl ?_
  refine AW.get (k := 1) (v := .ref (gad g 2 0)) (id0_8_0) rfl rfl inGX3 (Nat.le_of_ble_eq_true rfl) w_128 rfl dX3_countUpTo_29 ?_
  refine AW.aload_n dX3_countUpTo_32 2 rfl ?_
  refine AW.get (k := 0) (v := .int (σ3 0 i2 0)) (ids_in (Nat.le_of_ble_eq_true rfl) hi2) rfl rfl inGX0 (Nat.le_of_ble_eq_true rfl) w_69 rfl dX3_countUpTo_33 ?_
  refine AW.callVI [.int (σ3 0 i2 0)] (C_X1_listsAtMost h) ok_X1_listsAtMost (id0_2_0) rfl rfl w_483 rfl (Nat.le_of_ble_eq_true rfl) (Nat.le_of_ble_eq_true rfl) rfl dX3_countUpTo_36 (fun r5 σ4 h => ?_)
  refine AW.put (k := 4) (w := r5) (id0_8_0) rfl rfl inGX3 tyX3_ok nmX3 (Nat.le_of_ble_eq_true rfl) w_131 rfl rfl rfl rfl (Nat.le_of_ble_eq_true rfl) rfl dX3_countUpTo_39 ?_
  obtain ⟨σ6, eσ6, h⟩ := h
  rw [← eσ6]
  refine AW.aload_n dX3_countUpTo_42 0 rfl ?_
  refine AW.iconst (v := (0 : Int32)) dX3_countUpTo_43 rfl ?_
  refine AW.put (k := 5) (w := (0 : Int32)) (id0_8_0) rfl rfl inGX3 tyX3_ok nmX3 (Nat.le_of_ble_eq_true rfl) w_132 rfl rfl rfl rfl (Nat.le_of_ble_eq_true rfl) rfl dX3_countUpTo_44 ?_
  obtain ⟨σ7, eσ7, h⟩ := h
  rw [← eσ7]
  refine AW.aload_n dX3_countUpTo_47 0 rfl ?_
  refine AW.iload_n dX3_countUpTo_48 1 rfl ?_
  refine AW.put (k := 6) (w := a1) (id0_8_0) rfl rfl inGX3 tyX3_ok nmX3 (Nat.le_of_ble_eq_true rfl) w_133 rfl rfl rfl rfl (Nat.le_of_ble_eq_true rfl) rfl dX3_countUpTo_49 ?_
  obtain ⟨σ8, eσ8, h⟩ := h
  rw [← eσ8]
  refine AW.aload_n dX3_countUpTo_52 0 rfl ?_
  refine AW.get (k := 0) (v := .ref (gad g 0 16)) (id0_8_0) rfl rfl inGX3 (Nat.le_of_ble_eq_true rfl) w_126 rfl dX3_countUpTo_53 ?_
  refine AW.get (k := 1) (v := .int (σ8 0 16 1)) (id0_0_16) rfl rfl inGX0 (Nat.le_of_ble_eq_true rfl) w_73 rfl dX3_countUpTo_56 ?_
  refine AW.iload_n dX3_countUpTo_59 3 rfl ?_
  refine AW.callSI [.int a3] (C_J6_bitCount_0f7a4 h) ok_J6_bitCount_0f7a4 w_484 rfl (Nat.le_of_ble_eq_true rfl) (Nat.le_of_ble_eq_true rfl) rfl dX3_countUpTo_60 (fun r10 σ9 h => ?_)
  refine AW.isub dX3_countUpTo_63 ?_
  refine AW.istore (L' := [(0, .ref (gad g 8 0)), (1, .int a1), (2, .ref (gad g 0 i2)), (3, .int a3), (4, .int ((σ8 0 16 1) - r10))]) dX3_countUpTo_64 (Nat.le_of_ble_eq_true rfl) rfl ?_
  refine AW.iload dX3_countUpTo_66 4 rfl ?_
  refine AW.if_lt (tgt := 85) dX3_countUpTo_68 rfl (fun c => ?_) (fun c => ?_)
  · replace h := ite_t c h
    refine AW.aload_n dX3_countUpTo_85 0 rfl ?_
    refine AW.get (k := 5) (v := .int (σ9 8 0 5)) (id0_8_0) rfl rfl inGX3 (Nat.le_of_ble_eq_true rfl) w_132 rfl dX3_countUpTo_86 ?_
    exact AW.iret rfl dX3_countUpTo_89 h
  · replace h := ite_f c h
    refine AW.aload_n dX3_countUpTo_71 0 rfl ?_
    refine AW.iconst (v := (0 : Int32)) dX3_countUpTo_72 rfl ?_
    refine AW.iload_n dX3_countUpTo_73 3 rfl ?_
    refine AW.iload dX3_countUpTo_74 4 rfl ?_
    refine AW.iconst (v := (0 : Int32)) dX3_countUpTo_76 rfl ?_
    refine AW.aload_n dX3_countUpTo_77 0 rfl ?_
    refine AW.iload_n dX3_countUpTo_78 3 rfl ?_
    refine AW.callVI [.int a3] (C_X3_weightOf h) ok_X3_weightOf (id0_8_0) rfl rfl w_485 rfl (Nat.le_of_ble_eq_true rfl) (Nat.le_of_ble_eq_true rfl) rfl dX3_countUpTo_79 (fun r12 σ11 h => ?_)
    refine AW.callVV [.int (0 : Int32), .int a3, .int ((σ8 0 16 1) - r10), .int (0 : Int32), .int r12] (C_X3_fillT h) ok_X3_fillT (id0_8_0) rfl rfl w_490 rfl (Nat.le_of_ble_eq_true rfl) (Nat.le_of_ble_eq_true rfl) rfl dX3_countUpTo_82 (fun σ13 h => ?_)
    refine AW.aload_n dX3_countUpTo_85 0 rfl ?_
    refine AW.get (k := 5) (v := .int (σ13 8 0 5)) (id0_8_0) rfl rfl inGX3 (Nat.le_of_ble_eq_true rfl) w_132 rfl dX3_countUpTo_86 ?_
    exact AW.iret rfl dX3_countUpTo_89 h
theorem ok_X3_countUpTo : OkV M_X3_countUpTo 3 := ⟨w_478, w_479, w_6, w_480, by decide +kernel, (Nat.le_of_ble_eq_true rfl)⟩
