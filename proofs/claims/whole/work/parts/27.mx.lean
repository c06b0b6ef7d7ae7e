def M_X5_takeBench : MT := (yX5_takeBench, cX5_takeBench, 3, some .boolean, 6)
def f_X5_takeBench (a1 : Int32) (σ : Mm) (K : Bool → Mm → Prop) : Prop := (if (σ 5 2 2) < (5 : Int32) then (f_X5_step σ (fun σ1 => (f_X5_isWord 11 σ1 (fun b3 σ2 => (if b3 = true then (f_X5_step σ2 (fun σ4 => (f_X5_isNumber (1 : Int32) (8 : Int32) σ4 (fun b6 σ5 => (if b6 = true then (f_X2_addBench 2 a1 (σ5 11 0 6) σ5 (fun r8 σ7 => (f_X5_step σ7 (fun σ9 => (f_X5_isWord 12 σ9 (fun b11 σ10 => (if b11 = true then (f_X5_takeSitters r8 σ10 (fun b13 σ12 => (if b13 = true then (K true σ12) else (K false σ12)))) else (K true σ10)))))))) else (K false σ5)))))) else (K false σ2)))))) else (K false σ))
set_option maxRecDepth 100000 in
set_option maxHeartbeats 4000000 in
theorem C_X5_takeBench {g : GG} {a1 : Int32} {σ : Mm} {K : Bool → Mm → Prop} (h : f_X5_takeBench a1 σ K) : Ct g 0 M_X5_takeBench (QB g 0 K) [.ref (gad g 11 0), .int a1] σ := by
  unfold f_X5_takeBench at h
  refine Ct.of (L := [(0, .ref (gad g 11 0)), (1, .int a1)]) (show plainName RX5 = true by decide) (Nat.le_of_ble_eq_true rfl) rfl ?_
  refine AW.aload_n dX5_takeBench_0 0 rfl ?_
  refine AW.get (k := 1) (v := .ref (gad g 5 2)) (id0_11_0) rfl rfl inGX5 (Nat.le_of_ble_eq_true rfl) w_162 rfl dX5_takeBench_1 ?_
  refine AW.get (k := 2) (v := .int (σ 5 2 2)) (id0_5_2) rfl rfl inGX2 (Nat.le_of_ble_eq_true rfl) w_100 rfl dX5_takeBench_4 ?_
  refine AW.iconst (v := (5 : Int32)) dX5_takeBench_7 rfl ?_
  refine AW.icmp_lt (tgt := 13) dX5_takeBench_8 rfl (fun c => ?_) (fun c => ?_)
  · replace h := ite_t c h
    refine AW.aload_n dX5_takeBench_13 0 rfl ?_
    refine AW.callVV [] (C_X5_step h) ok_X5_step (id0_11_0) rfl rfl w_647 rfl (Nat.le_of_ble_eq_true rfl) (Nat.le_of_ble_eq_true rfl) rfl dX5_takeBench_14 (fun σ1 h => ?_)
    refine AW.aload_n dX5_takeBench_17 0 rfl ?_
    refine AW.ldcS (tx := "seats") (n := 11) dX5_takeBench_18 (by decide) ?_
    refine AW.callVB [.ref (gaK g 11)] (C_X5_isWord h) ok_X5_isWord (id0_11_0) rfl rfl w_663 rfl (Nat.le_of_ble_eq_true rfl) (Nat.le_of_ble_eq_true rfl) rfl dX5_takeBench_20 (fun b3 σ2 h => ?_)
    refine AW.ifb_ne (tgt := 28) dX5_takeBench_23 rfl (fun c => ?_) (fun c => ?_)
    · replace h := ite_t c h
      refine AW.aload_n dX5_takeBench_28 0 rfl ?_
      refine AW.callVV [] (C_X5_step h) ok_X5_step (id0_11_0) rfl rfl w_647 rfl (Nat.le_of_ble_eq_true rfl) (Nat.le_of_ble_eq_true rfl) rfl dX5_takeBench_29 (fun σ4 h => ?_)
      refine AW.aload_n dX5_takeBench_32 0 rfl ?_
      refine AW.iconst (v := (1 : Int32)) dX5_takeBench_33 rfl ?_
      refine AW.bipush (v := (8 : Int32)) dX5_takeBench_34 rfl ?_
      refine AW.callVB [.int (1 : Int32), .int (8 : Int32)] (C_X5_isNumber h) ok_X5_isNumber (id0_11_0) rfl rfl w_719 rfl (Nat.le_of_ble_eq_true rfl) (Nat.le_of_ble_eq_true rfl) rfl dX5_takeBench_36 (fun b6 σ5 h => ?_)
      refine AW.ifb_ne (tgt := 44) dX5_takeBench_39 rfl (fun c => ?_) (fun c => ?_)
      · replace h := ite_t c h
        refine AW.aload_n dX5_takeBench_44 0 rfl ?_
        refine AW.get (k := 1) (v := .ref (gad g 5 2)) (id0_11_0) rfl rfl inGX5 (Nat.le_of_ble_eq_true rfl) w_162 rfl dX5_takeBench_45 ?_
        refine AW.iload_n dX5_takeBench_48 1 rfl ?_
        refine AW.aload_n dX5_takeBench_49 0 rfl ?_
        refine AW.get (k := 6) (v := .int (σ5 11 0 6)) (id0_11_0) rfl rfl inGX5 (Nat.le_of_ble_eq_true rfl) w_167 rfl dX5_takeBench_50 ?_
        refine AW.callVI [.int a1, .int (σ5 11 0 6)] (C_X2_addBench h) ok_X2_addBench (id0_5_2) rfl rfl w_750 rfl (Nat.le_of_ble_eq_true rfl) (Nat.le_of_ble_eq_true rfl) rfl dX5_takeBench_53 (fun r8 σ7 h => ?_)
        refine AW.istore_n (L' := [(0, .ref (gad g 11 0)), (1, .int a1), (2, .int r8)]) dX5_takeBench_56 (Nat.le_of_ble_eq_true rfl) rfl ?_
        refine AW.aload_n dX5_takeBench_57 0 rfl ?_
        refine AW.callVV [] (C_X5_step h) ok_X5_step (id0_11_0) rfl rfl w_647 rfl (Nat.le_of_ble_eq_true rfl) (Nat.le_of_ble_eq_true rfl) rfl dX5_takeBench_58 (fun σ9 h => ?_)
        refine AW.aload_n dX5_takeBench_61 0 rfl ?_
        refine AW.ldcS (tx := "sits") (n := 12) dX5_takeBench_62 (by decide) ?_
        refine AW.callVB [.ref (gaK g 12)] (C_X5_isWord h) ok_X5_isWord (id0_11_0) rfl rfl w_663 rfl (Nat.le_of_ble_eq_true rfl) (Nat.le_of_ble_eq_true rfl) rfl dX5_takeBench_64 (fun b11 σ10 h => ?_)
        refine AW.ifb_eq (tgt := 78) dX5_takeBench_67 rfl (fun c => ?_) (fun c => ?_)
        · replace h := ite_f c h
          refine AW.iconst (v := (1 : Int32)) dX5_takeBench_78 rfl ?_
          refine AW.goto (tgt := 83) dX5_takeBench_79 rfl ?_
          exact AW.bret true rfl rfl dX5_takeBench_83 h
        · replace h := ite_t c h
          refine AW.aload_n dX5_takeBench_70 0 rfl ?_
          refine AW.iload_n dX5_takeBench_71 2 rfl ?_
          refine AW.callVB [.int r8] (C_X5_takeSitters h) ok_X5_takeSitters (id0_11_0) rfl rfl w_752 rfl (Nat.le_of_ble_eq_true rfl) (Nat.le_of_ble_eq_true rfl) rfl dX5_takeBench_72 (fun b13 σ12 h => ?_)
          refine AW.ifb_eq (tgt := 82) dX5_takeBench_75 rfl (fun c => ?_) (fun c => ?_)
          · replace h := ite_f c h
            refine AW.iconst (v := (0 : Int32)) dX5_takeBench_82 rfl ?_
            exact AW.bret false rfl rfl dX5_takeBench_83 h
          · replace h := ite_t c h
            refine AW.iconst (v := (1 : Int32)) dX5_takeBench_78 rfl ?_
            refine AW.goto (tgt := 83) dX5_takeBench_79 rfl ?_
            exact AW.bret true rfl rfl dX5_takeBench_83 h
      · replace h := ite_f c h
        refine AW.iconst (v := (0 : Int32)) dX5_takeBench_42 rfl ?_
        exact AW.bret false rfl rfl dX5_takeBench_43 h
    · replace h := ite_f c h
      refine AW.iconst (v := (0 : Int32)) dX5_takeBench_26 rfl ?_
      exact AW.bret false rfl rfl dX5_takeBench_27 h
  · replace h := ite_f c h
    refine AW.iconst (v := (0 : Int32)) dX5_takeBench_11 rfl ?_
    exact AW.bret false rfl rfl dX5_takeBench_12 h
theorem ok_X5_takeBench : OkV M_X5_takeBench 1 := ⟨w_747, wp_23, w_7, w_748, by decide +kernel, (Nat.le_of_ble_eq_true rfl)⟩
def M_X5_takeHeld : MT := (yX5_takeHeld, cX5_takeHeld, 1, some .boolean, 3)
def f_X5_takeHeld (σ : Mm) (K : Bool → Mm → Prop) : Prop := (f_X5_step σ (fun σ1 => (f_X5_isNumber (0 : Int32) (999 : Int32) σ1 (fun b3 σ2 => (if b3 = true then (∃ σ4, σ4 = mset σ2 2 2 3 (σ2 11 0 6) ∧ (f_X5_step σ4 (fun σ5 => (K true σ5)))) else (K false σ2))))))
set_option maxRecDepth 100000 in
set_option maxHeartbeats 4000000 in
theorem C_X5_takeHeld {g : GG} {σ : Mm} {K : Bool → Mm → Prop} (h : f_X5_takeHeld σ K) : Ct g 0 M_X5_takeHeld (QB g 0 K) [.ref (gad g 11 0)] σ := by
  unfold f_X5_takeHeld at h
  refine Ct.of (L := [(0, .ref (gad g 11 0))]) (show plainName RX5 = true by decide) (Nat.le_of_ble_eq_true rfl) rfl ?_
  refine AW.aload_n dX5_takeHeld_0 0 rfl ?_
  refine AW.callVV [] (C_X5_step h) ok_X5_step (id0_11_0) rfl rfl w_647 rfl (Nat.le_of_ble_eq_true rfl) (Nat.le_of_ble_eq_true rfl) rfl dX5_takeHeld_1 (fun σ1 h => ?_)
  refine AW.aload_n dX5_takeHeld_4 0 rfl ?_
  refine AW.iconst (v := (0 : Int32)) dX5_takeHeld_5 rfl ?_
  refine AW.sipush (v := (999 : Int32)) dX5_takeHeld_6 rfl ?_
  refine AW.callVB [.int (0 : Int32), .int (999 : Int32)] (C_X5_isNumber h) ok_X5_isNumber (id0_11_0) rfl rfl w_719 rfl (Nat.le_of_ble_eq_true rfl) (Nat.le_of_ble_eq_true rfl) rfl dX5_takeHeld_9 (fun b3 σ2 h => ?_)
  refine AW.ifb_ne (tgt := 17) dX5_takeHeld_12 rfl (fun c => ?_) (fun c => ?_)
  · replace h := ite_t c h
    refine AW.aload_n dX5_takeHeld_17 0 rfl ?_
    refine AW.get (k := 1) (v := .ref (gad g 5 2)) (id0_11_0) rfl rfl inGX5 (Nat.le_of_ble_eq_true rfl) w_162 rfl dX5_takeHeld_18 ?_
    refine AW.get (k := 0) (v := .ref (gad g 2 2)) (id0_5_2) rfl rfl inGX2 (Nat.le_of_ble_eq_true rfl) w_94 rfl dX5_takeHeld_21 ?_
    refine AW.aload_n dX5_takeHeld_24 0 rfl ?_
    refine AW.get (k := 6) (v := .int (σ2 11 0 6)) (id0_11_0) rfl rfl inGX5 (Nat.le_of_ble_eq_true rfl) w_167 rfl dX5_takeHeld_25 ?_
    refine AW.put (k := 3) (w := (σ2 11 0 6)) (id0_2_2) rfl rfl inGX1 tyX1_ok nmX1 (Nat.le_of_ble_eq_true rfl) w_49 rfl rfl rfl rfl (Nat.le_of_ble_eq_true rfl) rfl dX5_takeHeld_28 ?_
    obtain ⟨σ4, eσ4, h⟩ := h
    rw [← eσ4]
    refine AW.aload_n dX5_takeHeld_31 0 rfl ?_
    refine AW.callVV [] (C_X5_step h) ok_X5_step (id0_11_0) rfl rfl w_647 rfl (Nat.le_of_ble_eq_true rfl) (Nat.le_of_ble_eq_true rfl) rfl dX5_takeHeld_32 (fun σ5 h => ?_)
    refine AW.iconst (v := (1 : Int32)) dX5_takeHeld_35 rfl ?_
    exact AW.bret true rfl rfl dX5_takeHeld_36 h
  · replace h := ite_f c h
    refine AW.iconst (v := (0 : Int32)) dX5_takeHeld_15 rfl ?_
    exact AW.bret false rfl rfl dX5_takeHeld_16 h
theorem ok_X5_takeHeld : OkV M_X5_takeHeld 0 := ⟨w_733, wp_22, w_7, w_734, by decide +kernel, (Nat.le_of_ble_eq_true rfl)⟩
def M_X5_takeWeight : MT := (yX5_takeWeight, cX5_takeWeight, 2, some .boolean, 3)
def f_X5_takeWeight (σ : Mm) (K : Bool → Mm → Prop) : Prop := (f_X5_step σ (fun σ1 => (f_X5_isNumber (0 : Int32) (7 : Int32) σ1 (fun b3 σ2 => (if b3 = true then (f_X5_step σ2 (fun σ4 => (f_X5_isNumber (1 : Int32) (99 : Int32) σ4 (fun b6 σ5 => (if b6 = true then (vp_in (σ2 11 0 6) 8 ∧ (∃ σ8, σ8 = mset σ5 4 2 ((σ2 11 0 6).toNatClampNeg) (σ5 11 0 6) ∧ (f_X5_step σ8 (fun σ9 => (K true σ9))))) else (K false σ5)))))) else (K false σ2))))))
set_option maxRecDepth 100000 in
set_option maxHeartbeats 4000000 in
theorem C_X5_takeWeight {g : GG} {σ : Mm} {K : Bool → Mm → Prop} (h : f_X5_takeWeight σ K) : Ct g 0 M_X5_takeWeight (QB g 0 K) [.ref (gad g 11 0)] σ := by
  unfold f_X5_takeWeight at h
  refine Ct.of (L := [(0, .ref (gad g 11 0))]) (show plainName RX5 = true by decide) (Nat.le_of_ble_eq_true rfl) rfl ?_
  refine AW.aload_n dX5_takeWeight_0 0 rfl ?_
  refine AW.callVV [] (C_X5_step h) ok_X5_step (id0_11_0) rfl rfl w_647 rfl (Nat.le_of_ble_eq_true rfl) (Nat.le_of_ble_eq_true rfl) rfl dX5_takeWeight_1 (fun σ1 h => ?_)
  refine AW.aload_n dX5_takeWeight_4 0 rfl ?_
  refine AW.iconst (v := (0 : Int32)) dX5_takeWeight_5 rfl ?_
  refine AW.bipush (v := (7 : Int32)) dX5_takeWeight_6 rfl ?_
  refine AW.callVB [.int (0 : Int32), .int (7 : Int32)] (C_X5_isNumber h) ok_X5_isNumber (id0_11_0) rfl rfl w_719 rfl (Nat.le_of_ble_eq_true rfl) (Nat.le_of_ble_eq_true rfl) rfl dX5_takeWeight_8 (fun b3 σ2 h => ?_)
  refine AW.ifb_ne (tgt := 16) dX5_takeWeight_11 rfl (fun c => ?_) (fun c => ?_)
  · replace h := ite_t c h
    refine AW.aload_n dX5_takeWeight_16 0 rfl ?_
    refine AW.get (k := 6) (v := .int (σ2 11 0 6)) (id0_11_0) rfl rfl inGX5 (Nat.le_of_ble_eq_true rfl) w_167 rfl dX5_takeWeight_17 ?_
    refine AW.istore_n (L' := [(0, .ref (gad g 11 0)), (1, .int (σ2 11 0 6))]) dX5_takeWeight_20 (Nat.le_of_ble_eq_true rfl) rfl ?_
    refine AW.aload_n dX5_takeWeight_21 0 rfl ?_
    refine AW.callVV [] (C_X5_step h) ok_X5_step (id0_11_0) rfl rfl w_647 rfl (Nat.le_of_ble_eq_true rfl) (Nat.le_of_ble_eq_true rfl) rfl dX5_takeWeight_22 (fun σ4 h => ?_)
    refine AW.aload_n dX5_takeWeight_25 0 rfl ?_
    refine AW.iconst (v := (1 : Int32)) dX5_takeWeight_26 rfl ?_
    refine AW.bipush (v := (99 : Int32)) dX5_takeWeight_27 rfl ?_
    refine AW.callVB [.int (1 : Int32), .int (99 : Int32)] (C_X5_isNumber h) ok_X5_isNumber (id0_11_0) rfl rfl w_719 rfl (Nat.le_of_ble_eq_true rfl) (Nat.le_of_ble_eq_true rfl) rfl dX5_takeWeight_29 (fun b6 σ5 h => ?_)
    refine AW.ifb_ne (tgt := 37) dX5_takeWeight_32 rfl (fun c => ?_) (fun c => ?_)
    · replace h := ite_t c h
      refine AW.aload_n dX5_takeWeight_37 0 rfl ?_
      refine AW.get (k := 1) (v := .ref (gad g 5 2)) (id0_11_0) rfl rfl inGX5 (Nat.le_of_ble_eq_true rfl) w_162 rfl dX5_takeWeight_38 ?_
      refine AW.get (k := 0) (v := .ref (gad g 2 2)) (id0_5_2) rfl rfl inGX2 (Nat.le_of_ble_eq_true rfl) w_94 rfl dX5_takeWeight_41 ?_
      refine AW.get (k := 1) (v := .ref (gad g 4 2)) (id0_2_2) rfl rfl inGX1 (Nat.le_of_ble_eq_true rfl) w_44 rfl dX5_takeWeight_44 ?_
      refine AW.iload_n dX5_takeWeight_47 1 rfl ?_
      refine AW.aload_n dX5_takeWeight_48 0 rfl ?_
      refine AW.get (k := 6) (v := .int (σ5 11 0 6)) (id0_11_0) rfl rfl inGX5 (Nat.le_of_ble_eq_true rfl) w_167 rfl dX5_takeWeight_49 ?_
      obtain ⟨hq7, h⟩ := h
      refine AW.iast (jn := ((σ2 11 0 6).toNatClampNeg)) (id0_4_2) (fun _ => rfl) hq7 rfl dX5_takeWeight_52 ?_
      obtain ⟨σ8, eσ8, h⟩ := h
      rw [← eσ8]
      refine AW.aload_n dX5_takeWeight_53 0 rfl ?_
      refine AW.callVV [] (C_X5_step h) ok_X5_step (id0_11_0) rfl rfl w_647 rfl (Nat.le_of_ble_eq_true rfl) (Nat.le_of_ble_eq_true rfl) rfl dX5_takeWeight_54 (fun σ9 h => ?_)
      refine AW.iconst (v := (1 : Int32)) dX5_takeWeight_57 rfl ?_
      exact AW.bret true rfl rfl dX5_takeWeight_58 h
    · replace h := ite_f c h
      refine AW.iconst (v := (0 : Int32)) dX5_takeWeight_35 rfl ?_
      exact AW.bret false rfl rfl dX5_takeWeight_36 h
  · replace h := ite_f c h
    refine AW.iconst (v := (0 : Int32)) dX5_takeWeight_14 rfl ?_
    exact AW.bret false rfl rfl dX5_takeWeight_15 h
theorem ok_X5_takeWeight : OkV M_X5_takeWeight 0 := ⟨w_728, wp_21, w_7, w_729, by decide +kernel, (Nat.le_of_ble_eq_true rfl)⟩
def M_X5_takeBond : MT := (yX5_takeBond, cX5_takeBond, 3, some .boolean, 3)
def f_X5_takeBond (a1 : Int32) (σ : Mm) (K : Bool → Mm → Prop) : Prop := (f_X5_step σ (fun σ1 => (f_X5_isNumber (0 : Int32) (7 : Int32) σ1 (fun b3 σ2 => (if b3 = true then (f_X5_step σ2 (fun σ4 => (f_X5_isNumber (0 : Int32) (7 : Int32) σ4 (fun b6 σ5 => (if b6 = true then (if (σ5 11 0 6) = (σ2 11 0 6) then (K false σ5) else (f_X1_tie 2 (σ2 11 0 6) (σ5 11 0 6) a1 σ5 (fun σ7 => (f_X5_step σ7 (fun σ8 => (K true σ8)))))) else (K false σ5)))))) else (K false σ2))))))
set_option maxRecDepth 100000 in
set_option maxHeartbeats 4000000 in
theorem C_X5_takeBond {g : GG} {a1 : Int32} {σ : Mm} {K : Bool → Mm → Prop} (h : f_X5_takeBond a1 σ K) : Ct g 0 M_X5_takeBond (QB g 0 K) [.ref (gad g 11 0), .int a1] σ := by
  unfold f_X5_takeBond at h
  refine Ct.of (L := [(0, .ref (gad g 11 0)), (1, .int a1)]) (show plainName RX5 = true by decide) (Nat.le_of_ble_eq_true rfl) rfl ?_
  refine AW.aload_n dX5_takeBond_0 0 rfl ?_
  refine AW.callVV [] (C_X5_step h) ok_X5_step (id0_11_0) rfl rfl w_647 rfl (Nat.le_of_ble_eq_true rfl) (Nat.le_of_ble_eq_true rfl) rfl dX5_takeBond_1 (fun σ1 h => ?_)
  refine AW.aload_n dX5_takeBond_4 0 rfl ?_
  refine AW.iconst (v := (0 : Int32)) dX5_takeBond_5 rfl ?_
  refine AW.bipush (v := (7 : Int32)) dX5_takeBond_6 rfl ?_
  refine AW.callVB [.int (0 : Int32), .int (7 : Int32)] (C_X5_isNumber h) ok_X5_isNumber (id0_11_0) rfl rfl w_719 rfl (Nat.le_of_ble_eq_true rfl) (Nat.le_of_ble_eq_true rfl) rfl dX5_takeBond_8 (fun b3 σ2 h => ?_)
  refine AW.ifb_ne (tgt := 16) dX5_takeBond_11 rfl (fun c => ?_) (fun c => ?_)
  · replace h := ite_t c h
    refine AW.aload_n dX5_takeBond_16 0 rfl ?_
    refine AW.get (k := 6) (v := .int (σ2 11 0 6)) (id0_11_0) rfl rfl inGX5 (Nat.le_of_ble_eq_true rfl) w_167 rfl dX5_takeBond_17 ?_
    refine AW.istore_n (L' := [(0, .ref (gad g 11 0)), (1, .int a1), (2, .int (σ2 11 0 6))]) dX5_takeBond_20 (Nat.le_of_ble_eq_true rfl) rfl ?_
    refine AW.aload_n dX5_takeBond_21 0 rfl ?_
    refine AW.callVV [] (C_X5_step h) ok_X5_step (id0_11_0) rfl rfl w_647 rfl (Nat.le_of_ble_eq_true rfl) (Nat.le_of_ble_eq_true rfl) rfl dX5_takeBond_22 (fun σ4 h => ?_)
    refine AW.aload_n dX5_takeBond_25 0 rfl ?_
    refine AW.iconst (v := (0 : Int32)) dX5_takeBond_26 rfl ?_
    refine AW.bipush (v := (7 : Int32)) dX5_takeBond_27 rfl ?_
    refine AW.callVB [.int (0 : Int32), .int (7 : Int32)] (C_X5_isNumber h) ok_X5_isNumber (id0_11_0) rfl rfl w_719 rfl (Nat.le_of_ble_eq_true rfl) (Nat.le_of_ble_eq_true rfl) rfl dX5_takeBond_29 (fun b6 σ5 h => ?_)
    refine AW.ifb_eq (tgt := 43) dX5_takeBond_32 rfl (fun c => ?_) (fun c => ?_)
    · replace h := ite_f c h
      refine AW.iconst (v := (0 : Int32)) dX5_takeBond_43 rfl ?_
      exact AW.bret false rfl rfl dX5_takeBond_44 h
    · replace h := ite_t c h
      refine AW.aload_n dX5_takeBond_35 0 rfl ?_
      refine AW.get (k := 6) (v := .int (σ5 11 0 6)) (id0_11_0) rfl rfl inGX5 (Nat.le_of_ble_eq_true rfl) w_167 rfl dX5_takeBond_36 ?_
      refine AW.iload_n dX5_takeBond_39 2 rfl ?_
      refine AW.icmp_ne (tgt := 45) dX5_takeBond_40 rfl (fun c => ?_) (fun c => ?_)
      · replace h := ite_f c h
        refine AW.aload_n dX5_takeBond_45 0 rfl ?_
        refine AW.get (k := 1) (v := .ref (gad g 5 2)) (id0_11_0) rfl rfl inGX5 (Nat.le_of_ble_eq_true rfl) w_162 rfl dX5_takeBond_46 ?_
        refine AW.get (k := 0) (v := .ref (gad g 2 2)) (id0_5_2) rfl rfl inGX2 (Nat.le_of_ble_eq_true rfl) w_94 rfl dX5_takeBond_49 ?_
        refine AW.iload_n dX5_takeBond_52 2 rfl ?_
        refine AW.aload_n dX5_takeBond_53 0 rfl ?_
        refine AW.get (k := 6) (v := .int (σ5 11 0 6)) (id0_11_0) rfl rfl inGX5 (Nat.le_of_ble_eq_true rfl) w_167 rfl dX5_takeBond_54 ?_
        refine AW.iload_n dX5_takeBond_57 1 rfl ?_
        refine AW.callVV [.int (σ2 11 0 6), .int (σ5 11 0 6), .int a1] (C_X1_tie h) ok_X1_tie (id0_2_2) rfl rfl w_723 rfl (Nat.le_of_ble_eq_true rfl) (Nat.le_of_ble_eq_true rfl) rfl dX5_takeBond_58 (fun σ7 h => ?_)
        refine AW.aload_n dX5_takeBond_61 0 rfl ?_
        refine AW.callVV [] (C_X5_step h) ok_X5_step (id0_11_0) rfl rfl w_647 rfl (Nat.le_of_ble_eq_true rfl) (Nat.le_of_ble_eq_true rfl) rfl dX5_takeBond_62 (fun σ8 h => ?_)
        refine AW.iconst (v := (1 : Int32)) dX5_takeBond_65 rfl ?_
        exact AW.bret true rfl rfl dX5_takeBond_66 h
      · replace h := ite_t c h
        refine AW.iconst (v := (0 : Int32)) dX5_takeBond_43 rfl ?_
        exact AW.bret false rfl rfl dX5_takeBond_44 h
  · replace h := ite_f c h
    refine AW.iconst (v := (0 : Int32)) dX5_takeBond_14 rfl ?_
    exact AW.bret false rfl rfl dX5_takeBond_15 h
theorem ok_X5_takeBond : OkV M_X5_takeBond 1 := ⟨w_717, wp_19, w_7, w_718, by decide +kernel, (Nat.le_of_ble_eq_true rfl)⟩
def M_X5_takeItem : MT := (yX5_takeItem, cX5_takeItem, 2, some .boolean, 7)
set_option maxRecDepth 100000 in
def f_X5_takeItem_60 (K : Bool → Mm → Prop) : Nat → Int32 → Mm → Prop
  | 0, _, _ => False
  | n + 1, a1, σ => (if (7 : Int32) ≤ a1 then (K false σ) else (f_X5_wordOf a1 σ (fun n10 σ9 => (f_X5_isWord n10 σ9 (fun b13 σ12 => (if b13 = true then (f_X5_takeBench a1 σ12 (fun b15 σ14 => (K b15 σ14))) else (f_X5_takeItem_60 K n (a1 + (1 : Int32)) σ12)))))))
set_option maxRecDepth 100000 in
set_option maxHeartbeats 4000000 in
theorem T_X5_takeItem_60 {g : GG} {K : Bool → Mm → Prop} : ∀ (n : Nat) (a1 : Int32) (σ : Mm), f_X5_takeItem_60 K n a1 σ → AW g 0 M_X5_takeItem (QB g 0 K) 60 [(0, .ref (gad g 11 0)), (1, .int a1)] [] σ := by
  intro n
  induction n with
  | zero => intro a1 σ h; exact False.elim h
  | succ n ih =>
    intro a1 σ h
    rw [f_X5_takeItem_60] at h
    refine AW.iload_n dX5_takeItem_60 1 rfl ?_
    refine AW.bipush (v := (7 : Int32)) dX5_takeItem_61 rfl ?_
    refine AW.icmp_ge (tgt := 89) dX5_takeItem_63 rfl (fun c => ?_) (fun c => ?_)
    · replace h := ite_t c h
      refine AW.iconst (v := (0 : Int32)) dX5_takeItem_89 rfl ?_
      exact AW.bret false rfl rfl dX5_takeItem_90 h
    · replace h := ite_f c h
      refine AW.aload_n dX5_takeItem_66 0 rfl ?_
      refine AW.iload_n dX5_takeItem_67 1 rfl ?_
      refine AW.callSS [.int a1] (C_X5_wordOf h) ok_X5_wordOf w_735 rfl (Nat.le_of_ble_eq_true rfl) (Nat.le_of_ble_eq_true rfl) rfl dX5_takeItem_68 (fun n10 σ9 hv11 h => ?_)
      refine AW.callVB [.ref (gaK g n10)] (C_X5_isWord h) ok_X5_isWord (id0_11_0) rfl rfl w_663 rfl (Nat.le_of_ble_eq_true rfl) (Nat.le_of_ble_eq_true rfl) rfl dX5_takeItem_71 (fun b13 σ12 h => ?_)
      refine AW.ifb_eq (tgt := 83) dX5_takeItem_74 rfl (fun c => ?_) (fun c => ?_)
      · replace h := ite_f c h
        refine AW.iinc (v := (a1 + (1 : Int32))) (L' := [(0, .ref (gad g 11 0)), (1, .int (a1 + (1 : Int32)))]) dX5_takeItem_83 1 rfl rfl (Nat.le_of_ble_eq_true rfl) rfl ?_
        refine AW.goto (tgt := 60) dX5_takeItem_86 rfl ?_
        exact ih _ _ h
      · replace h := ite_t c h
        refine AW.aload_n dX5_takeItem_77 0 rfl ?_
        refine AW.iload_n dX5_takeItem_78 1 rfl ?_
        refine AW.callVB [.int a1] (C_X5_takeBench h) ok_X5_takeBench (id0_11_0) rfl rfl w_745 rfl (Nat.le_of_ble_eq_true rfl) (Nat.le_of_ble_eq_true rfl) rfl dX5_takeItem_79 (fun b15 σ14 h => ?_)
        exact AW.bret b15 rfl rfl dX5_takeItem_82 h
def f_X5_takeItem (σ : Mm) (K : Bool → Mm → Prop) : Prop := (f_X5_isWord 0 σ (fun b2 σ1 => (if b2 = true then (f_X5_takeBond (1 : Int32) σ1 (fun b23 σ22 => (K b23 σ22))) else (f_X5_isWord 1 σ1 (fun b4 σ3 => (if b4 = true then (f_X5_takeBond (2 : Int32) σ3 (fun b21 σ20 => (K b21 σ20))) else (f_X5_isWord 2 σ3 (fun b6 σ5 => (if b6 = true then (f_X5_takeWeight σ5 (fun b19 σ18 => (K b19 σ18))) else (f_X5_isWord 3 σ5 (fun b8 σ7 => (if b8 = true then (f_X5_takeHeld σ7 (fun b17 σ16 => (K b17 σ16))) else (∃ m, f_X5_takeItem_60 K m (0 : Int32) σ7)))))))))))))
set_option maxRecDepth 100000 in
set_option maxHeartbeats 4000000 in
theorem C_X5_takeItem {g : GG} {σ : Mm} {K : Bool → Mm → Prop} (h : f_X5_takeItem σ K) : Ct g 0 M_X5_takeItem (QB g 0 K) [.ref (gad g 11 0)] σ := by
  unfold f_X5_takeItem at h
  refine Ct.of (L := [(0, .ref (gad g 11 0))]) (show plainName RX5 = true by decide) (Nat.le_of_ble_eq_true rfl) rfl ?_
  refine AW.aload_n dX5_takeItem_0 0 rfl ?_
  refine AW.ldcS (tx := "friends") (n := 0) dX5_takeItem_1 (by decide) ?_
  refine AW.callVB [.ref (gaK g 0)] (C_X5_isWord h) ok_X5_isWord (id0_11_0) rfl rfl w_663 rfl (Nat.le_of_ble_eq_true rfl) (Nat.le_of_ble_eq_true rfl) rfl dX5_takeItem_3 (fun b2 σ1 h => ?_)
  refine AW.ifb_eq (tgt := 15) dX5_takeItem_6 rfl (fun c => ?_) (fun c => ?_)
  · replace h := ite_f c h
    refine AW.aload_n dX5_takeItem_15 0 rfl ?_
    refine AW.ldcS (tx := "secret") (n := 1) dX5_takeItem_16 (by decide) ?_
    refine AW.callVB [.ref (gaK g 1)] (C_X5_isWord h) ok_X5_isWord (id0_11_0) rfl rfl w_663 rfl (Nat.le_of_ble_eq_true rfl) (Nat.le_of_ble_eq_true rfl) rfl dX5_takeItem_18 (fun b4 σ3 h => ?_)
    refine AW.ifb_eq (tgt := 30) dX5_takeItem_21 rfl (fun c => ?_) (fun c => ?_)
    · replace h := ite_f c h
      refine AW.aload_n dX5_takeItem_30 0 rfl ?_
      refine AW.ldcS (tx := "weight") (n := 2) dX5_takeItem_31 (by decide) ?_
      refine AW.callVB [.ref (gaK g 2)] (C_X5_isWord h) ok_X5_isWord (id0_11_0) rfl rfl w_663 rfl (Nat.le_of_ble_eq_true rfl) (Nat.le_of_ble_eq_true rfl) rfl dX5_takeItem_33 (fun b6 σ5 h => ?_)
      refine AW.ifb_eq (tgt := 44) dX5_takeItem_36 rfl (fun c => ?_) (fun c => ?_)
      · replace h := ite_f c h
        refine AW.aload_n dX5_takeItem_44 0 rfl ?_
        refine AW.ldcS (tx := "held") (n := 3) dX5_takeItem_45 (by decide) ?_
        refine AW.callVB [.ref (gaK g 3)] (C_X5_isWord h) ok_X5_isWord (id0_11_0) rfl rfl w_663 rfl (Nat.le_of_ble_eq_true rfl) (Nat.le_of_ble_eq_true rfl) rfl dX5_takeItem_47 (fun b8 σ7 h => ?_)
        refine AW.ifb_eq (tgt := 58) dX5_takeItem_50 rfl (fun c => ?_) (fun c => ?_)
        · replace h := ite_f c h
          refine AW.iconst (v := (0 : Int32)) dX5_takeItem_58 rfl ?_
          refine AW.istore_n (L' := [(0, .ref (gad g 11 0)), (1, .int (0 : Int32))]) dX5_takeItem_59 (Nat.le_of_ble_eq_true rfl) rfl ?_
          obtain ⟨m, h⟩ := h
          refine T_X5_takeItem_60 m _ _ h
        · replace h := ite_t c h
          refine AW.aload_n dX5_takeItem_53 0 rfl ?_
          refine AW.callVB [] (C_X5_takeHeld h) ok_X5_takeHeld (id0_11_0) rfl rfl w_731 rfl (Nat.le_of_ble_eq_true rfl) (Nat.le_of_ble_eq_true rfl) rfl dX5_takeItem_54 (fun b17 σ16 h => ?_)
          exact AW.bret b17 rfl rfl dX5_takeItem_57 h
      · replace h := ite_t c h
        refine AW.aload_n dX5_takeItem_39 0 rfl ?_
        refine AW.callVB [] (C_X5_takeWeight h) ok_X5_takeWeight (id0_11_0) rfl rfl w_726 rfl (Nat.le_of_ble_eq_true rfl) (Nat.le_of_ble_eq_true rfl) rfl dX5_takeItem_40 (fun b19 σ18 h => ?_)
        exact AW.bret b19 rfl rfl dX5_takeItem_43 h
    · replace h := ite_t c h
      refine AW.aload_n dX5_takeItem_24 0 rfl ?_
      refine AW.iconst (v := (2 : Int32)) dX5_takeItem_25 rfl ?_
      refine AW.callVB [.int (2 : Int32)] (C_X5_takeBond h) ok_X5_takeBond (id0_11_0) rfl rfl w_715 rfl (Nat.le_of_ble_eq_true rfl) (Nat.le_of_ble_eq_true rfl) rfl dX5_takeItem_26 (fun b21 σ20 h => ?_)
      exact AW.bret b21 rfl rfl dX5_takeItem_29 h
  · replace h := ite_t c h
    refine AW.aload_n dX5_takeItem_9 0 rfl ?_
    refine AW.iconst (v := (1 : Int32)) dX5_takeItem_10 rfl ?_
    refine AW.callVB [.int (1 : Int32)] (C_X5_takeBond h) ok_X5_takeBond (id0_11_0) rfl rfl w_715 rfl (Nat.le_of_ble_eq_true rfl) (Nat.le_of_ble_eq_true rfl) rfl dX5_takeItem_11 (fun b23 σ22 h => ?_)
    exact AW.bret b23 rfl rfl dX5_takeItem_14 h
theorem ok_X5_takeItem : OkV M_X5_takeItem 0 := ⟨w_660, wp_17, w_7, w_661, by decide +kernel, (Nat.le_of_ble_eq_true rfl)⟩
def M_X5_take : MT := (yX5_take, cX5_take, 3, some .int, 8)
set_option maxRecDepth 100000 in
def f_X5_take_12 (K : Int32 → Mm → Prop) : Nat → Int32 → Mm → Prop
  | 0, _, _ => False
  | n + 1, a2, σ => (if (120 : Int32) < a2 then (K ((-1 : Int32) - (σ 11 0 4)) σ) else (f_X5_step σ (fun σ3 => (f_X5_takeItem σ3 (fun b5 σ4 => (if b5 = true then (if (σ4 11 0 3) = 0 then (K a2 σ4) else (if (σ4 11 0 3) = (3 : Int32) then (f_X5_take_12 K n (a2 + (1 : Int32)) σ4) else (K ((-1 : Int32) - (σ4 11 0 4)) σ4))) else (K ((-1 : Int32) - (σ4 11 0 4)) σ4)))))))
set_option maxRecDepth 100000 in
set_option maxHeartbeats 4000000 in
theorem T_X5_take_12 {g : GG} {K : Int32 → Mm → Prop} : ∀ (n : Nat) (a2 : Int32) (σ : Mm), f_X5_take_12 K n a2 σ → AW g 0 M_X5_take (QI g 0 K) 12 [(0, .ref (gad g 11 0)), (2, .int a2)] [] σ := by
  intro n
  induction n with
  | zero => intro a2 σ h; exact False.elim h
  | succ n ih =>
    intro a2 σ h
    rw [f_X5_take_12] at h
    refine AW.iload_n dX5_take_12 1 rfl ?_
    refine AW.bipush (v := (120 : Int32)) dX5_take_13 rfl ?_
    refine AW.icmp_gt (tgt := 66) dX5_take_15 rfl (fun c => ?_) (fun c => ?_)
    · replace h := ite_t c h
      refine AW.iconst (v := (-1 : Int32)) dX5_take_66 rfl ?_
      refine AW.aload_n dX5_take_67 0 rfl ?_
      refine AW.get (k := 4) (v := .int (σ 11 0 4)) (id0_11_0) rfl rfl inGX5 (Nat.le_of_ble_eq_true rfl) w_165 rfl dX5_take_68 ?_
      refine AW.isub dX5_take_71 ?_
      exact AW.iret rfl dX5_take_72 h
    · replace h := ite_f c h
      refine AW.aload_n dX5_take_18 0 rfl ?_
      refine AW.callVV [] (C_X5_step h) ok_X5_step (id0_11_0) rfl rfl w_647 rfl (Nat.le_of_ble_eq_true rfl) (Nat.le_of_ble_eq_true rfl) rfl dX5_take_19 (fun σ3 h => ?_)
      refine AW.aload_n dX5_take_22 0 rfl ?_
      refine AW.callVB [] (C_X5_takeItem h) ok_X5_takeItem (id0_11_0) rfl rfl w_658 rfl (Nat.le_of_ble_eq_true rfl) (Nat.le_of_ble_eq_true rfl) rfl dX5_take_23 (fun b5 σ4 h => ?_)
      refine AW.ifb_ne (tgt := 36) dX5_take_26 rfl (fun c => ?_) (fun c => ?_)
      · replace h := ite_t c h
        refine AW.aload_n dX5_take_36 0 rfl ?_
        refine AW.get (k := 3) (v := .int (σ4 11 0 3)) (id0_11_0) rfl rfl inGX5 (Nat.le_of_ble_eq_true rfl) w_164 rfl dX5_take_37 ?_
        refine AW.if_ne (tgt := 45) dX5_take_40 rfl (fun c => ?_) (fun c => ?_)
        · replace h := ite_f c h
          refine AW.aload_n dX5_take_45 0 rfl ?_
          refine AW.get (k := 3) (v := .int (σ4 11 0 3)) (id0_11_0) rfl rfl inGX5 (Nat.le_of_ble_eq_true rfl) w_164 rfl dX5_take_46 ?_
          refine AW.iconst (v := (3 : Int32)) dX5_take_49 rfl ?_
          refine AW.icmp_eq (tgt := 60) dX5_take_50 rfl (fun c => ?_) (fun c => ?_)
          · replace h := ite_t c h
            refine AW.iinc (v := (a2 + (1 : Int32))) (L' := [(0, .ref (gad g 11 0)), (2, .int (a2 + (1 : Int32)))]) dX5_take_60 1 rfl rfl (Nat.le_of_ble_eq_true rfl) rfl ?_
            refine AW.goto (tgt := 12) dX5_take_63 rfl ?_
            exact ih _ _ h
          · replace h := ite_f c h
            refine AW.iconst (v := (-1 : Int32)) dX5_take_53 rfl ?_
            refine AW.aload_n dX5_take_54 0 rfl ?_
            refine AW.get (k := 4) (v := .int (σ4 11 0 4)) (id0_11_0) rfl rfl inGX5 (Nat.le_of_ble_eq_true rfl) w_165 rfl dX5_take_55 ?_
            refine AW.isub dX5_take_58 ?_
            exact AW.iret rfl dX5_take_59 h
        · replace h := ite_t c h
          refine AW.iload_n dX5_take_43 1 rfl ?_
          exact AW.iret rfl dX5_take_44 h
      · replace h := ite_f c h
        refine AW.iconst (v := (-1 : Int32)) dX5_take_29 rfl ?_
        refine AW.aload_n dX5_take_30 0 rfl ?_
        refine AW.get (k := 4) (v := .int (σ4 11 0 4)) (id0_11_0) rfl rfl inGX5 (Nat.le_of_ble_eq_true rfl) w_165 rfl dX5_take_31 ?_
        refine AW.isub dX5_take_34 ?_
        exact AW.iret rfl dX5_take_35 h
def f_X5_take (a1 : Int32) (σ : Mm) (K : Int32 → Mm → Prop) : Prop := (∃ σ1, σ1 = mset σ 11 0 2 a1 ∧ (∃ σ2, σ2 = mset σ1 11 0 5 (0 : Int32) ∧ (∃ m, f_X5_take_12 K m (1 : Int32) σ2)))
set_option maxRecDepth 100000 in
set_option maxHeartbeats 4000000 in
theorem C_X5_take {g : GG} {a1 : Int32} {σ : Mm} {K : Int32 → Mm → Prop} (h : f_X5_take a1 σ K) : Ct g 0 M_X5_take (QI g 0 K) [.ref (gad g 11 0), .int a1] σ := by
  unfold f_X5_take at h
  refine Ct.of (L := [(0, .ref (gad g 11 0)), (1, .int a1)]) (show plainName RX5 = true by decide) (Nat.le_of_ble_eq_true rfl) rfl ?_
  refine AW.aload_n dX5_take_0 0 rfl ?_
  refine AW.iload_n dX5_take_1 1 rfl ?_
  refine AW.put (k := 2) (w := a1) (id0_11_0) rfl rfl inGX5 tyX5_ok nmX5 (Nat.le_of_ble_eq_true rfl) w_163 rfl rfl rfl rfl (Nat.le_of_ble_eq_true rfl) rfl dX5_take_2 ?_
  obtain ⟨σ1, eσ1, h⟩ := h
  rw [← eσ1]
  refine AW.aload_n dX5_take_5 0 rfl ?_
  refine AW.iconst (v := (0 : Int32)) dX5_take_6 rfl ?_
  refine AW.put (k := 5) (w := (0 : Int32)) (id0_11_0) rfl rfl inGX5 tyX5_ok nmX5 (Nat.le_of_ble_eq_true rfl) w_166 rfl rfl rfl rfl (Nat.le_of_ble_eq_true rfl) rfl dX5_take_7 ?_
  obtain ⟨σ2, eσ2, h⟩ := h
  rw [← eσ2]
  refine AW.iconst (v := (1 : Int32)) dX5_take_10 rfl ?_
  refine AW.istore_n (L' := [(0, .ref (gad g 11 0)), (1, .int a1), (2, .int (1 : Int32))]) dX5_take_11 (Nat.le_of_ble_eq_true rfl) rfl ?_
  obtain ⟨m, h⟩ := h
  refine AW.eqL [0, 2] rfl ?_
  refine T_X5_take_12 m _ _ h
theorem ok_X5_take : OkV M_X5_take 1 := ⟨w_644, w_645, w_7, w_646, by decide +kernel, (Nat.le_of_ble_eq_true rfl)⟩
def M_X6_text : MT := (yX6_text, cX6_text, 2, some .int, 9)
def f_X6_text (σ : Mm) (K : Int32 → Mm → Prop) : Prop := (f_X2_become 2 0 σ (fun σ1 => (f_X5_take (σ1 16 0 7) σ1 (fun r3 σ2 => (∃ σ4, σ4 = mset σ2 16 0 7 (0 : Int32) ∧ (if r3 < 0 then (K r3 σ4) else (f_X2_become 0 2 σ4 (fun σ5 => (K r3 σ5)))))))))
set_option maxRecDepth 100000 in
set_option maxHeartbeats 4000000 in
theorem C_X6_text {g : GG} {σ : Mm} {K : Int32 → Mm → Prop} (h : f_X6_text σ K) : Ct g 0 M_X6_text (QI g 0 K) [.ref (gad g 16 0)] σ := by
  unfold f_X6_text at h
  refine Ct.of (L := [(0, .ref (gad g 16 0))]) (show plainName RX6 = true by decide) (Nat.le_of_ble_eq_true rfl) rfl ?_
  refine AW.aload_n dX6_text_0 0 rfl ?_
  refine AW.get (k := 3) (v := .ref (gad g 5 2)) (id0_16_0) rfl rfl inGX6 (Nat.le_of_ble_eq_true rfl) w_206 rfl dX6_text_1 ?_
  refine AW.aload_n dX6_text_4 0 rfl ?_
  refine AW.get (k := 0) (v := .ref (gad g 5 0)) (id0_16_0) rfl rfl inGX6 (Nat.le_of_ble_eq_true rfl) w_203 rfl dX6_text_5 ?_
  refine AW.callVV [.ref (gad g 5 0)] (C_X2_become h) ok_X2_become (id0_5_2) rfl rfl w_633 rfl (Nat.le_of_ble_eq_true rfl) (Nat.le_of_ble_eq_true rfl) rfl dX6_text_8 (fun σ1 h => ?_)
  refine AW.aload_n dX6_text_11 0 rfl ?_
  refine AW.get (k := 8) (v := .ref (gad g 11 0)) (id0_16_0) rfl rfl inGX6 (Nat.le_of_ble_eq_true rfl) w_211 rfl dX6_text_12 ?_
  refine AW.aload_n dX6_text_15 0 rfl ?_
  refine AW.get (k := 7) (v := .int (σ1 16 0 7)) (id0_16_0) rfl rfl inGX6 (Nat.le_of_ble_eq_true rfl) w_210 rfl dX6_text_16 ?_
  refine AW.callVI [.int (σ1 16 0 7)] (C_X5_take h) ok_X5_take (id0_11_0) rfl rfl w_643 rfl (Nat.le_of_ble_eq_true rfl) (Nat.le_of_ble_eq_true rfl) rfl dX6_text_19 (fun r3 σ2 h => ?_)
  refine AW.istore_n (L' := [(0, .ref (gad g 16 0)), (1, .int r3)]) dX6_text_22 (Nat.le_of_ble_eq_true rfl) rfl ?_
  refine AW.aload_n dX6_text_23 0 rfl ?_
  refine AW.iconst (v := (0 : Int32)) dX6_text_24 rfl ?_
  refine AW.put (k := 7) (w := (0 : Int32)) (id0_16_0) rfl rfl inGX6 tyX6_ok nmX6 (Nat.le_of_ble_eq_true rfl) w_210 rfl rfl rfl rfl (Nat.le_of_ble_eq_true rfl) rfl dX6_text_25 ?_
  obtain ⟨σ4, eσ4, h⟩ := h
  rw [← eσ4]
  refine AW.iload_n dX6_text_28 1 rfl ?_
  refine AW.if_lt (tgt := 43) dX6_text_29 rfl (fun c => ?_) (fun c => ?_)
  · replace h := ite_t c h
    refine AW.iload_n dX6_text_43 1 rfl ?_
    exact AW.iret rfl dX6_text_44 h
  · replace h := ite_f c h
    refine AW.aload_n dX6_text_32 0 rfl ?_
    refine AW.get (k := 0) (v := .ref (gad g 5 0)) (id0_16_0) rfl rfl inGX6 (Nat.le_of_ble_eq_true rfl) w_203 rfl dX6_text_33 ?_
    refine AW.aload_n dX6_text_36 0 rfl ?_
    refine AW.get (k := 3) (v := .ref (gad g 5 2)) (id0_16_0) rfl rfl inGX6 (Nat.le_of_ble_eq_true rfl) w_206 rfl dX6_text_37 ?_
    refine AW.callVV [.ref (gad g 5 2)] (C_X2_become h) ok_X2_become (id0_5_0) rfl rfl w_633 rfl (Nat.le_of_ble_eq_true rfl) (Nat.le_of_ble_eq_true rfl) rfl dX6_text_40 (fun σ5 h => ?_)
    refine AW.iload_n dX6_text_43 1 rfl ?_
    exact AW.iret rfl dX6_text_44 h
theorem ok_X6_text : OkV M_X6_text 0 := ⟨w_630, w_631, w_1, w_632, by decide +kernel, (Nat.le_of_ble_eq_true rfl)⟩
def M_X6_isSpot : MT := (yX6_isSpot, cX6_isSpot, 1, some .boolean, 1)
def f_X6_isSpot (a0 : Int32) (σ : Mm) (K : Bool → Mm → Prop) : Prop := (if a0 < 0 then (K false σ) else (if (10 : Int32) ≤ a0 then (K false σ) else (K true σ)))
set_option maxRecDepth 100000 in
set_option maxHeartbeats 4000000 in
theorem C_X6_isSpot {g : GG} {a0 : Int32} {σ : Mm} {K : Bool → Mm → Prop} (h : f_X6_isSpot a0 σ K) : Ct g 0 M_X6_isSpot (QB g 0 K) [.int a0] σ := by
  unfold f_X6_isSpot at h
  refine Ct.of (L := [(0, .int a0)]) (show plainName RX6 = true by decide) (Nat.le_of_ble_eq_true rfl) rfl ?_
  refine AW.iload_n dX6_isSpot_0 0 rfl ?_
  refine AW.if_lt (tgt := 14) dX6_isSpot_1 rfl (fun c => ?_) (fun c => ?_)
  · replace h := ite_t c h
    refine AW.iconst (v := (0 : Int32)) dX6_isSpot_14 rfl ?_
    exact AW.bret false rfl rfl dX6_isSpot_15 h
  · replace h := ite_f c h
    refine AW.iload_n dX6_isSpot_4 0 rfl ?_
    refine AW.bipush (v := (10 : Int32)) dX6_isSpot_5 rfl ?_
    refine AW.icmp_ge (tgt := 14) dX6_isSpot_7 rfl (fun c => ?_) (fun c => ?_)
    · replace h := ite_t c h
      refine AW.iconst (v := (0 : Int32)) dX6_isSpot_14 rfl ?_
      exact AW.bret false rfl rfl dX6_isSpot_15 h
    · replace h := ite_f c h
      refine AW.iconst (v := (1 : Int32)) dX6_isSpot_10 rfl ?_
      refine AW.goto (tgt := 15) dX6_isSpot_11 rfl ?_
      exact AW.bret true rfl rfl dX6_isSpot_15 h
theorem ok_X6_isSpot : OkS M_X6_isSpot 1 := ⟨w_763, w_1, w_764, by decide +kernel, (Nat.le_of_ble_eq_true rfl)⟩
def M_X6_hold : MT := (yX6_hold, cX6_hold, 3, some .int, 2)
def f_X6_hold (a1 : Int32) (a2 : Int32) (σ : Mm) (K : Int32 → Mm → Prop) : Prop := (f_X6_isSpot a1 σ (fun b2 σ1 => (if b2 = true then (if a2 = (-1 : Int32) then (vp_in a1 10 ∧ (∃ σ6, σ6 = mset σ1 7 0 (a1.toNatClampNeg) a2 ∧ (K (1 : Int32) σ6))) else (f_X6_isBench a2 σ1 (fun b8 σ7 => (if b8 = true then (vp_in a1 10 ∧ (∃ σ10, σ10 = mset σ7 7 0 (a1.toNatClampNeg) a2 ∧ (K (1 : Int32) σ10))) else (f_X6_finding (0 : Int32) σ7 (fun r12 σ11 => (K r12 σ11))))))) else (f_X6_finding (0 : Int32) σ1 (fun r4 σ3 => (K r4 σ3))))))
set_option maxRecDepth 100000 in
set_option maxHeartbeats 4000000 in
theorem C_X6_hold {g : GG} {a1 : Int32} {a2 : Int32} {σ : Mm} {K : Int32 → Mm → Prop} (h : f_X6_hold a1 a2 σ K) : Ct g 0 M_X6_hold (QI g 0 K) [.ref (gad g 16 0), .int a1, .int a2] σ := by
  unfold f_X6_hold at h
  refine Ct.of (L := [(0, .ref (gad g 16 0)), (1, .int a1), (2, .int a2)]) (show plainName RX6 = true by decide) (Nat.le_of_ble_eq_true rfl) rfl ?_
  refine AW.iload_n dX6_hold_0 1 rfl ?_
  refine AW.callSB [.int a1] (C_X6_isSpot h) ok_X6_isSpot w_762 rfl (Nat.le_of_ble_eq_true rfl) (Nat.le_of_ble_eq_true rfl) rfl dX6_hold_1 (fun b2 σ1 h => ?_)
  refine AW.ifb_eq (tgt := 20) dX6_hold_4 rfl (fun c => ?_) (fun c => ?_)
  · replace h := ite_f c h
    refine AW.aload_n dX6_hold_20 0 rfl ?_
    refine AW.iconst (v := (0 : Int32)) dX6_hold_21 rfl ?_
    refine AW.callVI [.int (0 : Int32)] (C_X6_finding h) ok_X6_finding (id0_16_0) rfl rfl w_247 rfl (Nat.le_of_ble_eq_true rfl) (Nat.le_of_ble_eq_true rfl) rfl dX6_hold_22 (fun r4 σ3 h => ?_)
    exact AW.iret rfl dX6_hold_25 h
  · replace h := ite_t c h
    refine AW.iload_n dX6_hold_7 2 rfl ?_
    refine AW.iconst (v := (-1 : Int32)) dX6_hold_8 rfl ?_
    refine AW.icmp_eq (tgt := 26) dX6_hold_9 rfl (fun c => ?_) (fun c => ?_)
    · replace h := ite_t c h
      refine AW.aload_n dX6_hold_26 0 rfl ?_
      refine AW.get (k := 0) (v := .ref (gad g 5 0)) (id0_16_0) rfl rfl inGX6 (Nat.le_of_ble_eq_true rfl) w_203 rfl dX6_hold_27 ?_
      refine AW.get (k := 3) (v := .ref (gad g 7 0)) (id0_5_0) rfl rfl inGX2 (Nat.le_of_ble_eq_true rfl) w_102 rfl dX6_hold_30 ?_
      refine AW.iload_n dX6_hold_33 1 rfl ?_
      refine AW.iload_n dX6_hold_34 2 rfl ?_
      obtain ⟨hq5, h⟩ := h
      refine AW.iast (jn := (a1.toNatClampNeg)) (id0_7_0) (fun _ => rfl) hq5 rfl dX6_hold_35 ?_
      obtain ⟨σ6, eσ6, h⟩ := h
      rw [← eσ6]
      refine AW.iconst (v := (1 : Int32)) dX6_hold_36 rfl ?_
      exact AW.iret rfl dX6_hold_37 h
    · replace h := ite_f c h
      refine AW.aload_n dX6_hold_12 0 rfl ?_
      refine AW.iload_n dX6_hold_13 2 rfl ?_
      refine AW.callVB [.int a2] (C_X6_isBench h) ok_X6_isBench (id0_16_0) rfl rfl w_308 rfl (Nat.le_of_ble_eq_true rfl) (Nat.le_of_ble_eq_true rfl) rfl dX6_hold_14 (fun b8 σ7 h => ?_)
      refine AW.ifb_ne (tgt := 26) dX6_hold_17 rfl (fun c => ?_) (fun c => ?_)
      · replace h := ite_t c h
        refine AW.aload_n dX6_hold_26 0 rfl ?_
        refine AW.get (k := 0) (v := .ref (gad g 5 0)) (id0_16_0) rfl rfl inGX6 (Nat.le_of_ble_eq_true rfl) w_203 rfl dX6_hold_27 ?_
        refine AW.get (k := 3) (v := .ref (gad g 7 0)) (id0_5_0) rfl rfl inGX2 (Nat.le_of_ble_eq_true rfl) w_102 rfl dX6_hold_30 ?_
        refine AW.iload_n dX6_hold_33 1 rfl ?_
        refine AW.iload_n dX6_hold_34 2 rfl ?_
        obtain ⟨hq9, h⟩ := h
        refine AW.iast (jn := (a1.toNatClampNeg)) (id0_7_0) (fun _ => rfl) hq9 rfl dX6_hold_35 ?_
        obtain ⟨σ10, eσ10, h⟩ := h
        rw [← eσ10]
        refine AW.iconst (v := (1 : Int32)) dX6_hold_36 rfl ?_
        exact AW.iret rfl dX6_hold_37 h
      · replace h := ite_f c h
        refine AW.aload_n dX6_hold_20 0 rfl ?_
        refine AW.iconst (v := (0 : Int32)) dX6_hold_21 rfl ?_
        refine AW.callVI [.int (0 : Int32)] (C_X6_finding h) ok_X6_finding (id0_16_0) rfl rfl w_247 rfl (Nat.le_of_ble_eq_true rfl) (Nat.le_of_ble_eq_true rfl) rfl dX6_hold_22 (fun r12 σ11 h => ?_)
        exact AW.iret rfl dX6_hold_25 h
theorem ok_X6_hold : OkV M_X6_hold 2 := ⟨w_759, w_760, w_1, w_761, by decide +kernel, (Nat.le_of_ble_eq_true rfl)⟩
def M_X6_isUnder : MT := (yX6_isUnder, cX6_isUnder, 4, some .boolean, 2)
set_option maxRecDepth 100000 in
def f_X6_isUnder_4 (a1 : Int32) (K : Bool → Mm → Prop) : Nat → Int32 → Int32 → Mm → Prop
  | 0, _, _, _ => False
  | n + 1, a2, a3, σ => (if (7 : Int32) ≤ a3 then (K false σ) else (f_X6_isKind a2 σ (fun b2 σ1 => (if b2 = true then (if a2 = a1 then (K true σ1) else (vp_in a2 7 ∧ (f_X6_isUnder_4 a1 K n (stF 2 (a2.toNatClampNeg)) (a3 + (1 : Int32)) σ1))) else (K false σ1)))))
set_option maxRecDepth 100000 in
set_option maxHeartbeats 4000000 in
theorem T_X6_isUnder_4 {g : GG} {a1 : Int32} {K : Bool → Mm → Prop} : ∀ (n : Nat) (a2 : Int32) (a3 : Int32) (σ : Mm), f_X6_isUnder_4 a1 K n a2 a3 σ → AW g 0 M_X6_isUnder (QB g 0 K) 4 [(1, .int a1), (2, .int a2), (3, .int a3)] [] σ := by
  intro n
  induction n with
  | zero => intro a2 a3 σ h; exact False.elim h
  | succ n ih =>
    intro a2 a3 σ h
    rw [f_X6_isUnder_4] at h
    refine AW.iload_n dX6_isUnder_4 2 rfl ?_
    refine AW.bipush (v := (7 : Int32)) dX6_isUnder_5 rfl ?_
    refine AW.icmp_ge (tgt := 36) dX6_isUnder_7 rfl (fun c => ?_) (fun c => ?_)
    · replace h := ite_t c h
      refine AW.iconst (v := (0 : Int32)) dX6_isUnder_36 rfl ?_
      exact AW.bret false rfl rfl dX6_isUnder_37 h
    · replace h := ite_f c h
      refine AW.iload_n dX6_isUnder_10 1 rfl ?_
      refine AW.callSB [.int a2] (C_X6_isKind h) ok_X6_isKind w_293 rfl (Nat.le_of_ble_eq_true rfl) (Nat.le_of_ble_eq_true rfl) rfl dX6_isUnder_11 (fun b2 σ1 h => ?_)
      refine AW.ifb_eq (tgt := 36) dX6_isUnder_14 rfl (fun c => ?_) (fun c => ?_)
      · replace h := ite_f c h
        refine AW.iconst (v := (0 : Int32)) dX6_isUnder_36 rfl ?_
        exact AW.bret false rfl rfl dX6_isUnder_37 h
      · replace h := ite_t c h
        refine AW.iload_n dX6_isUnder_17 1 rfl ?_
        refine AW.iload_n dX6_isUnder_18 0 rfl ?_
        refine AW.icmp_ne (tgt := 24) dX6_isUnder_19 rfl (fun c => ?_) (fun c => ?_)
        · replace h := ite_f c h
          refine AW.gets (k := 2) (Nat.le_of_ble_eq_true rfl) w_772 dX6_isUnder_24 ?_
          refine AW.iload_n dX6_isUnder_27 1 rfl ?_
          obtain ⟨hq3, h⟩ := h
          refine AW.stald (Nat.le_of_ble_eq_true rfl) hq3 dX6_isUnder_28 ?_
          refine AW.istore_n (L' := [(1, .int a1), (2, .int (stF 2 (a2.toNatClampNeg))), (3, .int a3)]) dX6_isUnder_29 (Nat.le_of_ble_eq_true rfl) rfl ?_
          refine AW.iinc (v := (a3 + (1 : Int32))) (L' := [(1, .int a1), (2, .int (stF 2 (a2.toNatClampNeg))), (3, .int (a3 + (1 : Int32)))]) dX6_isUnder_30 2 rfl rfl (Nat.le_of_ble_eq_true rfl) rfl ?_
          refine AW.goto (tgt := 4) dX6_isUnder_33 rfl ?_
          exact ih _ _ _ h
        · replace h := ite_t c h
          refine AW.iconst (v := (1 : Int32)) dX6_isUnder_22 rfl ?_
          exact AW.bret true rfl rfl dX6_isUnder_23 h
def f_X6_isUnder (a0 : Int32) (a1 : Int32) (σ : Mm) (K : Bool → Mm → Prop) : Prop := (∃ m, f_X6_isUnder_4 a1 K m a0 (0 : Int32) σ)
set_option maxRecDepth 100000 in
set_option maxHeartbeats 4000000 in
theorem C_X6_isUnder {g : GG} {a0 : Int32} {a1 : Int32} {σ : Mm} {K : Bool → Mm → Prop} (h : f_X6_isUnder a0 a1 σ K) : Ct g 0 M_X6_isUnder (QB g 0 K) [.int a0, .int a1] σ := by
  unfold f_X6_isUnder at h
  refine Ct.of (L := [(0, .int a0), (1, .int a1)]) (show plainName RX6 = true by decide) (Nat.le_of_ble_eq_true rfl) rfl ?_
  refine AW.iload_n dX6_isUnder_0 0 rfl ?_
  refine AW.istore_n (L' := [(0, .int a0), (1, .int a1), (2, .int a0)]) dX6_isUnder_1 (Nat.le_of_ble_eq_true rfl) rfl ?_
  refine AW.iconst (v := (0 : Int32)) dX6_isUnder_2 rfl ?_
  refine AW.istore_n (L' := [(0, .int a0), (1, .int a1), (2, .int a0), (3, .int (0 : Int32))]) dX6_isUnder_3 (Nat.le_of_ble_eq_true rfl) rfl ?_
  obtain ⟨m, h⟩ := h
  refine AW.eqL [1, 2, 3] rfl ?_
  refine T_X6_isUnder_4 m _ _ _ h
theorem ok_X6_isUnder : OkS M_X6_isUnder 2 := ⟨w_770, w_1, w_771, by decide +kernel, (Nat.le_of_ble_eq_true rfl)⟩
def M_X6_as : MT := (yX6_as, cX6_as, 4, some .int, 3)
def f_X6_as (a1 : Int32) (a2 : Int32) (σ : Mm) (K : Int32 → Mm → Prop) : Prop := (f_X6_isSpot a1 σ (fun b2 σ1 => (if b2 = true then (f_X6_isKind a2 σ1 (fun b6 σ5 => (if b6 = true then (vp_in a1 10 ∧ (f_X6_isBench (σ5 7 0 (a1.toNatClampNeg)) σ5 (fun b9 σ8 => (if b9 = true then (vp_in (σ5 7 0 (a1.toNatClampNeg)) 5 ∧ ((5 * 0 + (σ5 7 0 (a1.toNatClampNeg)).toNatClampNeg) < 17 ∧ (f_X6_isUnder (σ8 0 (5 * 0 + (σ5 7 0 (a1.toNatClampNeg)).toNatClampNeg) 0) a2 σ8 (fun b13 σ12 => (if b13 = true then (K (σ5 7 0 (a1.toNatClampNeg)) σ12) else (f_X6_finding (2 : Int32) σ12 (fun r15 σ14 => (K r15 σ14)))))))) else (f_X6_finding (5 : Int32) σ8 (fun r17 σ16 => (K r17 σ16))))))) else (f_X6_finding (0 : Int32) σ5 (fun r19 σ18 => (K r19 σ18)))))) else (f_X6_finding (0 : Int32) σ1 (fun r4 σ3 => (K r4 σ3))))))
set_option maxRecDepth 100000 in
set_option maxHeartbeats 4000000 in
theorem C_X6_as {g : GG} {a1 : Int32} {a2 : Int32} {σ : Mm} {K : Int32 → Mm → Prop} (h : f_X6_as a1 a2 σ K) : Ct g 0 M_X6_as (QI g 0 K) [.ref (gad g 16 0), .int a1, .int a2] σ := by
  unfold f_X6_as at h
  refine Ct.of (L := [(0, .ref (gad g 16 0)), (1, .int a1), (2, .int a2)]) (show plainName RX6 = true by decide) (Nat.le_of_ble_eq_true rfl) rfl ?_
  refine AW.iload_n dX6_as_0 1 rfl ?_
  refine AW.callSB [.int a1] (C_X6_isSpot h) ok_X6_isSpot w_762 rfl (Nat.le_of_ble_eq_true rfl) (Nat.le_of_ble_eq_true rfl) rfl dX6_as_1 (fun b2 σ1 h => ?_)
  refine AW.ifb_eq (tgt := 14) dX6_as_4 rfl (fun c => ?_) (fun c => ?_)
  · replace h := ite_f c h
    refine AW.aload_n dX6_as_14 0 rfl ?_
    refine AW.iconst (v := (0 : Int32)) dX6_as_15 rfl ?_
    refine AW.callVI [.int (0 : Int32)] (C_X6_finding h) ok_X6_finding (id0_16_0) rfl rfl w_247 rfl (Nat.le_of_ble_eq_true rfl) (Nat.le_of_ble_eq_true rfl) rfl dX6_as_16 (fun r4 σ3 h => ?_)
    exact AW.iret rfl dX6_as_19 h
  · replace h := ite_t c h
    refine AW.iload_n dX6_as_7 2 rfl ?_
    refine AW.callSB [.int a2] (C_X6_isKind h) ok_X6_isKind w_293 rfl (Nat.le_of_ble_eq_true rfl) (Nat.le_of_ble_eq_true rfl) rfl dX6_as_8 (fun b6 σ5 h => ?_)
    refine AW.ifb_ne (tgt := 20) dX6_as_11 rfl (fun c => ?_) (fun c => ?_)
    · replace h := ite_t c h
      refine AW.aload_n dX6_as_20 0 rfl ?_
      refine AW.get (k := 0) (v := .ref (gad g 5 0)) (id0_16_0) rfl rfl inGX6 (Nat.le_of_ble_eq_true rfl) w_203 rfl dX6_as_21 ?_
      refine AW.get (k := 3) (v := .ref (gad g 7 0)) (id0_5_0) rfl rfl inGX2 (Nat.le_of_ble_eq_true rfl) w_102 rfl dX6_as_24 ?_
      refine AW.iload_n dX6_as_27 1 rfl ?_
      obtain ⟨hq7, h⟩ := h
      refine AW.iald (jn := (a1.toNatClampNeg)) (id0_7_0) rfl hq7 rfl dX6_as_28 ?_
      refine AW.istore_n (L' := [(0, .ref (gad g 16 0)), (1, .int a1), (2, .int a2), (3, .int (σ5 7 0 (a1.toNatClampNeg)))]) dX6_as_29 (Nat.le_of_ble_eq_true rfl) rfl ?_
      refine AW.aload_n dX6_as_30 0 rfl ?_
      refine AW.iload_n dX6_as_31 3 rfl ?_
      refine AW.callVB [.int (σ5 7 0 (a1.toNatClampNeg))] (C_X6_isBench h) ok_X6_isBench (id0_16_0) rfl rfl w_308 rfl (Nat.le_of_ble_eq_true rfl) (Nat.le_of_ble_eq_true rfl) rfl dX6_as_32 (fun b9 σ8 h => ?_)
      refine AW.ifb_ne (tgt := 44) dX6_as_35 rfl (fun c => ?_) (fun c => ?_)
      · replace h := ite_t c h
        refine AW.aload_n dX6_as_44 0 rfl ?_
        refine AW.get (k := 0) (v := .ref (gad g 5 0)) (id0_16_0) rfl rfl inGX6 (Nat.le_of_ble_eq_true rfl) w_203 rfl dX6_as_45 ?_
        refine AW.get (k := 1) (v := .ref (gad g 6 0)) (id0_5_0) rfl rfl inGX2 (Nat.le_of_ble_eq_true rfl) w_96 rfl dX6_as_48 ?_
        refine AW.iload_n dX6_as_51 3 rfl ?_
        obtain ⟨hq10, h⟩ := h
        obtain ⟨hv11, h⟩ := h
        refine AW.aald (a' := gad g 0 (5 * 0 + (σ5 7 0 (a1.toNatClampNeg)).toNatClampNeg)) (ty := 1) (id0_6_0) rfl rfl rfl hq10 dX6_as_52 ?_
        refine AW.get (k := 0) (v := .int (σ8 0 (5 * 0 + (σ5 7 0 (a1.toNatClampNeg)).toNatClampNeg) 0)) (ids_in (Nat.le_of_ble_eq_true rfl) hv11) rfl rfl inGX0 (Nat.le_of_ble_eq_true rfl) w_70 rfl dX6_as_53 ?_
        refine AW.iload_n dX6_as_56 2 rfl ?_
        refine AW.callSB [.int (σ8 0 (5 * 0 + (σ5 7 0 (a1.toNatClampNeg)).toNatClampNeg) 0), .int a2] (C_X6_isUnder h) ok_X6_isUnder w_769 rfl (Nat.le_of_ble_eq_true rfl) (Nat.le_of_ble_eq_true rfl) rfl dX6_as_57 (fun b13 σ12 h => ?_)
        refine AW.ifb_eq (tgt := 67) dX6_as_60 rfl (fun c => ?_) (fun c => ?_)
        · replace h := ite_f c h
          refine AW.aload_n dX6_as_67 0 rfl ?_
          refine AW.iconst (v := (2 : Int32)) dX6_as_68 rfl ?_
          refine AW.callVI [.int (2 : Int32)] (C_X6_finding h) ok_X6_finding (id0_16_0) rfl rfl w_247 rfl (Nat.le_of_ble_eq_true rfl) (Nat.le_of_ble_eq_true rfl) rfl dX6_as_69 (fun r15 σ14 h => ?_)
          exact AW.iret rfl dX6_as_72 h
        · replace h := ite_t c h
          refine AW.iload_n dX6_as_63 3 rfl ?_
          refine AW.goto (tgt := 72) dX6_as_64 rfl ?_
          exact AW.iret rfl dX6_as_72 h
      · replace h := ite_f c h
        refine AW.aload_n dX6_as_38 0 rfl ?_
        refine AW.iconst (v := (5 : Int32)) dX6_as_39 rfl ?_
        refine AW.callVI [.int (5 : Int32)] (C_X6_finding h) ok_X6_finding (id0_16_0) rfl rfl w_247 rfl (Nat.le_of_ble_eq_true rfl) (Nat.le_of_ble_eq_true rfl) rfl dX6_as_40 (fun r17 σ16 h => ?_)
        exact AW.iret rfl dX6_as_43 h
    · replace h := ite_f c h
      refine AW.aload_n dX6_as_14 0 rfl ?_
      refine AW.iconst (v := (0 : Int32)) dX6_as_15 rfl ?_
      refine AW.callVI [.int (0 : Int32)] (C_X6_finding h) ok_X6_finding (id0_16_0) rfl rfl w_247 rfl (Nat.le_of_ble_eq_true rfl) (Nat.le_of_ble_eq_true rfl) rfl dX6_as_16 (fun r19 σ18 h => ?_)
      exact AW.iret rfl dX6_as_19 h
theorem ok_X6_as : OkV M_X6_as 2 := ⟨w_766, w_767, w_1, w_768, by decide +kernel, (Nat.le_of_ble_eq_true rfl)⟩
def M_X6_isSheet : MT := (yX6_isSheet, cX6_isSheet, 1, some .boolean, 1)
def f_X6_isSheet (a0 : Int32) (σ : Mm) (K : Bool → Mm → Prop) : Prop := (if a0 < 0 then (K false σ) else (if (4 : Int32) ≤ a0 then (K false σ) else (K true σ)))
set_option maxRecDepth 100000 in
set_option maxHeartbeats 4000000 in
theorem C_X6_isSheet {g : GG} {a0 : Int32} {σ : Mm} {K : Bool → Mm → Prop} (h : f_X6_isSheet a0 σ K) : Ct g 0 M_X6_isSheet (QB g 0 K) [.int a0] σ := by
  unfold f_X6_isSheet at h
  refine Ct.of (L := [(0, .int a0)]) (show plainName RX6 = true by decide) (Nat.le_of_ble_eq_true rfl) rfl ?_
  refine AW.iload_n dX6_isSheet_0 0 rfl ?_
  refine AW.if_lt (tgt := 13) dX6_isSheet_1 rfl (fun c => ?_) (fun c => ?_)
  · replace h := ite_t c h
    refine AW.iconst (v := (0 : Int32)) dX6_isSheet_13 rfl ?_
    exact AW.bret false rfl rfl dX6_isSheet_14 h
  · replace h := ite_f c h
    refine AW.iload_n dX6_isSheet_4 0 rfl ?_
    refine AW.iconst (v := (4 : Int32)) dX6_isSheet_5 rfl ?_
    refine AW.icmp_ge (tgt := 13) dX6_isSheet_6 rfl (fun c => ?_) (fun c => ?_)
    · replace h := ite_t c h
      refine AW.iconst (v := (0 : Int32)) dX6_isSheet_13 rfl ?_
      exact AW.bret false rfl rfl dX6_isSheet_14 h
    · replace h := ite_f c h
      refine AW.iconst (v := (1 : Int32)) dX6_isSheet_9 rfl ?_
      refine AW.goto (tgt := 14) dX6_isSheet_10 rfl ?_
      exact AW.bret true rfl rfl dX6_isSheet_14 h
theorem ok_X6_isSheet : OkS M_X6_isSheet 1 := ⟨w_779, w_1, w_780, by decide +kernel, (Nat.le_of_ble_eq_true rfl)⟩
def M_J7_fill_53178_14 : MT := (yJ7_fill_53178, cJ7_fill_53178, 4, none, 1)
set_option maxRecDepth 100000 in
def f_J7_fill_53178_14_5 (i0 : Nat) (a1 : Int32) (a3 : Int32) (K : Mm → Prop) : Nat → Int32 → Mm → Prop
  | 0, _, _ => False
  | n + 1, a2, σ => (if a3 ≤ a2 then (K σ) else (vp_in a2 40 ∧ (∃ σ2, σ2 = mset σ 14 i0 (a2.toNatClampNeg) a1 ∧ (f_J7_fill_53178_14_5 i0 a1 a3 K n (a2 + (1 : Int32)) σ2))))
set_option maxRecDepth 100000 in
set_option maxHeartbeats 4000000 in
theorem T_J7_fill_53178_14_5 {g : GG} {i0 : Nat} {a1 : Int32} {a3 : Int32} {K : Mm → Prop} (hi0 : i0 < 4) : ∀ (n : Nat) (a2 : Int32) (σ : Mm), f_J7_fill_53178_14_5 i0 a1 a3 K n a2 σ → AW g 0 M_J7_fill_53178_14 (QV g 0 K) 5 [(0, .ref (gad g 14 i0)), (1, .int a1), (2, .int a2), (3, .int a3)] [] σ := by
  intro n
  induction n with
  | zero => intro a2 σ h; exact False.elim h
  | succ n ih =>
    intro a2 σ h
    rw [f_J7_fill_53178_14_5] at h
    refine AW.iload_n dJ7_fill_53178_5 2 rfl ?_
    refine AW.iload_n dJ7_fill_53178_6 3 rfl ?_
    refine AW.icmp_ge (tgt := 20) dJ7_fill_53178_7 rfl (fun c => ?_) (fun c => ?_)
    · replace h := ite_t c h
      exact AW.vret rfl dJ7_fill_53178_20 h
    · replace h := ite_f c h
      refine AW.aload_n dJ7_fill_53178_10 0 rfl ?_
      refine AW.iload_n dJ7_fill_53178_11 2 rfl ?_
      refine AW.iload_n dJ7_fill_53178_12 1 rfl ?_
      obtain ⟨hq1, h⟩ := h
      refine AW.iast (jn := (a2.toNatClampNeg)) (ids_in (Nat.le_of_ble_eq_true rfl) hi0) (fun _ => rfl) hq1 rfl dJ7_fill_53178_13 ?_
      obtain ⟨σ2, eσ2, h⟩ := h
      rw [← eσ2]
      refine AW.iinc (v := (a2 + (1 : Int32))) (L' := [(0, .ref (gad g 14 i0)), (1, .int a1), (2, .int (a2 + (1 : Int32))), (3, .int a3)]) dJ7_fill_53178_14 2 rfl rfl (Nat.le_of_ble_eq_true rfl) rfl ?_
      refine AW.goto (tgt := 5) dJ7_fill_53178_17 rfl ?_
      exact ih _ _ h
def f_J7_fill_53178_14 (i0 : Nat) (a1 : Int32) (σ : Mm) (K : Mm → Prop) : Prop := (i0 < 4 ∧ (∃ m, f_J7_fill_53178_14_5 i0 a1 (40 : Int32) K m (0 : Int32) σ))
set_option maxRecDepth 100000 in
set_option maxHeartbeats 4000000 in
theorem C_J7_fill_53178_14 {g : GG} {i0 : Nat} {a1 : Int32} {σ : Mm} {K : Mm → Prop} (h : f_J7_fill_53178_14 i0 a1 σ K) : Ct g 0 M_J7_fill_53178_14 (QV g 0 K) [.ref (gad g 14 i0), .int a1] σ := by
  unfold f_J7_fill_53178_14 at h
  obtain ⟨hi0, h⟩ := h
  refine Ct.of (L := [(0, .ref (gad g 14 i0)), (1, .int a1)]) (show plainName RJ7 = true by decide) (Nat.le_of_ble_eq_true rfl) rfl ?_
  refine AW.iconst (v := (0 : Int32)) dJ7_fill_53178_0 rfl ?_
  refine AW.istore_n (L' := [(0, .ref (gad g 14 i0)), (1, .int a1), (2, .int (0 : Int32))]) dJ7_fill_53178_1 (Nat.le_of_ble_eq_true rfl) rfl ?_
  refine AW.aload_n dJ7_fill_53178_2 0 rfl ?_
  refine AW.alen (v := (40 : Int32)) (ids_in (Nat.le_of_ble_eq_true rfl) hi0) rfl rfl dJ7_fill_53178_3 ?_
  refine AW.istore_n (L' := [(0, .ref (gad g 14 i0)), (1, .int a1), (2, .int (0 : Int32)), (3, .int (40 : Int32))]) dJ7_fill_53178_4 (Nat.le_of_ble_eq_true rfl) rfl ?_
  obtain ⟨m, h⟩ := h
  refine T_J7_fill_53178_14_5 hi0 m _ _ h
theorem ok_J7_fill_53178_14 : OkS M_J7_fill_53178_14 2 := ⟨w_38, w_4, w_39, by decide +kernel, (Nat.le_of_ble_eq_true rfl)⟩
def M_X4_clear : MT := (yX4_clear, cX4_clear, 3, none, 2)
def f_X4_clear (i0 : Nat) (a1 : Int32) (a2 : Int32) (σ : Mm) (K : Mm → Prop) : Prop := (i0 < 4 ∧ (∃ σ1, σ1 = mset σ 13 i0 0 a1 ∧ (∃ σ2, σ2 = mset σ1 13 i0 1 a2 ∧ (f_J7_fill_53178_14 i0 (0 : Int32) σ2 (fun σ3 => (K σ3))))))
set_option maxRecDepth 100000 in
set_option maxHeartbeats 4000000 in
theorem C_X4_clear {g : GG} {i0 : Nat} {a1 : Int32} {a2 : Int32} {σ : Mm} {K : Mm → Prop} (h : f_X4_clear i0 a1 a2 σ K) : Ct g 0 M_X4_clear (QV g 0 K) [.ref (gad g 13 i0), .int a1, .int a2] σ := by
  unfold f_X4_clear at h
  obtain ⟨hi0, h⟩ := h
  refine Ct.of (L := [(0, .ref (gad g 13 i0)), (1, .int a1), (2, .int a2)]) (show plainName RX4 = true by decide) (Nat.le_of_ble_eq_true rfl) rfl ?_
  refine AW.aload_n dX4_clear_0 0 rfl ?_
  refine AW.iload_n dX4_clear_1 1 rfl ?_
  refine AW.put (k := 0) (w := a1) (ids_in (Nat.le_of_ble_eq_true rfl) hi0) rfl rfl inGX4 tyX4_ok nmX4 (Nat.le_of_ble_eq_true rfl) w_190 rfl rfl rfl rfl (Nat.le_of_ble_eq_true rfl) rfl dX4_clear_2 ?_
  obtain ⟨σ1, eσ1, h⟩ := h
  rw [← eσ1]
  refine AW.aload_n dX4_clear_5 0 rfl ?_
  refine AW.iload_n dX4_clear_6 2 rfl ?_
  refine AW.put (k := 1) (w := a2) (ids_in (Nat.le_of_ble_eq_true rfl) hi0) rfl rfl inGX4 tyX4_ok nmX4 (Nat.le_of_ble_eq_true rfl) w_192 rfl rfl rfl rfl (Nat.le_of_ble_eq_true rfl) rfl dX4_clear_7 ?_
  obtain ⟨σ2, eσ2, h⟩ := h
  rw [← eσ2]
  refine AW.aload_n dX4_clear_10 0 rfl ?_
  refine AW.get (k := 2) (v := .ref (gad g 14 i0)) (ids_in (Nat.le_of_ble_eq_true rfl) hi0) rfl rfl inGX4 (Nat.le_of_ble_eq_true rfl) w_194 rfl dX4_clear_11 ?_
  refine AW.iconst (v := (0 : Int32)) dX4_clear_14 rfl ?_
  refine AW.callSV [.ref (gad g 14 i0), .int (0 : Int32)] (C_J7_fill_53178_14 h) ok_J7_fill_53178_14 w_785 rfl (Nat.le_of_ble_eq_true rfl) (Nat.le_of_ble_eq_true rfl) rfl dX4_clear_15 (fun σ3 h => ?_)
  exact AW.vret rfl dX4_clear_18 h
theorem ok_X4_clear : OkV M_X4_clear 2 := ⟨w_782, w_783, w_8, w_784, by decide +kernel, (Nat.le_of_ble_eq_true rfl)⟩
def M_X6_sheet : MT := (yX6_sheet, cX6_sheet, 4, some .int, 3)
def f_X6_sheet_74 (a1 : Int32) (as2 : Int32) (as1 : Int32) (is0 : Nat) (K : Int32 → Mm → Prop) (σ : Mm) : Prop := (f_X4_clear is0 as1 as2 σ (fun σ7 => (vp_in a1 4 ∧ ((a1.toNatClampNeg) < 4 ∧ (K (σ7 13 (a1.toNatClampNeg) 1) σ7)))))
set_option maxRecDepth 100000 in
set_option maxHeartbeats 4000000 in
theorem T_X6_sheet_74 {g : GG} {a1 : Int32} {as2 : Int32} {as1 : Int32} {is0 : Nat} {K : Int32 → Mm → Prop} {σ : Mm} (his0 : is0 < 4) (h : f_X6_sheet_74 a1 as2 as1 is0 K σ) : AW g 0 M_X6_sheet (QI g 0 K) 74 [(0, .ref (gad g 16 0)), (1, .int a1)] [.int as2, .int as1, .ref (gad g 13 is0)] σ := by
  unfold f_X6_sheet_74 at h
  refine AW.callVV [.int as1, .int as2] (C_X4_clear h) ok_X4_clear (ids_in (Nat.le_of_ble_eq_true rfl) his0) rfl rfl w_781 rfl (Nat.le_of_ble_eq_true rfl) (Nat.le_of_ble_eq_true rfl) rfl dX6_sheet_74 (fun σ7 h => ?_)
  refine AW.aload_n dX6_sheet_77 0 rfl ?_
  refine AW.get (k := 9) (v := .ref (gad g 12 0)) (id0_16_0) rfl rfl inGX6 (Nat.le_of_ble_eq_true rfl) w_212 rfl dX6_sheet_78 ?_
  refine AW.iload_n dX6_sheet_81 1 rfl ?_
  obtain ⟨hq8, h⟩ := h
  obtain ⟨hv9, h⟩ := h
  refine AW.aald (a' := gad g 13 (a1.toNatClampNeg)) (ty := 2) (id0_12_0) rfl rfl rfl hq8 dX6_sheet_82 ?_
  refine AW.get (k := 1) (v := .int (σ7 13 (a1.toNatClampNeg) 1)) (ids_in (Nat.le_of_ble_eq_true rfl) hv9) rfl rfl inGX4 (Nat.le_of_ble_eq_true rfl) w_193 rfl dX6_sheet_83 ?_
  exact AW.iret rfl dX6_sheet_86 h
def f_X6_sheet_35 (a1 : Int32) (a2 : Int32) (a3 : Int32) (K : Int32 → Mm → Prop) (σ : Mm) : Prop := (if 0 ≤ a3 then (if a3 ≤ (40 : Int32) then (vp_in a1 4 ∧ ((a1.toNatClampNeg) < 4 ∧ (if a2 = 0 then (f_X6_sheet_74 a1 (0 : Int32) a2 (a1.toNatClampNeg) K σ) else (f_X6_sheet_74 a1 a3 a2 (a1.toNatClampNeg) K σ)))) else (f_X6_finding (0 : Int32) σ (fun r11 σ10 => (K r11 σ10)))) else (f_X6_finding (6 : Int32) σ (fun r13 σ12 => (K r13 σ12))))
set_option maxRecDepth 100000 in
set_option maxHeartbeats 4000000 in
theorem T_X6_sheet_35 {g : GG} {a1 : Int32} {a2 : Int32} {a3 : Int32} {K : Int32 → Mm → Prop} {σ : Mm} (h : f_X6_sheet_35 a1 a2 a3 K σ) : AW g 0 M_X6_sheet (QI g 0 K) 35 [(0, .ref (gad g 16 0)), (1, .int a1), (2, .int a2), (3, .int a3)] [] σ := by
  unfold f_X6_sheet_35 at h
  refine AW.iload_n dX6_sheet_35 3 rfl ?_
  refine AW.if_ge (tgt := 46) dX6_sheet_36 rfl (fun c => ?_) (fun c => ?_)
  · replace h := ite_t c h
    refine AW.iload_n dX6_sheet_46 3 rfl ?_
    refine AW.bipush (v := (40 : Int32)) dX6_sheet_47 rfl ?_
    refine AW.icmp_le (tgt := 58) dX6_sheet_49 rfl (fun c => ?_) (fun c => ?_)
    · replace h := ite_t c h
      refine AW.aload_n dX6_sheet_58 0 rfl ?_
      refine AW.get (k := 9) (v := .ref (gad g 12 0)) (id0_16_0) rfl rfl inGX6 (Nat.le_of_ble_eq_true rfl) w_212 rfl dX6_sheet_59 ?_
      refine AW.iload_n dX6_sheet_62 1 rfl ?_
      obtain ⟨hq5, h⟩ := h
      obtain ⟨hv6, h⟩ := h
      refine AW.aald (a' := gad g 13 (a1.toNatClampNeg)) (ty := 2) (id0_12_0) rfl rfl rfl hq5 dX6_sheet_63 ?_
      refine AW.iload_n dX6_sheet_64 2 rfl ?_
      refine AW.iload_n dX6_sheet_65 2 rfl ?_
      refine AW.if_ne (tgt := 73) dX6_sheet_66 rfl (fun c => ?_) (fun c => ?_)
      · replace h := ite_f c h
        refine AW.iload_n dX6_sheet_73 3 rfl ?_
        refine AW.eqL [0, 1] rfl ?_
        exact T_X6_sheet_74 hv6 h
      · replace h := ite_t c h
        refine AW.iconst (v := (0 : Int32)) dX6_sheet_69 rfl ?_
        refine AW.goto (tgt := 74) dX6_sheet_70 rfl ?_
        refine AW.eqL [0, 1] rfl ?_
        exact T_X6_sheet_74 hv6 h
    · replace h := ite_f c h
      refine AW.aload_n dX6_sheet_52 0 rfl ?_
      refine AW.iconst (v := (0 : Int32)) dX6_sheet_53 rfl ?_
      refine AW.callVI [.int (0 : Int32)] (C_X6_finding h) ok_X6_finding (id0_16_0) rfl rfl w_247 rfl (Nat.le_of_ble_eq_true rfl) (Nat.le_of_ble_eq_true rfl) rfl dX6_sheet_54 (fun r11 σ10 h => ?_)
      exact AW.iret rfl dX6_sheet_57 h
  · replace h := ite_f c h
    refine AW.aload_n dX6_sheet_39 0 rfl ?_
    refine AW.bipush (v := (6 : Int32)) dX6_sheet_40 rfl ?_
    refine AW.callVI [.int (6 : Int32)] (C_X6_finding h) ok_X6_finding (id0_16_0) rfl rfl w_247 rfl (Nat.le_of_ble_eq_true rfl) (Nat.le_of_ble_eq_true rfl) rfl dX6_sheet_42 (fun r13 σ12 h => ?_)
    exact AW.iret rfl dX6_sheet_45 h
def f_X6_sheet (a1 : Int32) (a2 : Int32) (a3 : Int32) (σ : Mm) (K : Int32 → Mm → Prop) : Prop := (f_X6_isSheet a1 σ (fun b2 σ1 => (if b2 = true then (if a2 = 0 then (f_X6_sheet_35 a1 a2 a3 K σ1) else (if a2 = (8 : Int32) then (f_X6_sheet_35 a1 a2 a3 K σ1) else (if a2 = (16 : Int32) then (f_X6_sheet_35 a1 a2 a3 K σ1) else (if a2 = (32 : Int32) then (f_X6_sheet_35 a1 a2 a3 K σ1) else (f_X6_finding (0 : Int32) σ1 (fun r15 σ14 => (K r15 σ14))))))) else (f_X6_finding (0 : Int32) σ1 (fun r4 σ3 => (K r4 σ3))))))
set_option maxRecDepth 100000 in
set_option maxHeartbeats 4000000 in
theorem C_X6_sheet {g : GG} {a1 : Int32} {a2 : Int32} {a3 : Int32} {σ : Mm} {K : Int32 → Mm → Prop} (h : f_X6_sheet a1 a2 a3 σ K) : Ct g 0 M_X6_sheet (QI g 0 K) [.ref (gad g 16 0), .int a1, .int a2, .int a3] σ := by
  unfold f_X6_sheet at h
  refine Ct.of (L := [(0, .ref (gad g 16 0)), (1, .int a1), (2, .int a2), (3, .int a3)]) (show plainName RX6 = true by decide) (Nat.le_of_ble_eq_true rfl) rfl ?_
  refine AW.iload_n dX6_sheet_0 1 rfl ?_
  refine AW.callSB [.int a1] (C_X6_isSheet h) ok_X6_isSheet w_778 rfl (Nat.le_of_ble_eq_true rfl) (Nat.le_of_ble_eq_true rfl) rfl dX6_sheet_1 (fun b2 σ1 h => ?_)
  refine AW.ifb_eq (tgt := 29) dX6_sheet_4 rfl (fun c => ?_) (fun c => ?_)
  · replace h := ite_f c h
    refine AW.aload_n dX6_sheet_29 0 rfl ?_
    refine AW.iconst (v := (0 : Int32)) dX6_sheet_30 rfl ?_
    refine AW.callVI [.int (0 : Int32)] (C_X6_finding h) ok_X6_finding (id0_16_0) rfl rfl w_247 rfl (Nat.le_of_ble_eq_true rfl) (Nat.le_of_ble_eq_true rfl) rfl dX6_sheet_31 (fun r4 σ3 h => ?_)
    exact AW.iret rfl dX6_sheet_34 h
  · replace h := ite_t c h
    refine AW.iload_n dX6_sheet_7 2 rfl ?_
    refine AW.if_eq (tgt := 35) dX6_sheet_8 rfl (fun c => ?_) (fun c => ?_)
    · replace h := ite_t c h
      exact T_X6_sheet_35 h
    · replace h := ite_f c h
      refine AW.iload_n dX6_sheet_11 2 rfl ?_
      refine AW.bipush (v := (8 : Int32)) dX6_sheet_12 rfl ?_
      refine AW.icmp_eq (tgt := 35) dX6_sheet_14 rfl (fun c => ?_) (fun c => ?_)
      · replace h := ite_t c h
        exact T_X6_sheet_35 h
      · replace h := ite_f c h
        refine AW.iload_n dX6_sheet_17 2 rfl ?_
        refine AW.bipush (v := (16 : Int32)) dX6_sheet_18 rfl ?_
        refine AW.icmp_eq (tgt := 35) dX6_sheet_20 rfl (fun c => ?_) (fun c => ?_)
        · replace h := ite_t c h
          exact T_X6_sheet_35 h
        · replace h := ite_f c h
          refine AW.iload_n dX6_sheet_23 2 rfl ?_
          refine AW.bipush (v := (32 : Int32)) dX6_sheet_24 rfl ?_
          refine AW.icmp_eq (tgt := 35) dX6_sheet_26 rfl (fun c => ?_) (fun c => ?_)
          · replace h := ite_t c h
            exact T_X6_sheet_35 h
          · replace h := ite_f c h
            refine AW.aload_n dX6_sheet_29 0 rfl ?_
            refine AW.iconst (v := (0 : Int32)) dX6_sheet_30 rfl ?_
            refine AW.callVI [.int (0 : Int32)] (C_X6_finding h) ok_X6_finding (id0_16_0) rfl rfl w_247 rfl (Nat.le_of_ble_eq_true rfl) (Nat.le_of_ble_eq_true rfl) rfl dX6_sheet_31 (fun r15 σ14 h => ?_)
            exact AW.iret rfl dX6_sheet_34 h
theorem ok_X6_sheet : OkV M_X6_sheet 3 := ⟨w_775, w_776, w_1, w_777, by decide +kernel, (Nat.le_of_ble_eq_true rfl)⟩
def M_X4_isMissing : MT := (yX4_isMissing, cX4_isMissing, 1, some .boolean, 1)
def f_X4_isMissing (i0 : Nat) (σ : Mm) (K : Bool → Mm → Prop) : Prop := (i0 < 4 ∧ (if (σ 13 i0 0) = 0 then (K true σ) else (K false σ)))
set_option maxRecDepth 100000 in
set_option maxHeartbeats 4000000 in
theorem C_X4_isMissing {g : GG} {i0 : Nat} {σ : Mm} {K : Bool → Mm → Prop} (h : f_X4_isMissing i0 σ K) : Ct g 0 M_X4_isMissing (QB g 0 K) [.ref (gad g 13 i0)] σ := by
  unfold f_X4_isMissing at h
  obtain ⟨hi0, h⟩ := h
  refine Ct.of (L := [(0, .ref (gad g 13 i0))]) (show plainName RX4 = true by decide) (Nat.le_of_ble_eq_true rfl) rfl ?_
  refine AW.aload_n dX4_isMissing_0 0 rfl ?_
  refine AW.get (k := 0) (v := .int (σ 13 i0 0)) (ids_in (Nat.le_of_ble_eq_true rfl) hi0) rfl rfl inGX4 (Nat.le_of_ble_eq_true rfl) w_190 rfl dX4_isMissing_1 ?_
  refine AW.if_ne (tgt := 11) dX4_isMissing_4 rfl (fun c => ?_) (fun c => ?_)
  · replace h := ite_f c h
    refine AW.iconst (v := (0 : Int32)) dX4_isMissing_11 rfl ?_
    exact AW.bret false rfl rfl dX4_isMissing_12 h
  · replace h := ite_t c h
    refine AW.iconst (v := (1 : Int32)) dX4_isMissing_7 rfl ?_
    refine AW.goto (tgt := 12) dX4_isMissing_8 rfl ?_
    exact AW.bret true rfl rfl dX4_isMissing_12 h
theorem ok_X4_isMissing : OkV M_X4_isMissing 0 := ⟨w_791, w_792, w_8, w_793, by decide +kernel, (Nat.le_of_ble_eq_true rfl)⟩
def M_X4_put : MT := (yX4_put, cX4_put, 3, none, 1)
def f_X4_put (i0 : Nat) (a1 : Int32) (a2 : Int32) (σ : Mm) (K : Mm → Prop) : Prop := (i0 < 4 ∧ (if (σ 13 i0 0) = (8 : Int32) then (vp_in a1 40 ∧ (∃ σ6, σ6 = mset σ 14 i0 (a1.toNatClampNeg) ((a2).toInt8.toInt32) ∧ (K σ6))) else (if (σ 13 i0 0) = (16 : Int32) then (vp_in a1 40 ∧ (∃ σ4, σ4 = mset σ 14 i0 (a1.toNatClampNeg) ((a2).toInt16.toInt32) ∧ (K σ4))) else (vp_in a1 40 ∧ (∃ σ2, σ2 = mset σ 14 i0 (a1.toNatClampNeg) a2 ∧ (K σ2))))))
set_option maxRecDepth 100000 in
set_option maxHeartbeats 4000000 in
theorem C_X4_put {g : GG} {i0 : Nat} {a1 : Int32} {a2 : Int32} {σ : Mm} {K : Mm → Prop} (h : f_X4_put i0 a1 a2 σ K) : Ct g 0 M_X4_put (QV g 0 K) [.ref (gad g 13 i0), .int a1, .int a2] σ := by
  unfold f_X4_put at h
  obtain ⟨hi0, h⟩ := h
  refine Ct.of (L := [(0, .ref (gad g 13 i0)), (1, .int a1), (2, .int a2)]) (show plainName RX4 = true by decide) (Nat.le_of_ble_eq_true rfl) rfl ?_
  refine AW.aload_n dX4_put_0 0 rfl ?_
  refine AW.get (k := 0) (v := .int (σ 13 i0 0)) (ids_in (Nat.le_of_ble_eq_true rfl) hi0) rfl rfl inGX4 (Nat.le_of_ble_eq_true rfl) w_190 rfl dX4_put_1 ?_
  refine AW.bipush (v := (8 : Int32)) dX4_put_4 rfl ?_
  refine AW.icmp_ne (tgt := 20) dX4_put_6 rfl (fun c => ?_) (fun c => ?_)
  · replace h := ite_f c h
    refine AW.aload_n dX4_put_20 0 rfl ?_
    refine AW.get (k := 2) (v := .ref (gad g 14 i0)) (ids_in (Nat.le_of_ble_eq_true rfl) hi0) rfl rfl inGX4 (Nat.le_of_ble_eq_true rfl) w_194 rfl dX4_put_21 ?_
    refine AW.iload_n dX4_put_24 1 rfl ?_
    refine AW.aload_n dX4_put_25 0 rfl ?_
    refine AW.get (k := 0) (v := .int (σ 13 i0 0)) (ids_in (Nat.le_of_ble_eq_true rfl) hi0) rfl rfl inGX4 (Nat.le_of_ble_eq_true rfl) w_190 rfl dX4_put_26 ?_
    refine AW.bipush (v := (16 : Int32)) dX4_put_29 rfl ?_
    refine AW.icmp_ne (tgt := 39) dX4_put_31 rfl (fun c => ?_) (fun c => ?_)
    · replace h := ite_f c h
      refine AW.iload_n dX4_put_39 2 rfl ?_
      obtain ⟨hq1, h⟩ := h
      refine AW.iast (jn := (a1.toNatClampNeg)) (ids_in (Nat.le_of_ble_eq_true rfl) hi0) (fun _ => rfl) hq1 rfl dX4_put_40 ?_
      obtain ⟨σ2, eσ2, h⟩ := h
      rw [← eσ2]
      exact AW.vret rfl dX4_put_41 h
    · replace h := ite_t c h
      refine AW.iload_n dX4_put_34 2 rfl ?_
      refine AW.i2s dX4_put_35 ?_
      refine AW.goto (tgt := 40) dX4_put_36 rfl ?_
      obtain ⟨hq3, h⟩ := h
      refine AW.iast (jn := (a1.toNatClampNeg)) (ids_in (Nat.le_of_ble_eq_true rfl) hi0) (fun _ => rfl) hq3 rfl dX4_put_40 ?_
      obtain ⟨σ4, eσ4, h⟩ := h
      rw [← eσ4]
      exact AW.vret rfl dX4_put_41 h
  · replace h := ite_t c h
    refine AW.aload_n dX4_put_9 0 rfl ?_
    refine AW.get (k := 2) (v := .ref (gad g 14 i0)) (ids_in (Nat.le_of_ble_eq_true rfl) hi0) rfl rfl inGX4 (Nat.le_of_ble_eq_true rfl) w_194 rfl dX4_put_10 ?_
    refine AW.iload_n dX4_put_13 1 rfl ?_
    refine AW.iload_n dX4_put_14 2 rfl ?_
    refine AW.i2b dX4_put_15 ?_
    obtain ⟨hq5, h⟩ := h
    refine AW.iast (jn := (a1.toNatClampNeg)) (ids_in (Nat.le_of_ble_eq_true rfl) hi0) (fun _ => rfl) hq5 rfl dX4_put_16 ?_
    obtain ⟨σ6, eσ6, h⟩ := h
    rw [← eσ6]
    refine AW.goto (tgt := 41) dX4_put_17 rfl ?_
    exact AW.vret rfl dX4_put_41 h
theorem ok_X4_put : OkV M_X4_put 2 := ⟨w_795, w_796, w_8, w_797, by decide +kernel, (Nat.le_of_ble_eq_true rfl)⟩
