def M_X7_hold : MT := (yX7_hold, cX7_hold, 3, some .int, 3)
def f_X7_hold (a1 : Int32) (a2 : Int32) (σ : Mm) (K : Int32 → Mm → Prop) : Prop := (f_X7_in ((a1).toInt64) (0 : Int64) (9 : Int64) σ (fun b2 σ1 => (if b2 = true then (if a2 = (-1 : Int32) then (vp_in ((126 : Int32) + a1) 136 ∧ (∃ σ6, σ6 = mset σ1 1 0 (((126 : Int32) + a1).toNatClampNeg) a2 ∧ (K (1 : Int32) σ6))) else (f_X7_isBench a2 σ1 (fun b8 σ7 => (if b8 = true then (vp_in ((126 : Int32) + a1) 136 ∧ (∃ σ10, σ10 = mset σ7 1 0 (((126 : Int32) + a1).toNatClampNeg) a2 ∧ (K (1 : Int32) σ10))) else (f_X7_finds (-1000001 : Int32) σ7 (fun r12 σ11 => (K r12 σ11))))))) else (f_X7_finds (-1000001 : Int32) σ1 (fun r4 σ3 => (K r4 σ3))))))
set_option maxRecDepth 100000 in
set_option maxHeartbeats 4000000 in
theorem C_X7_hold {g : GG} {a1 : Int32} {a2 : Int32} {σ : Mm} {K : Int32 → Mm → Prop} (h : f_X7_hold a1 a2 σ K) : Ct g 1 M_X7_hold (QI g 1 K) [.ref (gad g 0 0), .int a1, .int a2] σ := by
  unfold f_X7_hold at h
  refine Ct.of (L := [(0, .ref (gad g 0 0)), (1, .int a1), (2, .int a2)]) (show plainName RX7 = true by decide) (Nat.le_of_ble_eq_true rfl) rfl ?_
  refine AW.iload_n dX7_hold_0 1 rfl ?_
  refine AW.i2l dX7_hold_1 ?_
  refine AW.lconst (v := (0 : Int64)) dX7_hold_2 rfl ?_
  refine AW.ldc2 (v := (9 : Int64)) dX7_hold_3 w_1317 ?_
  refine AW.callSB [.long ((a1).toInt64), .long (0 : Int64), .long (9 : Int64)] (C_X7_in h) ok_X7_in w_947 rfl (Nat.le_of_ble_eq_true rfl) (Nat.le_of_ble_eq_true rfl) rfl dX7_hold_6 (fun b2 σ1 h => ?_)
  refine AW.ifb_eq (tgt := 25) dX7_hold_9 rfl (fun c => ?_) (fun c => ?_)
  · replace h := ite_f c h
    refine AW.aload_n dX7_hold_25 0 rfl ?_
    refine AW.ldc (v := (-1000001 : Int32)) dX7_hold_26 w_951 ?_
    refine AW.callVI [.int (-1000001 : Int32)] (C_X7_finds h) ok_X7_finds (id1_0_0) rfl rfl w_952 rfl (Nat.le_of_ble_eq_true rfl) (Nat.le_of_ble_eq_true rfl) rfl dX7_hold_28 (fun r4 σ3 h => ?_)
    exact AW.iret rfl dX7_hold_31 h
  · replace h := ite_t c h
    refine AW.iload_n dX7_hold_12 2 rfl ?_
    refine AW.iconst (v := (-1 : Int32)) dX7_hold_13 rfl ?_
    refine AW.icmp_eq (tgt := 32) dX7_hold_14 rfl (fun c => ?_) (fun c => ?_)
    · replace h := ite_t c h
      refine AW.aload_n dX7_hold_32 0 rfl ?_
      refine AW.get (k := 0) (v := .ref (gad g 1 0)) (id1_0_0) rfl rfl inGX7 (Nat.le_of_ble_eq_true rfl) w_872 rfl dX7_hold_33 ?_
      refine AW.bipush (v := (126 : Int32)) dX7_hold_36 rfl ?_
      refine AW.iload_n dX7_hold_38 1 rfl ?_
      refine AW.iadd dX7_hold_39 ?_
      refine AW.iload_n dX7_hold_40 2 rfl ?_
      obtain ⟨hq5, h⟩ := h
      refine AW.iast (jn := (((126 : Int32) + a1).toNatClampNeg)) (id1_1_0) (fun _ => rfl) hq5 rfl dX7_hold_41 ?_
      obtain ⟨σ6, eσ6, h⟩ := h
      rw [← eσ6]
      refine AW.iconst (v := (1 : Int32)) dX7_hold_42 rfl ?_
      exact AW.iret rfl dX7_hold_43 h
    · replace h := ite_f c h
      refine AW.aload_n dX7_hold_17 0 rfl ?_
      refine AW.iload_n dX7_hold_18 2 rfl ?_
      refine AW.callVB [.int a2] (C_X7_isBench h) ok_X7_isBench (id1_0_0) rfl rfl w_1015 rfl (Nat.le_of_ble_eq_true rfl) (Nat.le_of_ble_eq_true rfl) rfl dX7_hold_19 (fun b8 σ7 h => ?_)
      refine AW.ifb_ne (tgt := 32) dX7_hold_22 rfl (fun c => ?_) (fun c => ?_)
      · replace h := ite_t c h
        refine AW.aload_n dX7_hold_32 0 rfl ?_
        refine AW.get (k := 0) (v := .ref (gad g 1 0)) (id1_0_0) rfl rfl inGX7 (Nat.le_of_ble_eq_true rfl) w_872 rfl dX7_hold_33 ?_
        refine AW.bipush (v := (126 : Int32)) dX7_hold_36 rfl ?_
        refine AW.iload_n dX7_hold_38 1 rfl ?_
        refine AW.iadd dX7_hold_39 ?_
        refine AW.iload_n dX7_hold_40 2 rfl ?_
        obtain ⟨hq9, h⟩ := h
        refine AW.iast (jn := (((126 : Int32) + a1).toNatClampNeg)) (id1_1_0) (fun _ => rfl) hq9 rfl dX7_hold_41 ?_
        obtain ⟨σ10, eσ10, h⟩ := h
        rw [← eσ10]
        refine AW.iconst (v := (1 : Int32)) dX7_hold_42 rfl ?_
        exact AW.iret rfl dX7_hold_43 h
      · replace h := ite_f c h
        refine AW.aload_n dX7_hold_25 0 rfl ?_
        refine AW.ldc (v := (-1000001 : Int32)) dX7_hold_26 w_951 ?_
        refine AW.callVI [.int (-1000001 : Int32)] (C_X7_finds h) ok_X7_finds (id1_0_0) rfl rfl w_952 rfl (Nat.le_of_ble_eq_true rfl) (Nat.le_of_ble_eq_true rfl) rfl dX7_hold_28 (fun r12 σ11 h => ?_)
        exact AW.iret rfl dX7_hold_31 h
theorem ok_X7_hold : OkV M_X7_hold 2 := ⟨w_1314, w_1315, w_9, w_1316, by decide +kernel, (Nat.le_of_ble_eq_true rfl)⟩
def M_X7_above : MT := (yX7_above, cX7_above, 1, some .int, 1)
def f_X7_above (a0 : Int32) (σ : Mm) (K : Int32 → Mm → Prop) : Prop := (if a0 = (0 : Int32) then (K (-1 : Int32) σ) else (if a0 = (1 : Int32) then (K (0 : Int32) σ) else (if a0 = (2 : Int32) then (K (0 : Int32) σ) else (if a0 = (3 : Int32) then (K (0 : Int32) σ) else (if a0 = (4 : Int32) then (K (1 : Int32) σ) else (if a0 = (5 : Int32) then (K (2 : Int32) σ) else (if a0 = (6 : Int32) then (K (3 : Int32) σ) else (K (0 : Int32) σ))))))))
set_option maxRecDepth 100000 in
set_option maxHeartbeats 4000000 in
theorem C_X7_above {g : GG} {a0 : Int32} {σ : Mm} {K : Int32 → Mm → Prop} (h : f_X7_above a0 σ K) : Ct g 1 M_X7_above (QI g 1 K) [.int a0] σ := by
  unfold f_X7_above at h
  refine Ct.of (L := [(0, .int a0)]) (show plainName RX7 = true by decide) (Nat.le_of_ble_eq_true rfl) rfl ?_
  refine AW.iload_n dX7_above_0 0 rfl ?_
  by_cases c0 : a0 = (0 : Int32)
  · replace h := ite_t c0 h
    refine AW.tswIn (tgt := 44) (0 : Int32) dX7_above_1 c0 (by decide) (by decide) rfl rfl ?_
    refine AW.iconst (v := (-1 : Int32)) dX7_above_44 rfl ?_
    exact AW.iret rfl dX7_above_45 h
  · replace h := ite_f c0 h
    by_cases c1 : a0 = (1 : Int32)
    · replace h := ite_t c1 h
      refine AW.tswIn (tgt := 52) (1 : Int32) dX7_above_1 c1 (by decide) (by decide) rfl rfl ?_
      refine AW.iconst (v := (0 : Int32)) dX7_above_52 rfl ?_
      exact AW.iret rfl dX7_above_53 h
    · replace h := ite_f c1 h
      by_cases c2 : a0 = (2 : Int32)
      · replace h := ite_t c2 h
        refine AW.tswIn (tgt := 52) (2 : Int32) dX7_above_1 c2 (by decide) (by decide) rfl rfl ?_
        refine AW.iconst (v := (0 : Int32)) dX7_above_52 rfl ?_
        exact AW.iret rfl dX7_above_53 h
      · replace h := ite_f c2 h
        by_cases c3 : a0 = (3 : Int32)
        · replace h := ite_t c3 h
          refine AW.tswIn (tgt := 52) (3 : Int32) dX7_above_1 c3 (by decide) (by decide) rfl rfl ?_
          refine AW.iconst (v := (0 : Int32)) dX7_above_52 rfl ?_
          exact AW.iret rfl dX7_above_53 h
        · replace h := ite_f c3 h
          by_cases c4 : a0 = (4 : Int32)
          · replace h := ite_t c4 h
            refine AW.tswIn (tgt := 46) (4 : Int32) dX7_above_1 c4 (by decide) (by decide) rfl rfl ?_
            refine AW.iconst (v := (1 : Int32)) dX7_above_46 rfl ?_
            exact AW.iret rfl dX7_above_47 h
          · replace h := ite_f c4 h
            by_cases c5 : a0 = (5 : Int32)
            · replace h := ite_t c5 h
              refine AW.tswIn (tgt := 48) (5 : Int32) dX7_above_1 c5 (by decide) (by decide) rfl rfl ?_
              refine AW.iconst (v := (2 : Int32)) dX7_above_48 rfl ?_
              exact AW.iret rfl dX7_above_49 h
            · replace h := ite_f c5 h
              by_cases c6 : a0 = (6 : Int32)
              · replace h := ite_t c6 h
                refine AW.tswIn (tgt := 50) (6 : Int32) dX7_above_1 c6 (by decide) (by decide) rfl rfl ?_
                refine AW.iconst (v := (3 : Int32)) dX7_above_50 rfl ?_
                exact AW.iret rfl dX7_above_51 h
              · replace h := ite_f c6 h
                refine AW.tswOut (tgt := 52) dX7_above_1 (tsw_out fun k h1 h2 => ?_) rfl ?_
                · rcases (show k = 0 ∨ k = 1 ∨ k = 2 ∨ k = 3 ∨ k = 4 ∨ k = 5 ∨ k = 6 by omega) with rfl | rfl | rfl | rfl | rfl | rfl | rfl
                  all_goals assumption
                · refine AW.iconst (v := (0 : Int32)) dX7_above_52 rfl ?_
                  exact AW.iret rfl dX7_above_53 h
theorem ok_X7_above : OkS M_X7_above 1 := ⟨w_1324, w_9, w_1325, by decide +kernel, (Nat.le_of_ble_eq_true rfl)⟩
def M_X7_as : MT := (yX7_as, cX7_as, 5, some .int, 3)
set_option maxRecDepth 100000 in
def f_X7_as_55 (a2 : Int32) (a3 : Int32) (K : Int32 → Mm → Prop) : Nat → Int32 → Mm → Prop
  | 0, _, _ => False
  | n + 1, a4, σ => (if a4 < 0 then (f_X7_finds (-1000003 : Int32) σ (fun r11 σ10 => (K r11 σ10))) else (if a4 = a2 then (K a3 σ) else (f_X7_above a4 σ (fun r13 σ12 => (f_X7_as_55 a2 a3 K n r13 σ12)))))
set_option maxRecDepth 100000 in
set_option maxHeartbeats 4000000 in
theorem T_X7_as_55 {g : GG} {a2 : Int32} {a3 : Int32} {K : Int32 → Mm → Prop} : ∀ (n : Nat) (a4 : Int32) (σ : Mm), f_X7_as_55 a2 a3 K n a4 σ → AW g 1 M_X7_as (QI g 1 K) 55 [(0, .ref (gad g 0 0)), (2, .int a2), (3, .int a3), (4, .int a4)] [] σ := by
  intro n
  induction n with
  | zero => intro a4 σ h; exact False.elim h
  | succ n ih =>
    intro a4 σ h
    rw [f_X7_as_55] at h
    refine AW.iload dX7_as_55 3 rfl ?_
    refine AW.if_lt (tgt := 78) dX7_as_57 rfl (fun c => ?_) (fun c => ?_)
    · replace h := ite_t c h
      refine AW.aload_n dX7_as_78 0 rfl ?_
      refine AW.ldcw (v := (-1000003 : Int32)) dX7_as_79 w_1326 ?_
      refine AW.callVI [.int (-1000003 : Int32)] (C_X7_finds h) ok_X7_finds (id1_0_0) rfl rfl w_952 rfl (Nat.le_of_ble_eq_true rfl) (Nat.le_of_ble_eq_true rfl) rfl dX7_as_82 (fun r11 σ10 h => ?_)
      exact AW.iret rfl dX7_as_85 h
    · replace h := ite_f c h
      refine AW.iload dX7_as_60 3 rfl ?_
      refine AW.iload_n dX7_as_62 1 rfl ?_
      refine AW.icmp_ne (tgt := 68) dX7_as_63 rfl (fun c => ?_) (fun c => ?_)
      · replace h := ite_f c h
        refine AW.iload dX7_as_68 3 rfl ?_
        refine AW.callSI [.int a4] (C_X7_above h) ok_X7_above w_1323 rfl (Nat.le_of_ble_eq_true rfl) (Nat.le_of_ble_eq_true rfl) rfl dX7_as_70 (fun r13 σ12 h => ?_)
        refine AW.istore (L' := [(0, .ref (gad g 0 0)), (2, .int a2), (3, .int a3), (4, .int r13)]) dX7_as_73 (Nat.le_of_ble_eq_true rfl) rfl ?_
        refine AW.goto (tgt := 55) dX7_as_75 rfl ?_
        exact ih _ _ h
      · replace h := ite_t c h
        refine AW.iload_n dX7_as_66 2 rfl ?_
        exact AW.iret rfl dX7_as_67 h
def f_X7_as (a1 : Int32) (a2 : Int32) (σ : Mm) (K : Int32 → Mm → Prop) : Prop := (f_X7_in ((a1).toInt64) (0 : Int64) (9 : Int64) σ (fun b2 σ1 => (if b2 = true then (f_X7_isKind a2 σ1 (fun b6 σ5 => (if b6 = true then (vp_in ((126 : Int32) + a1) 136 ∧ (if 0 ≤ (σ5 1 0 (((126 : Int32) + a1).toNatClampNeg)) then (f_X7_kindOf (σ5 1 0 (((126 : Int32) + a1).toNatClampNeg)) σ5 (fun r9 σ8 => (∃ m, f_X7_as_55 a2 (σ5 1 0 (((126 : Int32) + a1).toNatClampNeg)) K m r9 σ8))) else (f_X7_finds (-1000006 : Int32) σ5 (fun r15 σ14 => (K r15 σ14))))) else (f_X7_finds (-1000001 : Int32) σ5 (fun r17 σ16 => (K r17 σ16)))))) else (f_X7_finds (-1000001 : Int32) σ1 (fun r4 σ3 => (K r4 σ3))))))
set_option maxRecDepth 100000 in
set_option maxHeartbeats 4000000 in
theorem C_X7_as {g : GG} {a1 : Int32} {a2 : Int32} {σ : Mm} {K : Int32 → Mm → Prop} (h : f_X7_as a1 a2 σ K) : Ct g 1 M_X7_as (QI g 1 K) [.ref (gad g 0 0), .int a1, .int a2] σ := by
  unfold f_X7_as at h
  refine Ct.of (L := [(0, .ref (gad g 0 0)), (1, .int a1), (2, .int a2)]) (show plainName RX7 = true by decide) (Nat.le_of_ble_eq_true rfl) rfl ?_
  refine AW.iload_n dX7_as_0 1 rfl ?_
  refine AW.i2l dX7_as_1 ?_
  refine AW.lconst (v := (0 : Int64)) dX7_as_2 rfl ?_
  refine AW.ldc2 (v := (9 : Int64)) dX7_as_3 w_1317 ?_
  refine AW.callSB [.long ((a1).toInt64), .long (0 : Int64), .long (9 : Int64)] (C_X7_in h) ok_X7_in w_947 rfl (Nat.le_of_ble_eq_true rfl) (Nat.le_of_ble_eq_true rfl) rfl dX7_as_6 (fun b2 σ1 h => ?_)
  refine AW.ifb_eq (tgt := 19) dX7_as_9 rfl (fun c => ?_) (fun c => ?_)
  · replace h := ite_f c h
    refine AW.aload_n dX7_as_19 0 rfl ?_
    refine AW.ldc (v := (-1000001 : Int32)) dX7_as_20 w_951 ?_
    refine AW.callVI [.int (-1000001 : Int32)] (C_X7_finds h) ok_X7_finds (id1_0_0) rfl rfl w_952 rfl (Nat.le_of_ble_eq_true rfl) (Nat.le_of_ble_eq_true rfl) rfl dX7_as_22 (fun r4 σ3 h => ?_)
    exact AW.iret rfl dX7_as_25 h
  · replace h := ite_t c h
    refine AW.iload_n dX7_as_12 2 rfl ?_
    refine AW.callSB [.int a2] (C_X7_isKind h) ok_X7_isKind w_998 rfl (Nat.le_of_ble_eq_true rfl) (Nat.le_of_ble_eq_true rfl) rfl dX7_as_13 (fun b6 σ5 h => ?_)
    refine AW.ifb_ne (tgt := 26) dX7_as_16 rfl (fun c => ?_) (fun c => ?_)
    · replace h := ite_t c h
      refine AW.aload_n dX7_as_26 0 rfl ?_
      refine AW.get (k := 0) (v := .ref (gad g 1 0)) (id1_0_0) rfl rfl inGX7 (Nat.le_of_ble_eq_true rfl) w_872 rfl dX7_as_27 ?_
      refine AW.bipush (v := (126 : Int32)) dX7_as_30 rfl ?_
      refine AW.iload_n dX7_as_32 1 rfl ?_
      refine AW.iadd dX7_as_33 ?_
      obtain ⟨hq7, h⟩ := h
      refine AW.iald (jn := (((126 : Int32) + a1).toNatClampNeg)) (id1_1_0) rfl hq7 rfl dX7_as_34 ?_
      refine AW.istore_n (L' := [(0, .ref (gad g 0 0)), (1, .int a1), (2, .int a2), (3, .int (σ5 1 0 (((126 : Int32) + a1).toNatClampNeg)))]) dX7_as_35 (Nat.le_of_ble_eq_true rfl) rfl ?_
      refine AW.iload_n dX7_as_36 3 rfl ?_
      refine AW.if_ge (tgt := 48) dX7_as_37 rfl (fun c => ?_) (fun c => ?_)
      · replace h := ite_t c h
        refine AW.aload_n dX7_as_48 0 rfl ?_
        refine AW.iload_n dX7_as_49 3 rfl ?_
        refine AW.callVI [.int (σ5 1 0 (((126 : Int32) + a1).toNatClampNeg))] (C_X7_kindOf h) ok_X7_kindOf (id1_0_0) rfl rfl w_1024 rfl (Nat.le_of_ble_eq_true rfl) (Nat.le_of_ble_eq_true rfl) rfl dX7_as_50 (fun r9 σ8 h => ?_)
        refine AW.istore (L' := [(0, .ref (gad g 0 0)), (1, .int a1), (2, .int a2), (3, .int (σ5 1 0 (((126 : Int32) + a1).toNatClampNeg))), (4, .int r9)]) dX7_as_53 (Nat.le_of_ble_eq_true rfl) rfl ?_
        obtain ⟨m, h⟩ := h
        refine AW.eqL [0, 2, 3, 4] rfl ?_
        refine T_X7_as_55 m _ _ h
      · replace h := ite_f c h
        refine AW.aload_n dX7_as_40 0 rfl ?_
        refine AW.ldcw (v := (-1000006 : Int32)) dX7_as_41 w_1322 ?_
        refine AW.callVI [.int (-1000006 : Int32)] (C_X7_finds h) ok_X7_finds (id1_0_0) rfl rfl w_952 rfl (Nat.le_of_ble_eq_true rfl) (Nat.le_of_ble_eq_true rfl) rfl dX7_as_44 (fun r15 σ14 h => ?_)
        exact AW.iret rfl dX7_as_47 h
    · replace h := ite_f c h
      refine AW.aload_n dX7_as_19 0 rfl ?_
      refine AW.ldc (v := (-1000001 : Int32)) dX7_as_20 w_951 ?_
      refine AW.callVI [.int (-1000001 : Int32)] (C_X7_finds h) ok_X7_finds (id1_0_0) rfl rfl w_952 rfl (Nat.le_of_ble_eq_true rfl) (Nat.le_of_ble_eq_true rfl) rfl dX7_as_22 (fun r17 σ16 h => ?_)
      exact AW.iret rfl dX7_as_25 h
theorem ok_X7_as : OkV M_X7_as 2 := ⟨w_1319, w_1320, w_9, w_1321, by decide +kernel, (Nat.le_of_ble_eq_true rfl)⟩
def M_X7_isSheet : MT := (yX7_isSheet, cX7_isSheet, 1, some .boolean, 2)
def f_X7_isSheet (a0 : Int32) (σ : Mm) (K : Bool → Mm → Prop) : Prop := (f_X7_in ((a0).toInt64) (0 : Int64) (3 : Int64) σ (fun b2 σ1 => (K b2 σ1)))
set_option maxRecDepth 100000 in
set_option maxHeartbeats 4000000 in
theorem C_X7_isSheet {g : GG} {a0 : Int32} {σ : Mm} {K : Bool → Mm → Prop} (h : f_X7_isSheet a0 σ K) : Ct g 1 M_X7_isSheet (QB g 1 K) [.int a0] σ := by
  unfold f_X7_isSheet at h
  refine Ct.of (L := [(0, .int a0)]) (show plainName RX7 = true by decide) (Nat.le_of_ble_eq_true rfl) rfl ?_
  refine AW.iload_n dX7_isSheet_0 0 rfl ?_
  refine AW.i2l dX7_isSheet_1 ?_
  refine AW.lconst (v := (0 : Int64)) dX7_isSheet_2 rfl ?_
  refine AW.ldc2 (v := (3 : Int64)) dX7_isSheet_3 w_1334 ?_
  refine AW.callSB [.long ((a0).toInt64), .long (0 : Int64), .long (3 : Int64)] (C_X7_in h) ok_X7_in w_947 rfl (Nat.le_of_ble_eq_true rfl) (Nat.le_of_ble_eq_true rfl) rfl dX7_isSheet_6 (fun b2 σ1 h => ?_)
  exact AW.bret b2 rfl rfl dX7_isSheet_9 h
theorem ok_X7_isSheet : OkS M_X7_isSheet 1 := ⟨w_1332, w_9, w_1333, by decide +kernel, (Nat.le_of_ble_eq_true rfl)⟩
def M_X7_sheet : MT := (yX7_sheet, cX7_sheet, 5, some .int, 3)
set_option maxRecDepth 100000 in
def f_X7_sheet_85 (a1 : Int32) (K : Int32 → Mm → Prop) : Nat → Int32 → Mm → Prop
  | 0, _, _ => False
  | n + 1, a4, σ => (if (40 : Int32) ≤ a4 then (vp_in a1 4 ∧ (K (σ 11 0 (a1.toNatClampNeg)) σ)) else (vp_in (((40 : Int32) * a1) + a4) 160 ∧ (∃ σ11, σ11 = mset σ 12 0 ((((40 : Int32) * a1) + a4).toNatClampNeg) (0 : Int32) ∧ (f_X7_sheet_85 a1 K n (a4 + (1 : Int32)) σ11))))
set_option maxRecDepth 100000 in
set_option maxHeartbeats 4000000 in
theorem T_X7_sheet_85 {g : GG} {a1 : Int32} {K : Int32 → Mm → Prop} : ∀ (n : Nat) (a4 : Int32) (σ : Mm), f_X7_sheet_85 a1 K n a4 σ → AW g 1 M_X7_sheet (QI g 1 K) 85 [(0, .ref (gad g 0 0)), (1, .int a1), (4, .int a4)] [] σ := by
  intro n
  induction n with
  | zero => intro a4 σ h; exact False.elim h
  | succ n ih =>
    intro a4 σ h
    rw [f_X7_sheet_85] at h
    refine AW.iload dX7_sheet_85 2 rfl ?_
    refine AW.bipush (v := (40 : Int32)) dX7_sheet_87 rfl ?_
    refine AW.icmp_ge (tgt := 111) dX7_sheet_89 rfl (fun c => ?_) (fun c => ?_)
    · replace h := ite_t c h
      refine AW.aload_n dX7_sheet_111 0 rfl ?_
      refine AW.get (k := 19) (v := .ref (gad g 11 0)) (id1_0_0) rfl rfl inGX7 (Nat.le_of_ble_eq_true rfl) w_891 rfl dX7_sheet_112 ?_
      refine AW.iload_n dX7_sheet_115 1 rfl ?_
      obtain ⟨hq9, h⟩ := h
      refine AW.iald (jn := (a1.toNatClampNeg)) (id1_11_0) rfl hq9 rfl dX7_sheet_116 ?_
      exact AW.iret rfl dX7_sheet_117 h
    · replace h := ite_f c h
      refine AW.aload_n dX7_sheet_92 0 rfl ?_
      refine AW.get (k := 20) (v := .ref (gad g 12 0)) (id1_0_0) rfl rfl inGX7 (Nat.le_of_ble_eq_true rfl) w_892 rfl dX7_sheet_93 ?_
      refine AW.bipush (v := (40 : Int32)) dX7_sheet_96 rfl ?_
      refine AW.iload_n dX7_sheet_98 1 rfl ?_
      refine AW.imul dX7_sheet_99 ?_
      refine AW.iload dX7_sheet_100 2 rfl ?_
      refine AW.iadd dX7_sheet_102 ?_
      refine AW.iconst (v := (0 : Int32)) dX7_sheet_103 rfl ?_
      obtain ⟨hq10, h⟩ := h
      refine AW.iast (jn := ((((40 : Int32) * a1) + a4).toNatClampNeg)) (id1_12_0) (fun _ => rfl) hq10 rfl dX7_sheet_104 ?_
      obtain ⟨σ11, eσ11, h⟩ := h
      rw [← eσ11]
      refine AW.iinc (v := (a4 + (1 : Int32))) (L' := [(0, .ref (gad g 0 0)), (1, .int a1), (4, .int (a4 + (1 : Int32)))]) dX7_sheet_105 2 rfl rfl (Nat.le_of_ble_eq_true rfl) rfl ?_
      refine AW.goto (tgt := 85) dX7_sheet_108 rfl ?_
      exact ih _ _ h
def f_X7_sheet_81 (a1 : Int32) (as2 : Int32) (as1 : Int32) (K : Int32 → Mm → Prop) (σ : Mm) : Prop := (vp_in as1 4 ∧ (∃ σ8, σ8 = mset σ 11 0 (as1.toNatClampNeg) as2 ∧ (∃ m, f_X7_sheet_85 a1 K m (0 : Int32) σ8)))
set_option maxRecDepth 100000 in
set_option maxHeartbeats 4000000 in
theorem T_X7_sheet_81 {g : GG} {a1 : Int32} {as2 : Int32} {as1 : Int32} {K : Int32 → Mm → Prop} {σ : Mm} (h : f_X7_sheet_81 a1 as2 as1 K σ) : AW g 1 M_X7_sheet (QI g 1 K) 81 [(0, .ref (gad g 0 0)), (1, .int a1)] [.int as2, .int as1, .ref (gad g 11 0)] σ := by
  unfold f_X7_sheet_81 at h
  obtain ⟨hq7, h⟩ := h
  refine AW.iast (jn := (as1.toNatClampNeg)) (id1_11_0) (fun _ => rfl) hq7 rfl dX7_sheet_81 ?_
  obtain ⟨σ8, eσ8, h⟩ := h
  rw [← eσ8]
  refine AW.iconst (v := (0 : Int32)) dX7_sheet_82 rfl ?_
  refine AW.istore (L' := [(0, .ref (gad g 0 0)), (1, .int a1), (4, .int (0 : Int32))]) dX7_sheet_83 (Nat.le_of_ble_eq_true rfl) rfl ?_
  obtain ⟨m, h⟩ := h
  refine T_X7_sheet_85 m _ _ h
def f_X7_sheet_36 (a1 : Int32) (a2 : Int32) (a3 : Int32) (K : Int32 → Mm → Prop) (σ : Mm) : Prop := (if 0 ≤ a3 then (if a3 ≤ (40 : Int32) then (vp_in a1 4 ∧ (∃ σ6, σ6 = mset σ 10 0 (a1.toNatClampNeg) a2 ∧ (if a2 = 0 then (f_X7_sheet_81 a1 (0 : Int32) a1 K σ6) else (f_X7_sheet_81 a1 a3 a1 K σ6)))) else (f_X7_finds (-1000001 : Int32) σ (fun r13 σ12 => (K r13 σ12)))) else (f_X7_finds (-1000007 : Int32) σ (fun r15 σ14 => (K r15 σ14))))
set_option maxRecDepth 100000 in
set_option maxHeartbeats 4000000 in
theorem T_X7_sheet_36 {g : GG} {a1 : Int32} {a2 : Int32} {a3 : Int32} {K : Int32 → Mm → Prop} {σ : Mm} (h : f_X7_sheet_36 a1 a2 a3 K σ) : AW g 1 M_X7_sheet (QI g 1 K) 36 [(0, .ref (gad g 0 0)), (1, .int a1), (2, .int a2), (3, .int a3)] [] σ := by
  unfold f_X7_sheet_36 at h
  refine AW.iload_n dX7_sheet_36 3 rfl ?_
  refine AW.if_ge (tgt := 47) dX7_sheet_37 rfl (fun c => ?_) (fun c => ?_)
  · replace h := ite_t c h
    refine AW.iload_n dX7_sheet_47 3 rfl ?_
    refine AW.bipush (v := (40 : Int32)) dX7_sheet_48 rfl ?_
    refine AW.icmp_le (tgt := 60) dX7_sheet_50 rfl (fun c => ?_) (fun c => ?_)
    · replace h := ite_t c h
      refine AW.aload_n dX7_sheet_60 0 rfl ?_
      refine AW.get (k := 18) (v := .ref (gad g 10 0)) (id1_0_0) rfl rfl inGX7 (Nat.le_of_ble_eq_true rfl) w_890 rfl dX7_sheet_61 ?_
      refine AW.iload_n dX7_sheet_64 1 rfl ?_
      refine AW.iload_n dX7_sheet_65 2 rfl ?_
      obtain ⟨hq5, h⟩ := h
      refine AW.iast (jn := (a1.toNatClampNeg)) (id1_10_0) (fun _ => rfl) hq5 rfl dX7_sheet_66 ?_
      obtain ⟨σ6, eσ6, h⟩ := h
      rw [← eσ6]
      refine AW.aload_n dX7_sheet_67 0 rfl ?_
      refine AW.get (k := 19) (v := .ref (gad g 11 0)) (id1_0_0) rfl rfl inGX7 (Nat.le_of_ble_eq_true rfl) w_891 rfl dX7_sheet_68 ?_
      refine AW.iload_n dX7_sheet_71 1 rfl ?_
      refine AW.iload_n dX7_sheet_72 2 rfl ?_
      refine AW.if_ne (tgt := 80) dX7_sheet_73 rfl (fun c => ?_) (fun c => ?_)
      · replace h := ite_f c h
        refine AW.iload_n dX7_sheet_80 3 rfl ?_
        refine AW.eqL [0, 1] rfl ?_
        exact T_X7_sheet_81 h
      · replace h := ite_t c h
        refine AW.iconst (v := (0 : Int32)) dX7_sheet_76 rfl ?_
        refine AW.goto (tgt := 81) dX7_sheet_77 rfl ?_
        refine AW.eqL [0, 1] rfl ?_
        exact T_X7_sheet_81 h
    · replace h := ite_f c h
      refine AW.aload_n dX7_sheet_53 0 rfl ?_
      refine AW.ldc (v := (-1000001 : Int32)) dX7_sheet_54 w_951 ?_
      refine AW.callVI [.int (-1000001 : Int32)] (C_X7_finds h) ok_X7_finds (id1_0_0) rfl rfl w_952 rfl (Nat.le_of_ble_eq_true rfl) (Nat.le_of_ble_eq_true rfl) rfl dX7_sheet_56 (fun r13 σ12 h => ?_)
      exact AW.iret rfl dX7_sheet_59 h
  · replace h := ite_f c h
    refine AW.aload_n dX7_sheet_40 0 rfl ?_
    refine AW.ldc (v := (-1000007 : Int32)) dX7_sheet_41 w_1157 ?_
    refine AW.callVI [.int (-1000007 : Int32)] (C_X7_finds h) ok_X7_finds (id1_0_0) rfl rfl w_952 rfl (Nat.le_of_ble_eq_true rfl) (Nat.le_of_ble_eq_true rfl) rfl dX7_sheet_43 (fun r15 σ14 h => ?_)
    exact AW.iret rfl dX7_sheet_46 h
def f_X7_sheet (a1 : Int32) (a2 : Int32) (a3 : Int32) (σ : Mm) (K : Int32 → Mm → Prop) : Prop := (f_X7_isSheet a1 σ (fun b2 σ1 => (if b2 = true then (if a2 = 0 then (f_X7_sheet_36 a1 a2 a3 K σ1) else (if a2 = (8 : Int32) then (f_X7_sheet_36 a1 a2 a3 K σ1) else (if a2 = (16 : Int32) then (f_X7_sheet_36 a1 a2 a3 K σ1) else (if a2 = (32 : Int32) then (f_X7_sheet_36 a1 a2 a3 K σ1) else (f_X7_finds (-1000001 : Int32) σ1 (fun r17 σ16 => (K r17 σ16))))))) else (f_X7_finds (-1000001 : Int32) σ1 (fun r4 σ3 => (K r4 σ3))))))
set_option maxRecDepth 100000 in
set_option maxHeartbeats 4000000 in
theorem C_X7_sheet {g : GG} {a1 : Int32} {a2 : Int32} {a3 : Int32} {σ : Mm} {K : Int32 → Mm → Prop} (h : f_X7_sheet a1 a2 a3 σ K) : Ct g 1 M_X7_sheet (QI g 1 K) [.ref (gad g 0 0), .int a1, .int a2, .int a3] σ := by
  unfold f_X7_sheet at h
  refine Ct.of (L := [(0, .ref (gad g 0 0)), (1, .int a1), (2, .int a2), (3, .int a3)]) (show plainName RX7 = true by decide) (Nat.le_of_ble_eq_true rfl) rfl ?_
  refine AW.iload_n dX7_sheet_0 1 rfl ?_
  refine AW.callSB [.int a1] (C_X7_isSheet h) ok_X7_isSheet w_1331 rfl (Nat.le_of_ble_eq_true rfl) (Nat.le_of_ble_eq_true rfl) rfl dX7_sheet_1 (fun b2 σ1 h => ?_)
  refine AW.ifb_eq (tgt := 29) dX7_sheet_4 rfl (fun c => ?_) (fun c => ?_)
  · replace h := ite_f c h
    refine AW.aload_n dX7_sheet_29 0 rfl ?_
    refine AW.ldc (v := (-1000001 : Int32)) dX7_sheet_30 w_951 ?_
    refine AW.callVI [.int (-1000001 : Int32)] (C_X7_finds h) ok_X7_finds (id1_0_0) rfl rfl w_952 rfl (Nat.le_of_ble_eq_true rfl) (Nat.le_of_ble_eq_true rfl) rfl dX7_sheet_32 (fun r4 σ3 h => ?_)
    exact AW.iret rfl dX7_sheet_35 h
  · replace h := ite_t c h
    refine AW.iload_n dX7_sheet_7 2 rfl ?_
    refine AW.if_eq (tgt := 36) dX7_sheet_8 rfl (fun c => ?_) (fun c => ?_)
    · replace h := ite_t c h
      exact T_X7_sheet_36 h
    · replace h := ite_f c h
      refine AW.iload_n dX7_sheet_11 2 rfl ?_
      refine AW.bipush (v := (8 : Int32)) dX7_sheet_12 rfl ?_
      refine AW.icmp_eq (tgt := 36) dX7_sheet_14 rfl (fun c => ?_) (fun c => ?_)
      · replace h := ite_t c h
        exact T_X7_sheet_36 h
      · replace h := ite_f c h
        refine AW.iload_n dX7_sheet_17 2 rfl ?_
        refine AW.bipush (v := (16 : Int32)) dX7_sheet_18 rfl ?_
        refine AW.icmp_eq (tgt := 36) dX7_sheet_20 rfl (fun c => ?_) (fun c => ?_)
        · replace h := ite_t c h
          exact T_X7_sheet_36 h
        · replace h := ite_f c h
          refine AW.iload_n dX7_sheet_23 2 rfl ?_
          refine AW.bipush (v := (32 : Int32)) dX7_sheet_24 rfl ?_
          refine AW.icmp_eq (tgt := 36) dX7_sheet_26 rfl (fun c => ?_) (fun c => ?_)
          · replace h := ite_t c h
            exact T_X7_sheet_36 h
          · replace h := ite_f c h
            refine AW.aload_n dX7_sheet_29 0 rfl ?_
            refine AW.ldc (v := (-1000001 : Int32)) dX7_sheet_30 w_951 ?_
            refine AW.callVI [.int (-1000001 : Int32)] (C_X7_finds h) ok_X7_finds (id1_0_0) rfl rfl w_952 rfl (Nat.le_of_ble_eq_true rfl) (Nat.le_of_ble_eq_true rfl) rfl dX7_sheet_32 (fun r17 σ16 h => ?_)
            exact AW.iret rfl dX7_sheet_35 h
theorem ok_X7_sheet : OkV M_X7_sheet 3 := ⟨w_1328, w_1329, w_9, w_1330, by decide +kernel, (Nat.le_of_ble_eq_true rfl)⟩
def M_X7_write : MT := (yX7_write, cX7_write, 4, some .int, 3)
def f_X7_write (a1 : Int32) (a2 : Int32) (a3 : Int32) (σ : Mm) (K : Int32 → Mm → Prop) : Prop := (f_X7_isSheet a1 σ (fun b2 σ1 => (if b2 = true then (vp_in a1 4 ∧ (if (σ1 10 0 (a1.toNatClampNeg)) = 0 then (f_X7_finds (-1000006 : Int32) σ1 (fun r18 σ17 => (K r18 σ17))) else (vp_in a1 4 ∧ (f_X7_in ((a2).toInt64) (0 : Int64) ((((σ1 11 0 (a1.toNatClampNeg)) - (1 : Int32))).toInt64) σ1 (fun b6 σ5 => (if b6 = true then (vp_in a1 4 ∧ (if (σ5 10 0 (a1.toNatClampNeg)) = (8 : Int32) then (vp_in (((40 : Int32) * a1) + a2) 160 ∧ (∃ σ14, σ14 = mset σ5 12 0 ((((40 : Int32) * a1) + a2).toNatClampNeg) ((a3).toInt8.toInt32) ∧ (K (1 : Int32) σ14))) else (vp_in a1 4 ∧ (if (σ5 10 0 (a1.toNatClampNeg)) = (16 : Int32) then (vp_in (((40 : Int32) * a1) + a2) 160 ∧ (∃ σ12, σ12 = mset σ5 12 0 ((((40 : Int32) * a1) + a2).toNatClampNeg) ((a3).toInt16.toInt32) ∧ (K (1 : Int32) σ12))) else (vp_in (((40 : Int32) * a1) + a2) 160 ∧ (∃ σ10, σ10 = mset σ5 12 0 ((((40 : Int32) * a1) + a2).toNatClampNeg) a3 ∧ (K (1 : Int32) σ10))))))) else (f_X7_finds (-1000001 : Int32) σ5 (fun r16 σ15 => (K r16 σ15))))))))) else (f_X7_finds (-1000001 : Int32) σ1 (fun r20 σ19 => (K r20 σ19))))))
set_option maxRecDepth 100000 in
set_option maxHeartbeats 4000000 in
theorem C_X7_write {g : GG} {a1 : Int32} {a2 : Int32} {a3 : Int32} {σ : Mm} {K : Int32 → Mm → Prop} (h : f_X7_write a1 a2 a3 σ K) : Ct g 1 M_X7_write (QI g 1 K) [.ref (gad g 0 0), .int a1, .int a2, .int a3] σ := by
  unfold f_X7_write at h
  refine Ct.of (L := [(0, .ref (gad g 0 0)), (1, .int a1), (2, .int a2), (3, .int a3)]) (show plainName RX7 = true by decide) (Nat.le_of_ble_eq_true rfl) rfl ?_
  refine AW.iload_n dX7_write_0 1 rfl ?_
  refine AW.callSB [.int a1] (C_X7_isSheet h) ok_X7_isSheet w_1331 rfl (Nat.le_of_ble_eq_true rfl) (Nat.le_of_ble_eq_true rfl) rfl dX7_write_1 (fun b2 σ1 h => ?_)
  refine AW.ifb_ne (tgt := 14) dX7_write_4 rfl (fun c => ?_) (fun c => ?_)
  · replace h := ite_t c h
    refine AW.aload_n dX7_write_14 0 rfl ?_
    refine AW.get (k := 18) (v := .ref (gad g 10 0)) (id1_0_0) rfl rfl inGX7 (Nat.le_of_ble_eq_true rfl) w_890 rfl dX7_write_15 ?_
    refine AW.iload_n dX7_write_18 1 rfl ?_
    obtain ⟨hq3, h⟩ := h
    refine AW.iald (jn := (a1.toNatClampNeg)) (id1_10_0) rfl hq3 rfl dX7_write_19 ?_
    refine AW.if_ne (tgt := 31) dX7_write_20 rfl (fun c => ?_) (fun c => ?_)
    · replace h := ite_f c h
      refine AW.iload_n dX7_write_31 2 rfl ?_
      refine AW.i2l dX7_write_32 ?_
      refine AW.lconst (v := (0 : Int64)) dX7_write_33 rfl ?_
      refine AW.aload_n dX7_write_34 0 rfl ?_
      refine AW.get (k := 19) (v := .ref (gad g 11 0)) (id1_0_0) rfl rfl inGX7 (Nat.le_of_ble_eq_true rfl) w_891 rfl dX7_write_35 ?_
      refine AW.iload_n dX7_write_38 1 rfl ?_
      obtain ⟨hq4, h⟩ := h
      refine AW.iald (jn := (a1.toNatClampNeg)) (id1_11_0) rfl hq4 rfl dX7_write_39 ?_
      refine AW.iconst (v := (1 : Int32)) dX7_write_40 rfl ?_
      refine AW.isub dX7_write_41 ?_
      refine AW.i2l dX7_write_42 ?_
      refine AW.callSB [.long ((a2).toInt64), .long (0 : Int64), .long ((((σ1 11 0 (a1.toNatClampNeg)) - (1 : Int32))).toInt64)] (C_X7_in h) ok_X7_in w_947 rfl (Nat.le_of_ble_eq_true rfl) (Nat.le_of_ble_eq_true rfl) rfl dX7_write_43 (fun b6 σ5 h => ?_)
      refine AW.ifb_ne (tgt := 56) dX7_write_46 rfl (fun c => ?_) (fun c => ?_)
      · replace h := ite_t c h
        refine AW.aload_n dX7_write_56 0 rfl ?_
        refine AW.get (k := 20) (v := .ref (gad g 12 0)) (id1_0_0) rfl rfl inGX7 (Nat.le_of_ble_eq_true rfl) w_892 rfl dX7_write_57 ?_
        refine AW.bipush (v := (40 : Int32)) dX7_write_60 rfl ?_
        refine AW.iload_n dX7_write_62 1 rfl ?_
        refine AW.imul dX7_write_63 ?_
        refine AW.iload_n dX7_write_64 2 rfl ?_
        refine AW.iadd dX7_write_65 ?_
        refine AW.aload_n dX7_write_66 0 rfl ?_
        refine AW.get (k := 18) (v := .ref (gad g 10 0)) (id1_0_0) rfl rfl inGX7 (Nat.le_of_ble_eq_true rfl) w_890 rfl dX7_write_67 ?_
        refine AW.iload_n dX7_write_70 1 rfl ?_
        obtain ⟨hq7, h⟩ := h
        refine AW.iald (jn := (a1.toNatClampNeg)) (id1_10_0) rfl hq7 rfl dX7_write_71 ?_
        refine AW.bipush (v := (8 : Int32)) dX7_write_72 rfl ?_
        refine AW.icmp_ne (tgt := 82) dX7_write_74 rfl (fun c => ?_) (fun c => ?_)
        · replace h := ite_f c h
          refine AW.aload_n dX7_write_82 0 rfl ?_
          refine AW.get (k := 18) (v := .ref (gad g 10 0)) (id1_0_0) rfl rfl inGX7 (Nat.le_of_ble_eq_true rfl) w_890 rfl dX7_write_83 ?_
          refine AW.iload_n dX7_write_86 1 rfl ?_
          obtain ⟨hq8, h⟩ := h
          refine AW.iald (jn := (a1.toNatClampNeg)) (id1_10_0) rfl hq8 rfl dX7_write_87 ?_
          refine AW.bipush (v := (16 : Int32)) dX7_write_88 rfl ?_
          refine AW.icmp_ne (tgt := 98) dX7_write_90 rfl (fun c => ?_) (fun c => ?_)
          · replace h := ite_f c h
            refine AW.iload_n dX7_write_98 3 rfl ?_
            obtain ⟨hq9, h⟩ := h
            refine AW.iast (jn := ((((40 : Int32) * a1) + a2).toNatClampNeg)) (id1_12_0) (fun _ => rfl) hq9 rfl dX7_write_99 ?_
            obtain ⟨σ10, eσ10, h⟩ := h
            rw [← eσ10]
            refine AW.iconst (v := (1 : Int32)) dX7_write_100 rfl ?_
            exact AW.iret rfl dX7_write_101 h
          · replace h := ite_t c h
            refine AW.iload_n dX7_write_93 3 rfl ?_
            refine AW.i2s dX7_write_94 ?_
            refine AW.goto (tgt := 99) dX7_write_95 rfl ?_
            obtain ⟨hq11, h⟩ := h
            refine AW.iast (jn := ((((40 : Int32) * a1) + a2).toNatClampNeg)) (id1_12_0) (fun _ => rfl) hq11 rfl dX7_write_99 ?_
            obtain ⟨σ12, eσ12, h⟩ := h
            rw [← eσ12]
            refine AW.iconst (v := (1 : Int32)) dX7_write_100 rfl ?_
            exact AW.iret rfl dX7_write_101 h
        · replace h := ite_t c h
          refine AW.iload_n dX7_write_77 3 rfl ?_
          refine AW.i2b dX7_write_78 ?_
          refine AW.goto (tgt := 99) dX7_write_79 rfl ?_
          obtain ⟨hq13, h⟩ := h
          refine AW.iast (jn := ((((40 : Int32) * a1) + a2).toNatClampNeg)) (id1_12_0) (fun _ => rfl) hq13 rfl dX7_write_99 ?_
          obtain ⟨σ14, eσ14, h⟩ := h
          rw [← eσ14]
          refine AW.iconst (v := (1 : Int32)) dX7_write_100 rfl ?_
          exact AW.iret rfl dX7_write_101 h
      · replace h := ite_f c h
        refine AW.aload_n dX7_write_49 0 rfl ?_
        refine AW.ldc (v := (-1000001 : Int32)) dX7_write_50 w_951 ?_
        refine AW.callVI [.int (-1000001 : Int32)] (C_X7_finds h) ok_X7_finds (id1_0_0) rfl rfl w_952 rfl (Nat.le_of_ble_eq_true rfl) (Nat.le_of_ble_eq_true rfl) rfl dX7_write_52 (fun r16 σ15 h => ?_)
        exact AW.iret rfl dX7_write_55 h
    · replace h := ite_t c h
      refine AW.aload_n dX7_write_23 0 rfl ?_
      refine AW.ldcw (v := (-1000006 : Int32)) dX7_write_24 w_1322 ?_
      refine AW.callVI [.int (-1000006 : Int32)] (C_X7_finds h) ok_X7_finds (id1_0_0) rfl rfl w_952 rfl (Nat.le_of_ble_eq_true rfl) (Nat.le_of_ble_eq_true rfl) rfl dX7_write_27 (fun r18 σ17 h => ?_)
      exact AW.iret rfl dX7_write_30 h
  · replace h := ite_f c h
    refine AW.aload_n dX7_write_7 0 rfl ?_
    refine AW.ldc (v := (-1000001 : Int32)) dX7_write_8 w_951 ?_
    refine AW.callVI [.int (-1000001 : Int32)] (C_X7_finds h) ok_X7_finds (id1_0_0) rfl rfl w_952 rfl (Nat.le_of_ble_eq_true rfl) (Nat.le_of_ble_eq_true rfl) rfl dX7_write_10 (fun r20 σ19 h => ?_)
    exact AW.iret rfl dX7_write_13 h
theorem ok_X7_write : OkV M_X7_write 3 := ⟨w_1336, w_1337, w_9, w_1338, by decide +kernel, (Nat.le_of_ble_eq_true rfl)⟩
def M_X7_copy : MT := (yX7_copy, cX7_copy, 9, some .int, 3)
def f_X7_copy_163 (a1 : Int32) (a2 : Int32) (a3 : Int32) (a4 : Int32) (a5 : Int32) (a6 : Int32) (a7 : Int32) (as0 : Int32) (K : Int32 → Mm → Prop) (k139 : Int32 → Mm → Prop) (σ : Mm) : Prop := (vp_in ((((40 : Int32) * a1) + a2) + as0) 160 ∧ (vp_in ((((40 : Int32) * a3) + a4) + as0) 160 ∧ (∃ σ25, σ25 = mset σ 12 0 (((((40 : Int32) * a3) + a4) + as0).toNatClampNeg) (σ 12 0 (((((40 : Int32) * a1) + a2) + as0).toNatClampNeg)) ∧ (k139 (a7 + (1 : Int32)) σ25))))
set_option maxRecDepth 100000 in
set_option maxHeartbeats 4000000 in
theorem T_X7_copy_163 {g : GG} {a1 : Int32} {a2 : Int32} {a3 : Int32} {a4 : Int32} {a5 : Int32} {a6 : Int32} {a7 : Int32} {as0 : Int32} {K : Int32 → Mm → Prop} {k139 : Int32 → Mm → Prop} {σ : Mm} (hk139 : ∀ (x7 : Int32) (u : Mm), k139 x7 u → AW g 1 M_X7_copy (QI g 1 K) 139 [(0, .ref (gad g 0 0)), (1, .int a1), (2, .int a2), (3, .int a3), (4, .int a4), (5, .int a5), (6, .int a6), (7, .int x7)] [] u) (h : f_X7_copy_163 a1 a2 a3 a4 a5 a6 a7 as0 K k139 σ) : AW g 1 M_X7_copy (QI g 1 K) 163 [(0, .ref (gad g 0 0)), (1, .int a1), (2, .int a2), (3, .int a3), (4, .int a4), (5, .int a5), (6, .int a6), (7, .int a7)] [.int as0] σ := by
  unfold f_X7_copy_163 at h
  refine AW.istore (L' := [(0, .ref (gad g 0 0)), (1, .int a1), (2, .int a2), (3, .int a3), (4, .int a4), (5, .int a5), (6, .int a6), (7, .int a7), (8, .int as0)]) dX7_copy_163 (Nat.le_of_ble_eq_true rfl) rfl ?_
  refine AW.aload_n dX7_copy_165 0 rfl ?_
  refine AW.get (k := 20) (v := .ref (gad g 12 0)) (id1_0_0) rfl rfl inGX7 (Nat.le_of_ble_eq_true rfl) w_892 rfl dX7_copy_166 ?_
  refine AW.bipush (v := (40 : Int32)) dX7_copy_169 rfl ?_
  refine AW.iload_n dX7_copy_171 3 rfl ?_
  refine AW.imul dX7_copy_172 ?_
  refine AW.iload dX7_copy_173 4 rfl ?_
  refine AW.iadd dX7_copy_175 ?_
  refine AW.iload dX7_copy_176 8 rfl ?_
  refine AW.iadd dX7_copy_178 ?_
  refine AW.aload_n dX7_copy_179 0 rfl ?_
  refine AW.get (k := 20) (v := .ref (gad g 12 0)) (id1_0_0) rfl rfl inGX7 (Nat.le_of_ble_eq_true rfl) w_892 rfl dX7_copy_180 ?_
  refine AW.bipush (v := (40 : Int32)) dX7_copy_183 rfl ?_
  refine AW.iload_n dX7_copy_185 1 rfl ?_
  refine AW.imul dX7_copy_186 ?_
  refine AW.iload_n dX7_copy_187 2 rfl ?_
  refine AW.iadd dX7_copy_188 ?_
  refine AW.iload dX7_copy_189 8 rfl ?_
  refine AW.iadd dX7_copy_191 ?_
  obtain ⟨hq23, h⟩ := h
  refine AW.iald (jn := (((((40 : Int32) * a1) + a2) + as0).toNatClampNeg)) (id1_12_0) rfl hq23 rfl dX7_copy_192 ?_
  obtain ⟨hq24, h⟩ := h
  refine AW.iast (jn := (((((40 : Int32) * a3) + a4) + as0).toNatClampNeg)) (id1_12_0) (fun _ => rfl) hq24 rfl dX7_copy_193 ?_
  obtain ⟨σ25, eσ25, h⟩ := h
  rw [← eσ25]
  refine AW.iinc (v := (a7 + (1 : Int32))) (L' := [(0, .ref (gad g 0 0)), (1, .int a1), (2, .int a2), (3, .int a3), (4, .int a4), (5, .int a5), (6, .int a6), (7, .int (a7 + (1 : Int32))), (8, .int as0)]) dX7_copy_194 7 rfl rfl (Nat.le_of_ble_eq_true rfl) rfl ?_
  refine AW.goto (tgt := 139) dX7_copy_197 rfl ?_
  refine AW.eqL [0, 1, 2, 3, 4, 5, 6, 7] rfl ?_
  exact hk139 _ _ h
set_option maxRecDepth 100000 in
def f_X7_copy_139 (a1 : Int32) (a2 : Int32) (a3 : Int32) (a4 : Int32) (a5 : Int32) (a6 : Int32) (K : Int32 → Mm → Prop) : Nat → Int32 → Mm → Prop
  | 0, _, _ => False
  | n + 1, a7, σ => (if a5 ≤ a7 then (K a5 σ) else (if a6 = 0 then (f_X7_copy_163 a1 a2 a3 a4 a5 a6 a7 a7 K (f_X7_copy_139 a1 a2 a3 a4 a5 a6 K n) σ) else (f_X7_copy_163 a1 a2 a3 a4 a5 a6 a7 ((a5 - (1 : Int32)) - a7) K (f_X7_copy_139 a1 a2 a3 a4 a5 a6 K n) σ)))
set_option maxRecDepth 100000 in
set_option maxHeartbeats 4000000 in
theorem T_X7_copy_139 {g : GG} {a1 : Int32} {a2 : Int32} {a3 : Int32} {a4 : Int32} {a5 : Int32} {a6 : Int32} {K : Int32 → Mm → Prop} : ∀ (n : Nat) (a7 : Int32) (σ : Mm), f_X7_copy_139 a1 a2 a3 a4 a5 a6 K n a7 σ → AW g 1 M_X7_copy (QI g 1 K) 139 [(0, .ref (gad g 0 0)), (1, .int a1), (2, .int a2), (3, .int a3), (4, .int a4), (5, .int a5), (6, .int a6), (7, .int a7)] [] σ := by
  intro n
  induction n with
  | zero => intro a7 σ h; exact False.elim h
  | succ n ih =>
    intro a7 σ h
    rw [f_X7_copy_139] at h
    refine AW.iload dX7_copy_139 7 rfl ?_
    refine AW.iload dX7_copy_141 5 rfl ?_
    refine AW.icmp_ge (tgt := 200) dX7_copy_143 rfl (fun c => ?_) (fun c => ?_)
    · replace h := ite_t c h
      refine AW.iload dX7_copy_200 5 rfl ?_
      exact AW.iret rfl dX7_copy_202 h
    · replace h := ite_f c h
      refine AW.iload dX7_copy_146 6 rfl ?_
      refine AW.if_eq (tgt := 161) dX7_copy_148 rfl (fun c => ?_) (fun c => ?_)
      · replace h := ite_t c h
        refine AW.iload dX7_copy_161 7 rfl ?_
        exact T_X7_copy_163 ih h
      · replace h := ite_f c h
        refine AW.iload dX7_copy_151 5 rfl ?_
        refine AW.iconst (v := (1 : Int32)) dX7_copy_153 rfl ?_
        refine AW.isub dX7_copy_154 ?_
        refine AW.iload dX7_copy_155 7 rfl ?_
        refine AW.isub dX7_copy_157 ?_
        refine AW.goto (tgt := 163) dX7_copy_158 rfl ?_
        exact T_X7_copy_163 ih h
def f_X7_copy_134 (a1 : Int32) (a2 : Int32) (a3 : Int32) (a4 : Int32) (a5 : Int32) (as0 : Int32) (K : Int32 → Mm → Prop) (σ : Mm) : Prop := (∃ m, f_X7_copy_139 a1 a2 a3 a4 a5 as0 K m (0 : Int32) σ)
set_option maxRecDepth 100000 in
set_option maxHeartbeats 4000000 in
theorem T_X7_copy_134 {g : GG} {a1 : Int32} {a2 : Int32} {a3 : Int32} {a4 : Int32} {a5 : Int32} {as0 : Int32} {K : Int32 → Mm → Prop} {σ : Mm} (h : f_X7_copy_134 a1 a2 a3 a4 a5 as0 K σ) : AW g 1 M_X7_copy (QI g 1 K) 134 [(0, .ref (gad g 0 0)), (1, .int a1), (2, .int a2), (3, .int a3), (4, .int a4), (5, .int a5)] [.int as0] σ := by
  unfold f_X7_copy_134 at h
  refine AW.istore (L' := [(0, .ref (gad g 0 0)), (1, .int a1), (2, .int a2), (3, .int a3), (4, .int a4), (5, .int a5), (6, .int as0)]) dX7_copy_134 (Nat.le_of_ble_eq_true rfl) rfl ?_
  refine AW.iconst (v := (0 : Int32)) dX7_copy_136 rfl ?_
  refine AW.istore (L' := [(0, .ref (gad g 0 0)), (1, .int a1), (2, .int a2), (3, .int a3), (4, .int a4), (5, .int a5), (6, .int as0), (7, .int (0 : Int32))]) dX7_copy_137 (Nat.le_of_ble_eq_true rfl) rfl ?_
  obtain ⟨m, h⟩ := h
  refine T_X7_copy_139 m _ _ h
def f_X7_copy_133 (a1 : Int32) (a2 : Int32) (a3 : Int32) (a4 : Int32) (a5 : Int32) (K : Int32 → Mm → Prop) (σ : Mm) : Prop := (f_X7_copy_134 a1 a2 a3 a4 a5 (0 : Int32) K σ)
set_option maxRecDepth 100000 in
set_option maxHeartbeats 4000000 in
theorem T_X7_copy_133 {g : GG} {a1 : Int32} {a2 : Int32} {a3 : Int32} {a4 : Int32} {a5 : Int32} {K : Int32 → Mm → Prop} {σ : Mm} (h : f_X7_copy_133 a1 a2 a3 a4 a5 K σ) : AW g 1 M_X7_copy (QI g 1 K) 133 [(0, .ref (gad g 0 0)), (1, .int a1), (2, .int a2), (3, .int a3), (4, .int a4), (5, .int a5)] [] σ := by
  unfold f_X7_copy_133 at h
  refine AW.iconst (v := (0 : Int32)) dX7_copy_133 rfl ?_
  exact T_X7_copy_134 h
def f_X7_copy (a1 : Int32) (a2 : Int32) (a3 : Int32) (a4 : Int32) (a5 : Int32) (σ : Mm) (K : Int32 → Mm → Prop) : Prop := (f_X7_isSheet a1 σ (fun b2 σ1 => (if b2 = true then (f_X7_isSheet a3 σ1 (fun b6 σ5 => (if b6 = true then (vp_in a1 4 ∧ (if (σ5 10 0 (a1.toNatClampNeg)) = 0 then (f_X7_finds (-1000006 : Int32) σ5 (fun r9 σ8 => (K r9 σ8))) else (vp_in a3 4 ∧ (if (σ5 10 0 (a3.toNatClampNeg)) = 0 then (f_X7_finds (-1000006 : Int32) σ5 (fun r31 σ30 => (K r31 σ30))) else (vp_in a1 4 ∧ (vp_in a3 4 ∧ (if (σ5 10 0 (a1.toNatClampNeg)) = (σ5 10 0 (a3.toNatClampNeg)) then (if a5 < 0 then (f_X7_finds (-1000001 : Int32) σ5 (fun r14 σ13 => (K r14 σ13))) else (if a2 < 0 then (f_X7_finds (-1000001 : Int32) σ5 (fun r16 σ15 => (K r16 σ15))) else (if a4 < 0 then (f_X7_finds (-1000001 : Int32) σ5 (fun r18 σ17 => (K r18 σ17))) else (vp_in a1 4 ∧ (if ((σ5 11 0 (a1.toNatClampNeg)) - a2) < a5 then (f_X7_finds (-1000001 : Int32) σ5 (fun r21 σ20 => (K r21 σ20))) else (vp_in a3 4 ∧ (if a5 ≤ ((σ5 11 0 (a3.toNatClampNeg)) - a4) then (if a1 = a3 then (if a4 ≤ a2 then (f_X7_copy_133 a1 a2 a3 a4 a5 K σ5) else (f_X7_copy_134 a1 a2 a3 a4 a5 (1 : Int32) K σ5)) else (f_X7_copy_133 a1 a2 a3 a4 a5 K σ5)) else (f_X7_finds (-1000001 : Int32) σ5 (fun r27 σ26 => (K r27 σ26)))))))))) else (f_X7_finds (-1000003 : Int32) σ5 (fun r29 σ28 => (K r29 σ28)))))))))) else (f_X7_finds (-1000001 : Int32) σ5 (fun r33 σ32 => (K r33 σ32)))))) else (f_X7_finds (-1000001 : Int32) σ1 (fun r4 σ3 => (K r4 σ3))))))
set_option maxRecDepth 100000 in
set_option maxHeartbeats 4000000 in
theorem C_X7_copy {g : GG} {a1 : Int32} {a2 : Int32} {a3 : Int32} {a4 : Int32} {a5 : Int32} {σ : Mm} {K : Int32 → Mm → Prop} (h : f_X7_copy a1 a2 a3 a4 a5 σ K) : Ct g 1 M_X7_copy (QI g 1 K) [.ref (gad g 0 0), .int a1, .int a2, .int a3, .int a4, .int a5] σ := by
  unfold f_X7_copy at h
  refine Ct.of (L := [(0, .ref (gad g 0 0)), (1, .int a1), (2, .int a2), (3, .int a3), (4, .int a4), (5, .int a5)]) (show plainName RX7 = true by decide) (Nat.le_of_ble_eq_true rfl) rfl ?_
  refine AW.iload_n dX7_copy_0 1 rfl ?_
  refine AW.callSB [.int a1] (C_X7_isSheet h) ok_X7_isSheet w_1331 rfl (Nat.le_of_ble_eq_true rfl) (Nat.le_of_ble_eq_true rfl) rfl dX7_copy_1 (fun b2 σ1 h => ?_)
  refine AW.ifb_eq (tgt := 14) dX7_copy_4 rfl (fun c => ?_) (fun c => ?_)
  · replace h := ite_f c h
    refine AW.aload_n dX7_copy_14 0 rfl ?_
    refine AW.ldc (v := (-1000001 : Int32)) dX7_copy_15 w_951 ?_
    refine AW.callVI [.int (-1000001 : Int32)] (C_X7_finds h) ok_X7_finds (id1_0_0) rfl rfl w_952 rfl (Nat.le_of_ble_eq_true rfl) (Nat.le_of_ble_eq_true rfl) rfl dX7_copy_17 (fun r4 σ3 h => ?_)
    exact AW.iret rfl dX7_copy_20 h
  · replace h := ite_t c h
    refine AW.iload_n dX7_copy_7 3 rfl ?_
    refine AW.callSB [.int a3] (C_X7_isSheet h) ok_X7_isSheet w_1331 rfl (Nat.le_of_ble_eq_true rfl) (Nat.le_of_ble_eq_true rfl) rfl dX7_copy_8 (fun b6 σ5 h => ?_)
    refine AW.ifb_ne (tgt := 21) dX7_copy_11 rfl (fun c => ?_) (fun c => ?_)
    · replace h := ite_t c h
      refine AW.aload_n dX7_copy_21 0 rfl ?_
      refine AW.get (k := 18) (v := .ref (gad g 10 0)) (id1_0_0) rfl rfl inGX7 (Nat.le_of_ble_eq_true rfl) w_890 rfl dX7_copy_22 ?_
      refine AW.iload_n dX7_copy_25 1 rfl ?_
      obtain ⟨hq7, h⟩ := h
      refine AW.iald (jn := (a1.toNatClampNeg)) (id1_10_0) rfl hq7 rfl dX7_copy_26 ?_
      refine AW.if_eq (tgt := 39) dX7_copy_27 rfl (fun c => ?_) (fun c => ?_)
      · replace h := ite_t c h
        refine AW.aload_n dX7_copy_39 0 rfl ?_
        refine AW.ldcw (v := (-1000006 : Int32)) dX7_copy_40 w_1322 ?_
        refine AW.callVI [.int (-1000006 : Int32)] (C_X7_finds h) ok_X7_finds (id1_0_0) rfl rfl w_952 rfl (Nat.le_of_ble_eq_true rfl) (Nat.le_of_ble_eq_true rfl) rfl dX7_copy_43 (fun r9 σ8 h => ?_)
        exact AW.iret rfl dX7_copy_46 h
      · replace h := ite_f c h
        refine AW.aload_n dX7_copy_30 0 rfl ?_
        refine AW.get (k := 18) (v := .ref (gad g 10 0)) (id1_0_0) rfl rfl inGX7 (Nat.le_of_ble_eq_true rfl) w_890 rfl dX7_copy_31 ?_
        refine AW.iload_n dX7_copy_34 3 rfl ?_
        obtain ⟨hq10, h⟩ := h
        refine AW.iald (jn := (a3.toNatClampNeg)) (id1_10_0) rfl hq10 rfl dX7_copy_35 ?_
        refine AW.if_ne (tgt := 47) dX7_copy_36 rfl (fun c => ?_) (fun c => ?_)
        · replace h := ite_f c h
          refine AW.aload_n dX7_copy_47 0 rfl ?_
          refine AW.get (k := 18) (v := .ref (gad g 10 0)) (id1_0_0) rfl rfl inGX7 (Nat.le_of_ble_eq_true rfl) w_890 rfl dX7_copy_48 ?_
          refine AW.iload_n dX7_copy_51 1 rfl ?_
          obtain ⟨hq11, h⟩ := h
          refine AW.iald (jn := (a1.toNatClampNeg)) (id1_10_0) rfl hq11 rfl dX7_copy_52 ?_
          refine AW.aload_n dX7_copy_53 0 rfl ?_
          refine AW.get (k := 18) (v := .ref (gad g 10 0)) (id1_0_0) rfl rfl inGX7 (Nat.le_of_ble_eq_true rfl) w_890 rfl dX7_copy_54 ?_
          refine AW.iload_n dX7_copy_57 3 rfl ?_
          obtain ⟨hq12, h⟩ := h
          refine AW.iald (jn := (a3.toNatClampNeg)) (id1_10_0) rfl hq12 rfl dX7_copy_58 ?_
          refine AW.icmp_eq (tgt := 70) dX7_copy_59 rfl (fun c => ?_) (fun c => ?_)
          · replace h := ite_t c h
            refine AW.iload dX7_copy_70 5 rfl ?_
            refine AW.if_lt (tgt := 111) dX7_copy_72 rfl (fun c => ?_) (fun c => ?_)
            · replace h := ite_t c h
              refine AW.aload_n dX7_copy_111 0 rfl ?_
              refine AW.ldc (v := (-1000001 : Int32)) dX7_copy_112 w_951 ?_
              refine AW.callVI [.int (-1000001 : Int32)] (C_X7_finds h) ok_X7_finds (id1_0_0) rfl rfl w_952 rfl (Nat.le_of_ble_eq_true rfl) (Nat.le_of_ble_eq_true rfl) rfl dX7_copy_114 (fun r14 σ13 h => ?_)
              exact AW.iret rfl dX7_copy_117 h
            · replace h := ite_f c h
              refine AW.iload_n dX7_copy_75 2 rfl ?_
              refine AW.if_lt (tgt := 111) dX7_copy_76 rfl (fun c => ?_) (fun c => ?_)
              · replace h := ite_t c h
                refine AW.aload_n dX7_copy_111 0 rfl ?_
                refine AW.ldc (v := (-1000001 : Int32)) dX7_copy_112 w_951 ?_
                refine AW.callVI [.int (-1000001 : Int32)] (C_X7_finds h) ok_X7_finds (id1_0_0) rfl rfl w_952 rfl (Nat.le_of_ble_eq_true rfl) (Nat.le_of_ble_eq_true rfl) rfl dX7_copy_114 (fun r16 σ15 h => ?_)
                exact AW.iret rfl dX7_copy_117 h
              · replace h := ite_f c h
                refine AW.iload dX7_copy_79 4 rfl ?_
                refine AW.if_lt (tgt := 111) dX7_copy_81 rfl (fun c => ?_) (fun c => ?_)
                · replace h := ite_t c h
                  refine AW.aload_n dX7_copy_111 0 rfl ?_
                  refine AW.ldc (v := (-1000001 : Int32)) dX7_copy_112 w_951 ?_
                  refine AW.callVI [.int (-1000001 : Int32)] (C_X7_finds h) ok_X7_finds (id1_0_0) rfl rfl w_952 rfl (Nat.le_of_ble_eq_true rfl) (Nat.le_of_ble_eq_true rfl) rfl dX7_copy_114 (fun r18 σ17 h => ?_)
                  exact AW.iret rfl dX7_copy_117 h
                · replace h := ite_f c h
                  refine AW.iload dX7_copy_84 5 rfl ?_
                  refine AW.aload_n dX7_copy_86 0 rfl ?_
                  refine AW.get (k := 19) (v := .ref (gad g 11 0)) (id1_0_0) rfl rfl inGX7 (Nat.le_of_ble_eq_true rfl) w_891 rfl dX7_copy_87 ?_
                  refine AW.iload_n dX7_copy_90 1 rfl ?_
                  obtain ⟨hq19, h⟩ := h
                  refine AW.iald (jn := (a1.toNatClampNeg)) (id1_11_0) rfl hq19 rfl dX7_copy_91 ?_
                  refine AW.iload_n dX7_copy_92 2 rfl ?_
                  refine AW.isub dX7_copy_93 ?_
                  refine AW.icmp_gt (tgt := 111) dX7_copy_94 rfl (fun c => ?_) (fun c => ?_)
                  · replace h := ite_t c h
                    refine AW.aload_n dX7_copy_111 0 rfl ?_
                    refine AW.ldc (v := (-1000001 : Int32)) dX7_copy_112 w_951 ?_
                    refine AW.callVI [.int (-1000001 : Int32)] (C_X7_finds h) ok_X7_finds (id1_0_0) rfl rfl w_952 rfl (Nat.le_of_ble_eq_true rfl) (Nat.le_of_ble_eq_true rfl) rfl dX7_copy_114 (fun r21 σ20 h => ?_)
                    exact AW.iret rfl dX7_copy_117 h
                  · replace h := ite_f c h
                    refine AW.iload dX7_copy_97 5 rfl ?_
                    refine AW.aload_n dX7_copy_99 0 rfl ?_
                    refine AW.get (k := 19) (v := .ref (gad g 11 0)) (id1_0_0) rfl rfl inGX7 (Nat.le_of_ble_eq_true rfl) w_891 rfl dX7_copy_100 ?_
                    refine AW.iload_n dX7_copy_103 3 rfl ?_
                    obtain ⟨hq22, h⟩ := h
                    refine AW.iald (jn := (a3.toNatClampNeg)) (id1_11_0) rfl hq22 rfl dX7_copy_104 ?_
                    refine AW.iload dX7_copy_105 4 rfl ?_
                    refine AW.isub dX7_copy_107 ?_
                    refine AW.icmp_le (tgt := 118) dX7_copy_108 rfl (fun c => ?_) (fun c => ?_)
                    · replace h := ite_t c h
                      refine AW.iload_n dX7_copy_118 1 rfl ?_
                      refine AW.iload_n dX7_copy_119 3 rfl ?_
                      refine AW.icmp_ne (tgt := 133) dX7_copy_120 rfl (fun c => ?_) (fun c => ?_)
                      · replace h := ite_f c h
                        exact T_X7_copy_133 h
                      · replace h := ite_t c h
                        refine AW.iload_n dX7_copy_123 2 rfl ?_
                        refine AW.iload dX7_copy_124 4 rfl ?_
                        refine AW.icmp_ge (tgt := 133) dX7_copy_126 rfl (fun c => ?_) (fun c => ?_)
                        · replace h := ite_t c h
                          exact T_X7_copy_133 h
                        · replace h := ite_f c h
                          refine AW.iconst (v := (1 : Int32)) dX7_copy_129 rfl ?_
                          refine AW.goto (tgt := 134) dX7_copy_130 rfl ?_
                          exact T_X7_copy_134 h
                    · replace h := ite_f c h
                      refine AW.aload_n dX7_copy_111 0 rfl ?_
                      refine AW.ldc (v := (-1000001 : Int32)) dX7_copy_112 w_951 ?_
                      refine AW.callVI [.int (-1000001 : Int32)] (C_X7_finds h) ok_X7_finds (id1_0_0) rfl rfl w_952 rfl (Nat.le_of_ble_eq_true rfl) (Nat.le_of_ble_eq_true rfl) rfl dX7_copy_114 (fun r27 σ26 h => ?_)
                      exact AW.iret rfl dX7_copy_117 h
          · replace h := ite_f c h
            refine AW.aload_n dX7_copy_62 0 rfl ?_
            refine AW.ldcw (v := (-1000003 : Int32)) dX7_copy_63 w_1326 ?_
            refine AW.callVI [.int (-1000003 : Int32)] (C_X7_finds h) ok_X7_finds (id1_0_0) rfl rfl w_952 rfl (Nat.le_of_ble_eq_true rfl) (Nat.le_of_ble_eq_true rfl) rfl dX7_copy_66 (fun r29 σ28 h => ?_)
            exact AW.iret rfl dX7_copy_69 h
        · replace h := ite_t c h
          refine AW.aload_n dX7_copy_39 0 rfl ?_
          refine AW.ldcw (v := (-1000006 : Int32)) dX7_copy_40 w_1322 ?_
          refine AW.callVI [.int (-1000006 : Int32)] (C_X7_finds h) ok_X7_finds (id1_0_0) rfl rfl w_952 rfl (Nat.le_of_ble_eq_true rfl) (Nat.le_of_ble_eq_true rfl) rfl dX7_copy_43 (fun r31 σ30 h => ?_)
          exact AW.iret rfl dX7_copy_46 h
    · replace h := ite_f c h
      refine AW.aload_n dX7_copy_14 0 rfl ?_
      refine AW.ldc (v := (-1000001 : Int32)) dX7_copy_15 w_951 ?_
      refine AW.callVI [.int (-1000001 : Int32)] (C_X7_finds h) ok_X7_finds (id1_0_0) rfl rfl w_952 rfl (Nat.le_of_ble_eq_true rfl) (Nat.le_of_ble_eq_true rfl) rfl dX7_copy_17 (fun r33 σ32 h => ?_)
      exact AW.iret rfl dX7_copy_20 h
theorem ok_X7_copy : OkV M_X7_copy 5 := ⟨w_1340, w_1341, w_9, w_1342, by decide +kernel, (Nat.le_of_ble_eq_true rfl)⟩
def M_X7_sitsDown : MT := (yX7_sitsDown, cX7_sitsDown, 5, some .boolean, 4)
def f_X7_sitsDown_55 (a1 : Int32) (a2 : Int32) (a3 : Int32) (K : Bool → Mm → Prop) (σ : Mm) : Prop := (f_X7_at a2 a3 σ (fun r7 σ6 => (if a1 = (8 : Int32) then (vp_in r7 136 ∧ (∃ σ11, σ11 = mset σ6 1 0 (r7.toNatClampNeg) (-1 : Int32) ∧ (K true σ11))) else (vp_in r7 136 ∧ (∃ σ9, σ9 = mset σ6 1 0 (r7.toNatClampNeg) a1 ∧ (K true σ9))))))
set_option maxRecDepth 100000 in
set_option maxHeartbeats 4000000 in
theorem T_X7_sitsDown_55 {g : GG} {a1 : Int32} {a2 : Int32} {a3 : Int32} {K : Bool → Mm → Prop} {σ : Mm} (h : f_X7_sitsDown_55 a1 a2 a3 K σ) : AW g 1 M_X7_sitsDown (QB g 1 K) 55 [(0, .ref (gad g 0 0)), (1, .int a1), (2, .int a2), (3, .int a3)] [] σ := by
  unfold f_X7_sitsDown_55 at h
  refine AW.aload_n dX7_sitsDown_55 0 rfl ?_
  refine AW.get (k := 0) (v := .ref (gad g 1 0)) (id1_0_0) rfl rfl inGX7 (Nat.le_of_ble_eq_true rfl) w_872 rfl dX7_sitsDown_56 ?_
  refine AW.iload_n dX7_sitsDown_59 2 rfl ?_
  refine AW.iload_n dX7_sitsDown_60 3 rfl ?_
  refine AW.callSI [.int a2, .int a3] (C_X7_at h) ok_X7_at w_1008 rfl (Nat.le_of_ble_eq_true rfl) (Nat.le_of_ble_eq_true rfl) rfl dX7_sitsDown_61 (fun r7 σ6 h => ?_)
  refine AW.iload_n dX7_sitsDown_64 1 rfl ?_
  refine AW.bipush (v := (8 : Int32)) dX7_sitsDown_65 rfl ?_
  refine AW.icmp_ne (tgt := 74) dX7_sitsDown_67 rfl (fun c => ?_) (fun c => ?_)
  · replace h := ite_f c h
    refine AW.iload_n dX7_sitsDown_74 1 rfl ?_
    obtain ⟨hq8, h⟩ := h
    refine AW.iast (jn := (r7.toNatClampNeg)) (id1_1_0) (fun _ => rfl) hq8 rfl dX7_sitsDown_75 ?_
    obtain ⟨σ9, eσ9, h⟩ := h
    rw [← eσ9]
    refine AW.iconst (v := (1 : Int32)) dX7_sitsDown_76 rfl ?_
    exact AW.bret true rfl rfl dX7_sitsDown_77 h
  · replace h := ite_t c h
    refine AW.iconst (v := (-1 : Int32)) dX7_sitsDown_70 rfl ?_
    refine AW.goto (tgt := 75) dX7_sitsDown_71 rfl ?_
    obtain ⟨hq10, h⟩ := h
    refine AW.iast (jn := (r7.toNatClampNeg)) (id1_1_0) (fun _ => rfl) hq10 rfl dX7_sitsDown_75 ?_
    obtain ⟨σ11, eσ11, h⟩ := h
    rw [← eσ11]
    refine AW.iconst (v := (1 : Int32)) dX7_sitsDown_76 rfl ?_
    exact AW.bret true rfl rfl dX7_sitsDown_77 h
def f_X7_sitsDown_43 (a1 : Int32) (a2 : Int32) (a3 : Int32) (K : Bool → Mm → Prop) (σ : Mm) : Prop := (if (8 : Int32) ≤ a1 then (f_X7_sitsDown_55 a1 a2 a3 K σ) else (f_X7_rises a1 σ (fun b13 σ12 => (f_X7_sitsDown_55 a1 a2 a3 K σ12))))
set_option maxRecDepth 100000 in
set_option maxHeartbeats 4000000 in
theorem T_X7_sitsDown_43 {g : GG} {a1 : Int32} {a2 : Int32} {a3 : Int32} {K : Bool → Mm → Prop} {σ : Mm} (h : f_X7_sitsDown_43 a1 a2 a3 K σ) : AW g 1 M_X7_sitsDown (QB g 1 K) 43 [(0, .ref (gad g 0 0)), (1, .int a1), (2, .int a2), (3, .int a3)] [] σ := by
  unfold f_X7_sitsDown_43 at h
  refine AW.iload_n dX7_sitsDown_43 1 rfl ?_
  refine AW.bipush (v := (8 : Int32)) dX7_sitsDown_44 rfl ?_
  refine AW.icmp_ge (tgt := 55) dX7_sitsDown_46 rfl (fun c => ?_) (fun c => ?_)
  · replace h := ite_t c h
    exact T_X7_sitsDown_55 h
  · replace h := ite_f c h
    refine AW.aload_n dX7_sitsDown_49 0 rfl ?_
    refine AW.iload_n dX7_sitsDown_50 1 rfl ?_
    refine AW.callVB [.int a1] (C_X7_rises h) ok_X7_rises (id1_0_0) rfl rfl w_1090 rfl (Nat.le_of_ble_eq_true rfl) (Nat.le_of_ble_eq_true rfl) rfl dX7_sitsDown_51 (fun b13 σ12 h => ?_)
    refine AW.pop dX7_sitsDown_54 rfl ?_
    exact T_X7_sitsDown_55 h
def f_X7_sitsDown (a1 : Int32) (a2 : Int32) (a3 : Int32) (σ : Mm) (K : Bool → Mm → Prop) : Prop := (f_X7_at a2 a3 σ (fun r2 σ1 => (vp_in r2 136 ∧ (f_X7_in ((a1).toInt64) (0 : Int64) (8 : Int64) σ1 (fun b5 σ4 => (if b5 = true then (if (8 : Int32) ≤ a1 then (f_X7_sitsDown_43 a1 a2 a3 K σ4) else (if (σ1 1 0 (r2.toNatClampNeg)) < 0 then (f_X7_sitsDown_43 a1 a2 a3 K σ4) else (if (σ1 1 0 (r2.toNatClampNeg)) = a1 then (f_X7_sitsDown_43 a1 a2 a3 K σ4) else (K false σ4)))) else (K false σ4)))))))
set_option maxRecDepth 100000 in
set_option maxHeartbeats 4000000 in
theorem C_X7_sitsDown {g : GG} {a1 : Int32} {a2 : Int32} {a3 : Int32} {σ : Mm} {K : Bool → Mm → Prop} (h : f_X7_sitsDown a1 a2 a3 σ K) : Ct g 1 M_X7_sitsDown (QB g 1 K) [.ref (gad g 0 0), .int a1, .int a2, .int a3] σ := by
  unfold f_X7_sitsDown at h
  refine Ct.of (L := [(0, .ref (gad g 0 0)), (1, .int a1), (2, .int a2), (3, .int a3)]) (show plainName RX7 = true by decide) (Nat.le_of_ble_eq_true rfl) rfl ?_
  refine AW.aload_n dX7_sitsDown_0 0 rfl ?_
  refine AW.get (k := 0) (v := .ref (gad g 1 0)) (id1_0_0) rfl rfl inGX7 (Nat.le_of_ble_eq_true rfl) w_872 rfl dX7_sitsDown_1 ?_
  refine AW.iload_n dX7_sitsDown_4 2 rfl ?_
  refine AW.iload_n dX7_sitsDown_5 3 rfl ?_
  refine AW.callSI [.int a2, .int a3] (C_X7_at h) ok_X7_at w_1008 rfl (Nat.le_of_ble_eq_true rfl) (Nat.le_of_ble_eq_true rfl) rfl dX7_sitsDown_6 (fun r2 σ1 h => ?_)
  obtain ⟨hq3, h⟩ := h
  refine AW.iald (jn := (r2.toNatClampNeg)) (id1_1_0) rfl hq3 rfl dX7_sitsDown_9 ?_
  refine AW.istore (L' := [(0, .ref (gad g 0 0)), (1, .int a1), (2, .int a2), (3, .int a3), (4, .int (σ1 1 0 (r2.toNatClampNeg)))]) dX7_sitsDown_10 (Nat.le_of_ble_eq_true rfl) rfl ?_
  refine AW.iload_n dX7_sitsDown_12 1 rfl ?_
  refine AW.i2l dX7_sitsDown_13 ?_
  refine AW.lconst (v := (0 : Int64)) dX7_sitsDown_14 rfl ?_
  refine AW.ldc2 (v := (8 : Int64)) dX7_sitsDown_15 w_1002 ?_
  refine AW.callSB [.long ((a1).toInt64), .long (0 : Int64), .long (8 : Int64)] (C_X7_in h) ok_X7_in w_947 rfl (Nat.le_of_ble_eq_true rfl) (Nat.le_of_ble_eq_true rfl) rfl dX7_sitsDown_18 (fun b5 σ4 h => ?_)
  refine AW.ifb_eq (tgt := 41) dX7_sitsDown_21 rfl (fun c => ?_) (fun c => ?_)
  · replace h := ite_f c h
    refine AW.iconst (v := (0 : Int32)) dX7_sitsDown_41 rfl ?_
    exact AW.bret false rfl rfl dX7_sitsDown_42 h
  · replace h := ite_t c h
    refine AW.iload_n dX7_sitsDown_24 1 rfl ?_
    refine AW.bipush (v := (8 : Int32)) dX7_sitsDown_25 rfl ?_
    refine AW.icmp_ge (tgt := 43) dX7_sitsDown_27 rfl (fun c => ?_) (fun c => ?_)
    · replace h := ite_t c h
      refine AW.eqL [0, 1, 2, 3] rfl ?_
      exact T_X7_sitsDown_43 h
    · replace h := ite_f c h
      refine AW.iload dX7_sitsDown_30 4 rfl ?_
      refine AW.if_lt (tgt := 43) dX7_sitsDown_32 rfl (fun c => ?_) (fun c => ?_)
      · replace h := ite_t c h
        refine AW.eqL [0, 1, 2, 3] rfl ?_
        exact T_X7_sitsDown_43 h
      · replace h := ite_f c h
        refine AW.iload dX7_sitsDown_35 4 rfl ?_
        refine AW.iload_n dX7_sitsDown_37 1 rfl ?_
        refine AW.icmp_eq (tgt := 43) dX7_sitsDown_38 rfl (fun c => ?_) (fun c => ?_)
        · replace h := ite_t c h
          refine AW.eqL [0, 1, 2, 3] rfl ?_
          exact T_X7_sitsDown_43 h
        · replace h := ite_f c h
          refine AW.iconst (v := (0 : Int32)) dX7_sitsDown_41 rfl ?_
          exact AW.bret false rfl rfl dX7_sitsDown_42 h
theorem ok_X7_sitsDown : OkV M_X7_sitsDown 3 := ⟨w_1349, wp_72, w_9, w_1350, by decide +kernel, (Nat.le_of_ble_eq_true rfl)⟩
def M_X7_load : MT := (yX7_load, cX7_load, 4, some .int, 5)
set_option maxRecDepth 100000 in
def f_X7_load_48 (a1 : Int32) (a2 : Int32) (K : Int32 → Mm → Prop) : Nat → Int32 → Mm → Prop
  | 0, _, _ => False
  | n + 1, a3, σ => (vp_in a1 4 ∧ (if (σ 11 0 (a1.toNatClampNeg)) ≤ a3 then (K a3 σ) else (f_X7_seatsOf a2 σ (fun r8 σ7 => (if r8 ≤ a3 then (K a3 σ7) else (vp_in (((40 : Int32) * a1) + a3) 160 ∧ (f_X7_sitsDown (σ7 12 0 ((((40 : Int32) * a1) + a3).toNatClampNeg)) a2 a3 σ7 (fun b11 σ10 => (if b11 = true then (f_X7_load_48 a1 a2 K n (a3 + (1 : Int32)) σ10) else (K a3 σ10))))))))))
set_option maxRecDepth 100000 in
set_option maxHeartbeats 4000000 in
theorem T_X7_load_48 {g : GG} {a1 : Int32} {a2 : Int32} {K : Int32 → Mm → Prop} : ∀ (n : Nat) (a3 : Int32) (σ : Mm), f_X7_load_48 a1 a2 K n a3 σ → AW g 1 M_X7_load (QI g 1 K) 48 [(0, .ref (gad g 0 0)), (1, .int a1), (2, .int a2), (3, .int a3)] [] σ := by
  intro n
  induction n with
  | zero => intro a3 σ h; exact False.elim h
  | succ n ih =>
    intro a3 σ h
    rw [f_X7_load_48] at h
    refine AW.iload_n dX7_load_48 3 rfl ?_
    refine AW.aload_n dX7_load_49 0 rfl ?_
    refine AW.get (k := 19) (v := .ref (gad g 11 0)) (id1_0_0) rfl rfl inGX7 (Nat.le_of_ble_eq_true rfl) w_891 rfl dX7_load_50 ?_
    refine AW.iload_n dX7_load_53 1 rfl ?_
    obtain ⟨hq6, h⟩ := h
    refine AW.iald (jn := (a1.toNatClampNeg)) (id1_11_0) rfl hq6 rfl dX7_load_54 ?_
    refine AW.icmp_ge (tgt := 93) dX7_load_55 rfl (fun c => ?_) (fun c => ?_)
    · replace h := ite_t c h
      refine AW.iload_n dX7_load_93 3 rfl ?_
      exact AW.iret rfl dX7_load_94 h
    · replace h := ite_f c h
      refine AW.iload_n dX7_load_58 3 rfl ?_
      refine AW.aload_n dX7_load_59 0 rfl ?_
      refine AW.iload_n dX7_load_60 2 rfl ?_
      refine AW.callVI [.int a2] (C_X7_seatsOf h) ok_X7_seatsOf (id1_0_0) rfl rfl w_1028 rfl (Nat.le_of_ble_eq_true rfl) (Nat.le_of_ble_eq_true rfl) rfl dX7_load_61 (fun r8 σ7 h => ?_)
      refine AW.icmp_ge (tgt := 93) dX7_load_64 rfl (fun c => ?_) (fun c => ?_)
      · replace h := ite_t c h
        refine AW.iload_n dX7_load_93 3 rfl ?_
        exact AW.iret rfl dX7_load_94 h
      · replace h := ite_f c h
        refine AW.aload_n dX7_load_67 0 rfl ?_
        refine AW.aload_n dX7_load_68 0 rfl ?_
        refine AW.get (k := 20) (v := .ref (gad g 12 0)) (id1_0_0) rfl rfl inGX7 (Nat.le_of_ble_eq_true rfl) w_892 rfl dX7_load_69 ?_
        refine AW.bipush (v := (40 : Int32)) dX7_load_72 rfl ?_
        refine AW.iload_n dX7_load_74 1 rfl ?_
        refine AW.imul dX7_load_75 ?_
        refine AW.iload_n dX7_load_76 3 rfl ?_
        refine AW.iadd dX7_load_77 ?_
        obtain ⟨hq9, h⟩ := h
        refine AW.iald (jn := ((((40 : Int32) * a1) + a3).toNatClampNeg)) (id1_12_0) rfl hq9 rfl dX7_load_78 ?_
        refine AW.iload_n dX7_load_79 2 rfl ?_
        refine AW.iload_n dX7_load_80 3 rfl ?_
        refine AW.callVB [.int (σ7 12 0 ((((40 : Int32) * a1) + a3).toNatClampNeg)), .int a2, .int a3] (C_X7_sitsDown h) ok_X7_sitsDown (id1_0_0) rfl rfl w_1347 rfl (Nat.le_of_ble_eq_true rfl) (Nat.le_of_ble_eq_true rfl) rfl dX7_load_81 (fun b11 σ10 h => ?_)
        refine AW.ifb_eq (tgt := 93) dX7_load_84 rfl (fun c => ?_) (fun c => ?_)
        · replace h := ite_f c h
          refine AW.iload_n dX7_load_93 3 rfl ?_
          exact AW.iret rfl dX7_load_94 h
        · replace h := ite_t c h
          refine AW.iinc (v := (a3 + (1 : Int32))) (L' := [(0, .ref (gad g 0 0)), (1, .int a1), (2, .int a2), (3, .int (a3 + (1 : Int32)))]) dX7_load_87 3 rfl rfl (Nat.le_of_ble_eq_true rfl) rfl ?_
          refine AW.goto (tgt := 48) dX7_load_90 rfl ?_
          exact ih _ _ h
def f_X7_load (a1 : Int32) (a2 : Int32) (σ : Mm) (K : Int32 → Mm → Prop) : Prop := (f_X7_isSheet a1 σ (fun b2 σ1 => (if b2 = true then (vp_in a1 4 ∧ (if (σ1 10 0 (a1.toNatClampNeg)) = 0 then (f_X7_finds (-1000006 : Int32) σ1 (fun r15 σ14 => (K r15 σ14))) else (f_X7_isBench a2 σ1 (fun b5 σ4 => (if b5 = true then (∃ m, f_X7_load_48 a1 a2 K m (0 : Int32) σ4) else (f_X7_finds (-1000001 : Int32) σ4 (fun r13 σ12 => (K r13 σ12)))))))) else (f_X7_finds (-1000001 : Int32) σ1 (fun r17 σ16 => (K r17 σ16))))))
set_option maxRecDepth 100000 in
set_option maxHeartbeats 4000000 in
theorem C_X7_load {g : GG} {a1 : Int32} {a2 : Int32} {σ : Mm} {K : Int32 → Mm → Prop} (h : f_X7_load a1 a2 σ K) : Ct g 1 M_X7_load (QI g 1 K) [.ref (gad g 0 0), .int a1, .int a2] σ := by
  unfold f_X7_load at h
  refine Ct.of (L := [(0, .ref (gad g 0 0)), (1, .int a1), (2, .int a2)]) (show plainName RX7 = true by decide) (Nat.le_of_ble_eq_true rfl) rfl ?_
  refine AW.iload_n dX7_load_0 1 rfl ?_
  refine AW.callSB [.int a1] (C_X7_isSheet h) ok_X7_isSheet w_1331 rfl (Nat.le_of_ble_eq_true rfl) (Nat.le_of_ble_eq_true rfl) rfl dX7_load_1 (fun b2 σ1 h => ?_)
  refine AW.ifb_ne (tgt := 14) dX7_load_4 rfl (fun c => ?_) (fun c => ?_)
  · replace h := ite_t c h
    refine AW.aload_n dX7_load_14 0 rfl ?_
    refine AW.get (k := 18) (v := .ref (gad g 10 0)) (id1_0_0) rfl rfl inGX7 (Nat.le_of_ble_eq_true rfl) w_890 rfl dX7_load_15 ?_
    refine AW.iload_n dX7_load_18 1 rfl ?_
    obtain ⟨hq3, h⟩ := h
    refine AW.iald (jn := (a1.toNatClampNeg)) (id1_10_0) rfl hq3 rfl dX7_load_19 ?_
    refine AW.if_ne (tgt := 31) dX7_load_20 rfl (fun c => ?_) (fun c => ?_)
    · replace h := ite_f c h
      refine AW.aload_n dX7_load_31 0 rfl ?_
      refine AW.iload_n dX7_load_32 2 rfl ?_
      refine AW.callVB [.int a2] (C_X7_isBench h) ok_X7_isBench (id1_0_0) rfl rfl w_1015 rfl (Nat.le_of_ble_eq_true rfl) (Nat.le_of_ble_eq_true rfl) rfl dX7_load_33 (fun b5 σ4 h => ?_)
      refine AW.ifb_ne (tgt := 46) dX7_load_36 rfl (fun c => ?_) (fun c => ?_)
      · replace h := ite_t c h
        refine AW.iconst (v := (0 : Int32)) dX7_load_46 rfl ?_
        refine AW.istore_n (L' := [(0, .ref (gad g 0 0)), (1, .int a1), (2, .int a2), (3, .int (0 : Int32))]) dX7_load_47 (Nat.le_of_ble_eq_true rfl) rfl ?_
        obtain ⟨m, h⟩ := h
        refine T_X7_load_48 m _ _ h
      · replace h := ite_f c h
        refine AW.aload_n dX7_load_39 0 rfl ?_
        refine AW.ldc (v := (-1000001 : Int32)) dX7_load_40 w_951 ?_
        refine AW.callVI [.int (-1000001 : Int32)] (C_X7_finds h) ok_X7_finds (id1_0_0) rfl rfl w_952 rfl (Nat.le_of_ble_eq_true rfl) (Nat.le_of_ble_eq_true rfl) rfl dX7_load_42 (fun r13 σ12 h => ?_)
        exact AW.iret rfl dX7_load_45 h
    · replace h := ite_t c h
      refine AW.aload_n dX7_load_23 0 rfl ?_
      refine AW.ldcw (v := (-1000006 : Int32)) dX7_load_24 w_1322 ?_
      refine AW.callVI [.int (-1000006 : Int32)] (C_X7_finds h) ok_X7_finds (id1_0_0) rfl rfl w_952 rfl (Nat.le_of_ble_eq_true rfl) (Nat.le_of_ble_eq_true rfl) rfl dX7_load_27 (fun r15 σ14 h => ?_)
      exact AW.iret rfl dX7_load_30 h
  · replace h := ite_f c h
    refine AW.aload_n dX7_load_7 0 rfl ?_
    refine AW.ldc (v := (-1000001 : Int32)) dX7_load_8 w_951 ?_
    refine AW.callVI [.int (-1000001 : Int32)] (C_X7_finds h) ok_X7_finds (id1_0_0) rfl rfl w_952 rfl (Nat.le_of_ble_eq_true rfl) (Nat.le_of_ble_eq_true rfl) rfl dX7_load_10 (fun r17 σ16 h => ?_)
    exact AW.iret rfl dX7_load_13 h
theorem ok_X7_load : OkV M_X7_load 2 := ⟨w_1344, w_1345, w_9, w_1346, by decide +kernel, (Nat.le_of_ble_eq_true rfl)⟩
