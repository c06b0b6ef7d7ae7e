/-! the reference's constructor: written by wip/whole/mkctor2.py -/
/-- the reference's row behind its constructor -/
def mI : Nat → Int32 := upd (upd (upd (upd (upd (upd (upd (upd (upd (upd (upd (upd (upd (upd (upd (upd (upd (upd (upd (upd (fun _ => 0) 1 (50 : Int32)) 2 (1 : Int32)) 68 (10 : Int32)) 69 (10 : Int32)) 70 (10 : Int32)) 71 (10 : Int32)) 72 (10 : Int32)) 73 (10 : Int32)) 74 (10 : Int32)) 75 (10 : Int32)) 126 (-1 : Int32)) 127 (-1 : Int32)) 128 (-1 : Int32)) 129 (-1 : Int32)) 130 (-1 : Int32)) 131 (-1 : Int32)) 132 (-1 : Int32)) 133 (-1 : Int32)) 134 (-1 : Int32)) 135 (-1 : Int32)
def mgI : Mm := fun t _ => match t with
  | 1 => mI
  | _ => fun _ => 0
def wL_X7_init (k : CT) (ad : Nat → Nat → Nat) : va_W := [(ad 0 0, .inr (7, [.ref (ad 1 0), .ref (ad 2 0), .ref (ad 3 0), .int (0 : Int32), .ref (ad 4 0), .ref (ad 5 0), .int (0 : Int32), .int (0 : Int32), .ref (ad 6 0), .ref (ad 7 0), .ref (ad 8 0), .ref (ad 9 0), .int (0 : Int32), .int (0 : Int32), .int (0 : Int32), .int (0 : Int32), .int (0 : Int32), .int (0 : Int32), .ref (ad 10 0), .ref (ad 11 0), .ref (ad 12 0)])), (ad 1 0, .inl (k.2.2 0, 136, .inl (mgI 1 0))), (ad 2 0, .inl (k.2.2 0, 136, .inl (mgI 2 0))), (ad 3 0, .inl (k.2.2 0, 136, .inl (mgI 3 0))), (ad 4 0, .inl (k.2.2 0, 7, .inl (mgI 4 0))), (ad 5 0, .inl (k.2.2 0, 8, .inl (mgI 5 0))), (ad 6 0, .inl (k.2.2 0, 64, .inl (mgI 6 0))), (ad 7 0, .inl (k.2.2 0, 8, .inl (mgI 7 0))), (ad 8 0, .inl (k.2.2 0, 8, .inl (mgI 8 0))), (ad 9 0, .inl (k.2.2 0, 120, .inl (mgI 9 0))), (ad 10 0, .inl (k.2.2 0, 4, .inl (mgI 10 0))), (ad 11 0, .inl (k.2.2 0, 4, .inl (mgI 11 0))), (ad 12 0, .inl (k.2.2 0, 160, .inl (mgI 12 0)))]
set_option maxRecDepth 100000 in
set_option maxHeartbeats 4000000 in
theorem wL_X7_init_eq (k : CT) (ad : Nat → Nat → Nat) : wL_X7_init k ad = wlC k 1 ad mgI := by rfl
def M_X7_init : MT := (yX7_init, cX7_init, 2, none, 1)
theorem ok_X7_init : OkI M_X7_init 0 := ⟨rfl, w_869, w_9, w_870, rfl, by decide +kernel, (Nat.le_of_ble_eq_true rfl)⟩
set_option maxRecDepth 100000 in
set_option maxHeartbeats 8000000 in
theorem c_X7 (k : CT) (h0 : Nat) : CC k M_X7_init 12 791 [.ref h0] [(h0, .inr (7, [.null, .null, .null, .int (0 : Int32), .null, .null, .int (0 : Int32), .int (0 : Int32), .null, .null, .null, .null, .int (0 : Int32), .int (0 : Int32), .int (0 : Int32), .int (0 : Int32), .int (0 : Int32), .int (0 : Int32), .null, .null, .null]))] (fun ad : Nat → Nat → Nat => wL_X7_init k (fun t i => if t = 0 ∧ i = 0 then h0 else ad t i)) := by
  refine CC.of (L := [(0, .ref h0)]) (by decide) (Nat.le_of_ble_eq_true rfl) rfl (fun A => ?_)
  refine GW.aload_n dX7_init_0 0 rfl ?_
  refine GW.obj dX7_init_1 w_871 w_23 w_24 (Nat.le_of_ble_eq_true rfl) (Nat.le_of_ble_eq_true rfl) ?_
  refine GW.aload_n dX7_init_4 0 rfl ?_
  refine GW.sipush (v := (136 : Int32)) dX7_init_5 (by decide) ?_
  refine GW.newa (N := 136) w_59 (by decide) (by decide) (Nat.le_of_ble_eq_true rfl) (Nat.le_of_ble_eq_true rfl) (Nat.le_of_ble_eq_true rfl) dX7_init_8 (fun q1 => ?_)
  refine GW.putF (q0 := 0) (ws' := [(h0, .inr (7, [.ref q1, .null, .null, .int (0 : Int32), .null, .null, .int (0 : Int32), .int (0 : Int32), .null, .null, .null, .null, .int (0 : Int32), .int (0 : Int32), .int (0 : Int32), .int (0 : Int32), .int (0 : Int32), .int (0 : Int32), .null, .null, .null])), (q1, .inl (k.2.2 0, 136, .inl (fun _ => 0)))]) inGX7 tyX7 tyX7_ok nmX7 0 (by decide) rfl rfl w_872 rfl rfl rfl (tyX7_ok 0 (by decide)) rfl rfl (Nat.le_of_ble_eq_true rfl) dX7_init_10 rfl ?_
  refine GW.aload_n dX7_init_13 0 rfl ?_
  refine GW.sipush (v := (136 : Int32)) dX7_init_14 (by decide) ?_
  refine GW.newa (N := 136) w_59 (by decide) (by decide) (Nat.le_of_ble_eq_true rfl) (Nat.le_of_ble_eq_true rfl) (Nat.le_of_ble_eq_true rfl) dX7_init_17 (fun q2 => ?_)
  refine GW.putF (q0 := 0) (ws' := [(h0, .inr (7, [.ref q1, .ref q2, .null, .int (0 : Int32), .null, .null, .int (0 : Int32), .int (0 : Int32), .null, .null, .null, .null, .int (0 : Int32), .int (0 : Int32), .int (0 : Int32), .int (0 : Int32), .int (0 : Int32), .int (0 : Int32), .null, .null, .null])), (q1, .inl (k.2.2 0, 136, .inl (fun _ => 0))), (q2, .inl (k.2.2 0, 136, .inl (fun _ => 0)))]) inGX7 tyX7 tyX7_ok nmX7 1 (by decide) rfl rfl w_873 rfl rfl rfl (tyX7_ok 1 (by decide)) rfl rfl (Nat.le_of_ble_eq_true rfl) dX7_init_19 rfl ?_
  refine GW.aload_n dX7_init_22 0 rfl ?_
  refine GW.sipush (v := (136 : Int32)) dX7_init_23 (by decide) ?_
  refine GW.newa (N := 136) w_59 (by decide) (by decide) (Nat.le_of_ble_eq_true rfl) (Nat.le_of_ble_eq_true rfl) (Nat.le_of_ble_eq_true rfl) dX7_init_26 (fun q3 => ?_)
  refine GW.putF (q0 := 0) (ws' := [(h0, .inr (7, [.ref q1, .ref q2, .ref q3, .int (0 : Int32), .null, .null, .int (0 : Int32), .int (0 : Int32), .null, .null, .null, .null, .int (0 : Int32), .int (0 : Int32), .int (0 : Int32), .int (0 : Int32), .int (0 : Int32), .int (0 : Int32), .null, .null, .null])), (q1, .inl (k.2.2 0, 136, .inl (fun _ => 0))), (q2, .inl (k.2.2 0, 136, .inl (fun _ => 0))), (q3, .inl (k.2.2 0, 136, .inl (fun _ => 0)))]) inGX7 tyX7 tyX7_ok nmX7 2 (by decide) rfl rfl w_874 rfl rfl rfl (tyX7_ok 2 (by decide)) rfl rfl (Nat.le_of_ble_eq_true rfl) dX7_init_28 rfl ?_
  refine GW.aload_n dX7_init_31 0 rfl ?_
  refine GW.bipush (v := (7 : Int32)) dX7_init_32 (by decide) ?_
  refine GW.newa (N := 7) w_59 (by decide) (by decide) (Nat.le_of_ble_eq_true rfl) (Nat.le_of_ble_eq_true rfl) (Nat.le_of_ble_eq_true rfl) dX7_init_34 (fun q4 => ?_)
  refine GW.putF (q0 := 0) (ws' := [(h0, .inr (7, [.ref q1, .ref q2, .ref q3, .int (0 : Int32), .ref q4, .null, .int (0 : Int32), .int (0 : Int32), .null, .null, .null, .null, .int (0 : Int32), .int (0 : Int32), .int (0 : Int32), .int (0 : Int32), .int (0 : Int32), .int (0 : Int32), .null, .null, .null])), (q1, .inl (k.2.2 0, 136, .inl (fun _ => 0))), (q2, .inl (k.2.2 0, 136, .inl (fun _ => 0))), (q3, .inl (k.2.2 0, 136, .inl (fun _ => 0))), (q4, .inl (k.2.2 0, 7, .inl (fun _ => 0)))]) inGX7 tyX7 tyX7_ok nmX7 4 (by decide) rfl rfl w_876 rfl rfl rfl (tyX7_ok 4 (by decide)) rfl rfl (Nat.le_of_ble_eq_true rfl) dX7_init_36 rfl ?_
  refine GW.aload_n dX7_init_39 0 rfl ?_
  refine GW.bipush (v := (8 : Int32)) dX7_init_40 (by decide) ?_
  refine GW.newa (N := 8) w_59 (by decide) (by decide) (Nat.le_of_ble_eq_true rfl) (Nat.le_of_ble_eq_true rfl) (Nat.le_of_ble_eq_true rfl) dX7_init_42 (fun q5 => ?_)
  refine GW.putF (q0 := 0) (ws' := [(h0, .inr (7, [.ref q1, .ref q2, .ref q3, .int (0 : Int32), .ref q4, .ref q5, .int (0 : Int32), .int (0 : Int32), .null, .null, .null, .null, .int (0 : Int32), .int (0 : Int32), .int (0 : Int32), .int (0 : Int32), .int (0 : Int32), .int (0 : Int32), .null, .null, .null])), (q1, .inl (k.2.2 0, 136, .inl (fun _ => 0))), (q2, .inl (k.2.2 0, 136, .inl (fun _ => 0))), (q3, .inl (k.2.2 0, 136, .inl (fun _ => 0))), (q4, .inl (k.2.2 0, 7, .inl (fun _ => 0))), (q5, .inl (k.2.2 0, 8, .inl (fun _ => 0)))]) inGX7 tyX7 tyX7_ok nmX7 5 (by decide) rfl rfl w_877 rfl rfl rfl (tyX7_ok 5 (by decide)) rfl rfl (Nat.le_of_ble_eq_true rfl) dX7_init_44 rfl ?_
  refine GW.aload_n dX7_init_47 0 rfl ?_
  refine GW.bipush (v := (64 : Int32)) dX7_init_48 (by decide) ?_
  refine GW.newa (N := 64) w_59 (by decide) (by decide) (Nat.le_of_ble_eq_true rfl) (Nat.le_of_ble_eq_true rfl) (Nat.le_of_ble_eq_true rfl) dX7_init_50 (fun q6 => ?_)
  refine GW.putF (q0 := 0) (ws' := [(h0, .inr (7, [.ref q1, .ref q2, .ref q3, .int (0 : Int32), .ref q4, .ref q5, .int (0 : Int32), .int (0 : Int32), .ref q6, .null, .null, .null, .int (0 : Int32), .int (0 : Int32), .int (0 : Int32), .int (0 : Int32), .int (0 : Int32), .int (0 : Int32), .null, .null, .null])), (q1, .inl (k.2.2 0, 136, .inl (fun _ => 0))), (q2, .inl (k.2.2 0, 136, .inl (fun _ => 0))), (q3, .inl (k.2.2 0, 136, .inl (fun _ => 0))), (q4, .inl (k.2.2 0, 7, .inl (fun _ => 0))), (q5, .inl (k.2.2 0, 8, .inl (fun _ => 0))), (q6, .inl (k.2.2 0, 64, .inl (fun _ => 0)))]) inGX7 tyX7 tyX7_ok nmX7 8 (by decide) rfl rfl w_880 rfl rfl rfl (tyX7_ok 8 (by decide)) rfl rfl (Nat.le_of_ble_eq_true rfl) dX7_init_52 rfl ?_
  refine GW.aload_n dX7_init_55 0 rfl ?_
  refine GW.bipush (v := (8 : Int32)) dX7_init_56 (by decide) ?_
  refine GW.newa (N := 8) w_59 (by decide) (by decide) (Nat.le_of_ble_eq_true rfl) (Nat.le_of_ble_eq_true rfl) (Nat.le_of_ble_eq_true rfl) dX7_init_58 (fun q7 => ?_)
  refine GW.putF (q0 := 0) (ws' := [(h0, .inr (7, [.ref q1, .ref q2, .ref q3, .int (0 : Int32), .ref q4, .ref q5, .int (0 : Int32), .int (0 : Int32), .ref q6, .ref q7, .null, .null, .int (0 : Int32), .int (0 : Int32), .int (0 : Int32), .int (0 : Int32), .int (0 : Int32), .int (0 : Int32), .null, .null, .null])), (q1, .inl (k.2.2 0, 136, .inl (fun _ => 0))), (q2, .inl (k.2.2 0, 136, .inl (fun _ => 0))), (q3, .inl (k.2.2 0, 136, .inl (fun _ => 0))), (q4, .inl (k.2.2 0, 7, .inl (fun _ => 0))), (q5, .inl (k.2.2 0, 8, .inl (fun _ => 0))), (q6, .inl (k.2.2 0, 64, .inl (fun _ => 0))), (q7, .inl (k.2.2 0, 8, .inl (fun _ => 0)))]) inGX7 tyX7 tyX7_ok nmX7 9 (by decide) rfl rfl w_881 rfl rfl rfl (tyX7_ok 9 (by decide)) rfl rfl (Nat.le_of_ble_eq_true rfl) dX7_init_60 rfl ?_
  refine GW.aload_n dX7_init_63 0 rfl ?_
  refine GW.bipush (v := (8 : Int32)) dX7_init_64 (by decide) ?_
  refine GW.newa (N := 8) w_59 (by decide) (by decide) (Nat.le_of_ble_eq_true rfl) (Nat.le_of_ble_eq_true rfl) (Nat.le_of_ble_eq_true rfl) dX7_init_66 (fun q8 => ?_)
  refine GW.putF (q0 := 0) (ws' := [(h0, .inr (7, [.ref q1, .ref q2, .ref q3, .int (0 : Int32), .ref q4, .ref q5, .int (0 : Int32), .int (0 : Int32), .ref q6, .ref q7, .ref q8, .null, .int (0 : Int32), .int (0 : Int32), .int (0 : Int32), .int (0 : Int32), .int (0 : Int32), .int (0 : Int32), .null, .null, .null])), (q1, .inl (k.2.2 0, 136, .inl (fun _ => 0))), (q2, .inl (k.2.2 0, 136, .inl (fun _ => 0))), (q3, .inl (k.2.2 0, 136, .inl (fun _ => 0))), (q4, .inl (k.2.2 0, 7, .inl (fun _ => 0))), (q5, .inl (k.2.2 0, 8, .inl (fun _ => 0))), (q6, .inl (k.2.2 0, 64, .inl (fun _ => 0))), (q7, .inl (k.2.2 0, 8, .inl (fun _ => 0))), (q8, .inl (k.2.2 0, 8, .inl (fun _ => 0)))]) inGX7 tyX7 tyX7_ok nmX7 10 (by decide) rfl rfl w_882 rfl rfl rfl (tyX7_ok 10 (by decide)) rfl rfl (Nat.le_of_ble_eq_true rfl) dX7_init_68 rfl ?_
  refine GW.aload_n dX7_init_71 0 rfl ?_
  refine GW.bipush (v := (120 : Int32)) dX7_init_72 (by decide) ?_
  refine GW.newa (N := 120) w_59 (by decide) (by decide) (Nat.le_of_ble_eq_true rfl) (Nat.le_of_ble_eq_true rfl) (Nat.le_of_ble_eq_true rfl) dX7_init_74 (fun q9 => ?_)
  refine GW.putF (q0 := 0) (ws' := [(h0, .inr (7, [.ref q1, .ref q2, .ref q3, .int (0 : Int32), .ref q4, .ref q5, .int (0 : Int32), .int (0 : Int32), .ref q6, .ref q7, .ref q8, .ref q9, .int (0 : Int32), .int (0 : Int32), .int (0 : Int32), .int (0 : Int32), .int (0 : Int32), .int (0 : Int32), .null, .null, .null])), (q1, .inl (k.2.2 0, 136, .inl (fun _ => 0))), (q2, .inl (k.2.2 0, 136, .inl (fun _ => 0))), (q3, .inl (k.2.2 0, 136, .inl (fun _ => 0))), (q4, .inl (k.2.2 0, 7, .inl (fun _ => 0))), (q5, .inl (k.2.2 0, 8, .inl (fun _ => 0))), (q6, .inl (k.2.2 0, 64, .inl (fun _ => 0))), (q7, .inl (k.2.2 0, 8, .inl (fun _ => 0))), (q8, .inl (k.2.2 0, 8, .inl (fun _ => 0))), (q9, .inl (k.2.2 0, 120, .inl (fun _ => 0)))]) inGX7 tyX7 tyX7_ok nmX7 11 (by decide) rfl rfl w_883 rfl rfl rfl (tyX7_ok 11 (by decide)) rfl rfl (Nat.le_of_ble_eq_true rfl) dX7_init_76 rfl ?_
  refine GW.aload_n dX7_init_79 0 rfl ?_
  refine GW.iconst (v := (4 : Int32)) dX7_init_80 (by decide) ?_
  refine GW.newa (N := 4) w_59 (by decide) (by decide) (Nat.le_of_ble_eq_true rfl) (Nat.le_of_ble_eq_true rfl) (Nat.le_of_ble_eq_true rfl) dX7_init_81 (fun q10 => ?_)
  refine GW.putF (q0 := 0) (ws' := [(h0, .inr (7, [.ref q1, .ref q2, .ref q3, .int (0 : Int32), .ref q4, .ref q5, .int (0 : Int32), .int (0 : Int32), .ref q6, .ref q7, .ref q8, .ref q9, .int (0 : Int32), .int (0 : Int32), .int (0 : Int32), .int (0 : Int32), .int (0 : Int32), .int (0 : Int32), .ref q10, .null, .null])), (q1, .inl (k.2.2 0, 136, .inl (fun _ => 0))), (q2, .inl (k.2.2 0, 136, .inl (fun _ => 0))), (q3, .inl (k.2.2 0, 136, .inl (fun _ => 0))), (q4, .inl (k.2.2 0, 7, .inl (fun _ => 0))), (q5, .inl (k.2.2 0, 8, .inl (fun _ => 0))), (q6, .inl (k.2.2 0, 64, .inl (fun _ => 0))), (q7, .inl (k.2.2 0, 8, .inl (fun _ => 0))), (q8, .inl (k.2.2 0, 8, .inl (fun _ => 0))), (q9, .inl (k.2.2 0, 120, .inl (fun _ => 0))), (q10, .inl (k.2.2 0, 4, .inl (fun _ => 0)))]) inGX7 tyX7 tyX7_ok nmX7 18 (by decide) rfl rfl w_890 rfl rfl rfl (tyX7_ok 18 (by decide)) rfl rfl (Nat.le_of_ble_eq_true rfl) dX7_init_83 rfl ?_
  refine GW.aload_n dX7_init_86 0 rfl ?_
  refine GW.iconst (v := (4 : Int32)) dX7_init_87 (by decide) ?_
  refine GW.newa (N := 4) w_59 (by decide) (by decide) (Nat.le_of_ble_eq_true rfl) (Nat.le_of_ble_eq_true rfl) (Nat.le_of_ble_eq_true rfl) dX7_init_88 (fun q11 => ?_)
  refine GW.putF (q0 := 0) (ws' := [(h0, .inr (7, [.ref q1, .ref q2, .ref q3, .int (0 : Int32), .ref q4, .ref q5, .int (0 : Int32), .int (0 : Int32), .ref q6, .ref q7, .ref q8, .ref q9, .int (0 : Int32), .int (0 : Int32), .int (0 : Int32), .int (0 : Int32), .int (0 : Int32), .int (0 : Int32), .ref q10, .ref q11, .null])), (q1, .inl (k.2.2 0, 136, .inl (fun _ => 0))), (q2, .inl (k.2.2 0, 136, .inl (fun _ => 0))), (q3, .inl (k.2.2 0, 136, .inl (fun _ => 0))), (q4, .inl (k.2.2 0, 7, .inl (fun _ => 0))), (q5, .inl (k.2.2 0, 8, .inl (fun _ => 0))), (q6, .inl (k.2.2 0, 64, .inl (fun _ => 0))), (q7, .inl (k.2.2 0, 8, .inl (fun _ => 0))), (q8, .inl (k.2.2 0, 8, .inl (fun _ => 0))), (q9, .inl (k.2.2 0, 120, .inl (fun _ => 0))), (q10, .inl (k.2.2 0, 4, .inl (fun _ => 0))), (q11, .inl (k.2.2 0, 4, .inl (fun _ => 0)))]) inGX7 tyX7 tyX7_ok nmX7 19 (by decide) rfl rfl w_891 rfl rfl rfl (tyX7_ok 19 (by decide)) rfl rfl (Nat.le_of_ble_eq_true rfl) dX7_init_90 rfl ?_
  refine GW.aload_n dX7_init_93 0 rfl ?_
  refine GW.sipush (v := (160 : Int32)) dX7_init_94 (by decide) ?_
  refine GW.newa (N := 160) w_59 (by decide) (by decide) (Nat.le_of_ble_eq_true rfl) (Nat.le_of_ble_eq_true rfl) (Nat.le_of_ble_eq_true rfl) dX7_init_97 (fun q12 => ?_)
  refine GW.putF (q0 := 0) (ws' := [(h0, .inr (7, [.ref q1, .ref q2, .ref q3, .int (0 : Int32), .ref q4, .ref q5, .int (0 : Int32), .int (0 : Int32), .ref q6, .ref q7, .ref q8, .ref q9, .int (0 : Int32), .int (0 : Int32), .int (0 : Int32), .int (0 : Int32), .int (0 : Int32), .int (0 : Int32), .ref q10, .ref q11, .ref q12])), (q1, .inl (k.2.2 0, 136, .inl (fun _ => 0))), (q2, .inl (k.2.2 0, 136, .inl (fun _ => 0))), (q3, .inl (k.2.2 0, 136, .inl (fun _ => 0))), (q4, .inl (k.2.2 0, 7, .inl (fun _ => 0))), (q5, .inl (k.2.2 0, 8, .inl (fun _ => 0))), (q6, .inl (k.2.2 0, 64, .inl (fun _ => 0))), (q7, .inl (k.2.2 0, 8, .inl (fun _ => 0))), (q8, .inl (k.2.2 0, 8, .inl (fun _ => 0))), (q9, .inl (k.2.2 0, 120, .inl (fun _ => 0))), (q10, .inl (k.2.2 0, 4, .inl (fun _ => 0))), (q11, .inl (k.2.2 0, 4, .inl (fun _ => 0))), (q12, .inl (k.2.2 0, 160, .inl (fun _ => 0)))]) inGX7 tyX7 tyX7_ok nmX7 20 (by decide) rfl rfl w_892 rfl rfl rfl (tyX7_ok 20 (by decide)) rfl rfl (Nat.le_of_ble_eq_true rfl) dX7_init_99 rfl ?_
  refine GW.aload_n dX7_init_102 0 rfl ?_
  refine GW.get (q0 := 0) inGX7 0 (by decide) rfl rfl w_872 rfl dX7_init_103 ?_
  refine GW.iconst (v := (1 : Int32)) dX7_init_106 (by decide) ?_
  refine GW.bipush (v := (50 : Int32)) dX7_init_107 (by decide) ?_
  refine GW.iast (q0 := 1) (ws' := [(h0, .inr (7, [.ref q1, .ref q2, .ref q3, .int (0 : Int32), .ref q4, .ref q5, .int (0 : Int32), .int (0 : Int32), .ref q6, .ref q7, .ref q8, .ref q9, .int (0 : Int32), .int (0 : Int32), .int (0 : Int32), .int (0 : Int32), .int (0 : Int32), .int (0 : Int32), .ref q10, .ref q11, .ref q12])), (q1, .inl (k.2.2 0, 136, .inl (upd (fun _ => 0) 1 (50 : Int32)))), (q2, .inl (k.2.2 0, 136, .inl (fun _ => 0))), (q3, .inl (k.2.2 0, 136, .inl (fun _ => 0))), (q4, .inl (k.2.2 0, 7, .inl (fun _ => 0))), (q5, .inl (k.2.2 0, 8, .inl (fun _ => 0))), (q6, .inl (k.2.2 0, 64, .inl (fun _ => 0))), (q7, .inl (k.2.2 0, 8, .inl (fun _ => 0))), (q8, .inl (k.2.2 0, 8, .inl (fun _ => 0))), (q9, .inl (k.2.2 0, 120, .inl (fun _ => 0))), (q10, .inl (k.2.2 0, 4, .inl (fun _ => 0))), (q11, .inl (k.2.2 0, 4, .inl (fun _ => 0))), (q12, .inl (k.2.2 0, 160, .inl (fun _ => 0)))]) rfl (vp_in_nI (n := 1) (by decide) (by decide)) dX7_init_109 rfl ?_
  refine GW.aload_n dX7_init_110 0 rfl ?_
  refine GW.get (q0 := 0) inGX7 0 (by decide) rfl rfl w_872 rfl dX7_init_111 ?_
  refine GW.iconst (v := (2 : Int32)) dX7_init_114 (by decide) ?_
  refine GW.iconst (v := (1 : Int32)) dX7_init_115 (by decide) ?_
  refine GW.iast (q0 := 1) (ws' := [(h0, .inr (7, [.ref q1, .ref q2, .ref q3, .int (0 : Int32), .ref q4, .ref q5, .int (0 : Int32), .int (0 : Int32), .ref q6, .ref q7, .ref q8, .ref q9, .int (0 : Int32), .int (0 : Int32), .int (0 : Int32), .int (0 : Int32), .int (0 : Int32), .int (0 : Int32), .ref q10, .ref q11, .ref q12])), (q1, .inl (k.2.2 0, 136, .inl (upd (upd (fun _ => 0) 1 (50 : Int32)) 2 (1 : Int32)))), (q2, .inl (k.2.2 0, 136, .inl (fun _ => 0))), (q3, .inl (k.2.2 0, 136, .inl (fun _ => 0))), (q4, .inl (k.2.2 0, 7, .inl (fun _ => 0))), (q5, .inl (k.2.2 0, 8, .inl (fun _ => 0))), (q6, .inl (k.2.2 0, 64, .inl (fun _ => 0))), (q7, .inl (k.2.2 0, 8, .inl (fun _ => 0))), (q8, .inl (k.2.2 0, 8, .inl (fun _ => 0))), (q9, .inl (k.2.2 0, 120, .inl (fun _ => 0))), (q10, .inl (k.2.2 0, 4, .inl (fun _ => 0))), (q11, .inl (k.2.2 0, 4, .inl (fun _ => 0))), (q12, .inl (k.2.2 0, 160, .inl (fun _ => 0)))]) rfl (vp_in_nI (n := 2) (by decide) (by decide)) dX7_init_116 rfl ?_
  refine GW.iconst (v := (0 : Int32)) dX7_init_117 (by decide) ?_
  refine GW.istore_n (L' := [(0, .ref h0), (1, .int (0 : Int32))]) dX7_init_118 (by decide) rfl ?_
  refine GW.iload_n dX7_init_119 1 rfl ?_
  refine GW.bipush (v := (8 : Int32)) dX7_init_120 (by decide) ?_
  refine GW.icmp_ge (tgt := 142) dX7_init_122 (by decide) (fun c => absurd c (by decide)) (fun _ => ?_)
  refine GW.aload_n dX7_init_125 0 rfl ?_
  refine GW.get (q0 := 0) inGX7 0 (by decide) rfl rfl w_872 rfl dX7_init_126 ?_
  refine GW.bipush (v := (68 : Int32)) dX7_init_129 (by decide) ?_
  refine GW.iload_n dX7_init_131 1 rfl ?_
  refine GW.iadd (v := (68 : Int32)) dX7_init_132 (by decide) ?_
  refine GW.bipush (v := (10 : Int32)) dX7_init_133 (by decide) ?_
  refine GW.iast (q0 := 1) (ws' := [(h0, .inr (7, [.ref q1, .ref q2, .ref q3, .int (0 : Int32), .ref q4, .ref q5, .int (0 : Int32), .int (0 : Int32), .ref q6, .ref q7, .ref q8, .ref q9, .int (0 : Int32), .int (0 : Int32), .int (0 : Int32), .int (0 : Int32), .int (0 : Int32), .int (0 : Int32), .ref q10, .ref q11, .ref q12])), (q1, .inl (k.2.2 0, 136, .inl (upd (upd (upd (fun _ => 0) 1 (50 : Int32)) 2 (1 : Int32)) 68 (10 : Int32)))), (q2, .inl (k.2.2 0, 136, .inl (fun _ => 0))), (q3, .inl (k.2.2 0, 136, .inl (fun _ => 0))), (q4, .inl (k.2.2 0, 7, .inl (fun _ => 0))), (q5, .inl (k.2.2 0, 8, .inl (fun _ => 0))), (q6, .inl (k.2.2 0, 64, .inl (fun _ => 0))), (q7, .inl (k.2.2 0, 8, .inl (fun _ => 0))), (q8, .inl (k.2.2 0, 8, .inl (fun _ => 0))), (q9, .inl (k.2.2 0, 120, .inl (fun _ => 0))), (q10, .inl (k.2.2 0, 4, .inl (fun _ => 0))), (q11, .inl (k.2.2 0, 4, .inl (fun _ => 0))), (q12, .inl (k.2.2 0, 160, .inl (fun _ => 0)))]) rfl (vp_in_nI (n := 68) (by decide) (by decide)) dX7_init_135 rfl ?_
  refine GW.iinc (v := (1 : Int32)) (L' := [(0, .ref h0), (1, .int (1 : Int32))]) dX7_init_136 1 rfl (by decide) (by decide) rfl ?_
  refine GW.goto (tgt := 119) dX7_init_139 (by decide) ?_
  refine GW.iload_n dX7_init_119 1 rfl ?_
  refine GW.bipush (v := (8 : Int32)) dX7_init_120 (by decide) ?_
  refine GW.icmp_ge (tgt := 142) dX7_init_122 (by decide) (fun c => absurd c (by decide)) (fun _ => ?_)
  refine GW.aload_n dX7_init_125 0 rfl ?_
  refine GW.get (q0 := 0) inGX7 0 (by decide) rfl rfl w_872 rfl dX7_init_126 ?_
  refine GW.bipush (v := (68 : Int32)) dX7_init_129 (by decide) ?_
  refine GW.iload_n dX7_init_131 1 rfl ?_
  refine GW.iadd (v := (69 : Int32)) dX7_init_132 (by decide) ?_
  refine GW.bipush (v := (10 : Int32)) dX7_init_133 (by decide) ?_
  refine GW.iast (q0 := 1) (ws' := [(h0, .inr (7, [.ref q1, .ref q2, .ref q3, .int (0 : Int32), .ref q4, .ref q5, .int (0 : Int32), .int (0 : Int32), .ref q6, .ref q7, .ref q8, .ref q9, .int (0 : Int32), .int (0 : Int32), .int (0 : Int32), .int (0 : Int32), .int (0 : Int32), .int (0 : Int32), .ref q10, .ref q11, .ref q12])), (q1, .inl (k.2.2 0, 136, .inl (upd (upd (upd (upd (fun _ => 0) 1 (50 : Int32)) 2 (1 : Int32)) 68 (10 : Int32)) 69 (10 : Int32)))), (q2, .inl (k.2.2 0, 136, .inl (fun _ => 0))), (q3, .inl (k.2.2 0, 136, .inl (fun _ => 0))), (q4, .inl (k.2.2 0, 7, .inl (fun _ => 0))), (q5, .inl (k.2.2 0, 8, .inl (fun _ => 0))), (q6, .inl (k.2.2 0, 64, .inl (fun _ => 0))), (q7, .inl (k.2.2 0, 8, .inl (fun _ => 0))), (q8, .inl (k.2.2 0, 8, .inl (fun _ => 0))), (q9, .inl (k.2.2 0, 120, .inl (fun _ => 0))), (q10, .inl (k.2.2 0, 4, .inl (fun _ => 0))), (q11, .inl (k.2.2 0, 4, .inl (fun _ => 0))), (q12, .inl (k.2.2 0, 160, .inl (fun _ => 0)))]) rfl (vp_in_nI (n := 69) (by decide) (by decide)) dX7_init_135 rfl ?_
  refine GW.iinc (v := (2 : Int32)) (L' := [(0, .ref h0), (1, .int (2 : Int32))]) dX7_init_136 1 rfl (by decide) (by decide) rfl ?_
  refine GW.goto (tgt := 119) dX7_init_139 (by decide) ?_
  refine GW.iload_n dX7_init_119 1 rfl ?_
  refine GW.bipush (v := (8 : Int32)) dX7_init_120 (by decide) ?_
  refine GW.icmp_ge (tgt := 142) dX7_init_122 (by decide) (fun c => absurd c (by decide)) (fun _ => ?_)
  refine GW.aload_n dX7_init_125 0 rfl ?_
  refine GW.get (q0 := 0) inGX7 0 (by decide) rfl rfl w_872 rfl dX7_init_126 ?_
  refine GW.bipush (v := (68 : Int32)) dX7_init_129 (by decide) ?_
  refine GW.iload_n dX7_init_131 1 rfl ?_
  refine GW.iadd (v := (70 : Int32)) dX7_init_132 (by decide) ?_
  refine GW.bipush (v := (10 : Int32)) dX7_init_133 (by decide) ?_
  refine GW.iast (q0 := 1) (ws' := [(h0, .inr (7, [.ref q1, .ref q2, .ref q3, .int (0 : Int32), .ref q4, .ref q5, .int (0 : Int32), .int (0 : Int32), .ref q6, .ref q7, .ref q8, .ref q9, .int (0 : Int32), .int (0 : Int32), .int (0 : Int32), .int (0 : Int32), .int (0 : Int32), .int (0 : Int32), .ref q10, .ref q11, .ref q12])), (q1, .inl (k.2.2 0, 136, .inl (upd (upd (upd (upd (upd (fun _ => 0) 1 (50 : Int32)) 2 (1 : Int32)) 68 (10 : Int32)) 69 (10 : Int32)) 70 (10 : Int32)))), (q2, .inl (k.2.2 0, 136, .inl (fun _ => 0))), (q3, .inl (k.2.2 0, 136, .inl (fun _ => 0))), (q4, .inl (k.2.2 0, 7, .inl (fun _ => 0))), (q5, .inl (k.2.2 0, 8, .inl (fun _ => 0))), (q6, .inl (k.2.2 0, 64, .inl (fun _ => 0))), (q7, .inl (k.2.2 0, 8, .inl (fun _ => 0))), (q8, .inl (k.2.2 0, 8, .inl (fun _ => 0))), (q9, .inl (k.2.2 0, 120, .inl (fun _ => 0))), (q10, .inl (k.2.2 0, 4, .inl (fun _ => 0))), (q11, .inl (k.2.2 0, 4, .inl (fun _ => 0))), (q12, .inl (k.2.2 0, 160, .inl (fun _ => 0)))]) rfl (vp_in_nI (n := 70) (by decide) (by decide)) dX7_init_135 rfl ?_
  refine GW.iinc (v := (3 : Int32)) (L' := [(0, .ref h0), (1, .int (3 : Int32))]) dX7_init_136 1 rfl (by decide) (by decide) rfl ?_
  refine GW.goto (tgt := 119) dX7_init_139 (by decide) ?_
  refine GW.iload_n dX7_init_119 1 rfl ?_
  refine GW.bipush (v := (8 : Int32)) dX7_init_120 (by decide) ?_
  refine GW.icmp_ge (tgt := 142) dX7_init_122 (by decide) (fun c => absurd c (by decide)) (fun _ => ?_)
  refine GW.aload_n dX7_init_125 0 rfl ?_
  refine GW.get (q0 := 0) inGX7 0 (by decide) rfl rfl w_872 rfl dX7_init_126 ?_
  refine GW.bipush (v := (68 : Int32)) dX7_init_129 (by decide) ?_
  refine GW.iload_n dX7_init_131 1 rfl ?_
  refine GW.iadd (v := (71 : Int32)) dX7_init_132 (by decide) ?_
  refine GW.bipush (v := (10 : Int32)) dX7_init_133 (by decide) ?_
  refine GW.iast (q0 := 1) (ws' := [(h0, .inr (7, [.ref q1, .ref q2, .ref q3, .int (0 : Int32), .ref q4, .ref q5, .int (0 : Int32), .int (0 : Int32), .ref q6, .ref q7, .ref q8, .ref q9, .int (0 : Int32), .int (0 : Int32), .int (0 : Int32), .int (0 : Int32), .int (0 : Int32), .int (0 : Int32), .ref q10, .ref q11, .ref q12])), (q1, .inl (k.2.2 0, 136, .inl (upd (upd (upd (upd (upd (upd (fun _ => 0) 1 (50 : Int32)) 2 (1 : Int32)) 68 (10 : Int32)) 69 (10 : Int32)) 70 (10 : Int32)) 71 (10 : Int32)))), (q2, .inl (k.2.2 0, 136, .inl (fun _ => 0))), (q3, .inl (k.2.2 0, 136, .inl (fun _ => 0))), (q4, .inl (k.2.2 0, 7, .inl (fun _ => 0))), (q5, .inl (k.2.2 0, 8, .inl (fun _ => 0))), (q6, .inl (k.2.2 0, 64, .inl (fun _ => 0))), (q7, .inl (k.2.2 0, 8, .inl (fun _ => 0))), (q8, .inl (k.2.2 0, 8, .inl (fun _ => 0))), (q9, .inl (k.2.2 0, 120, .inl (fun _ => 0))), (q10, .inl (k.2.2 0, 4, .inl (fun _ => 0))), (q11, .inl (k.2.2 0, 4, .inl (fun _ => 0))), (q12, .inl (k.2.2 0, 160, .inl (fun _ => 0)))]) rfl (vp_in_nI (n := 71) (by decide) (by decide)) dX7_init_135 rfl ?_
  refine GW.iinc (v := (4 : Int32)) (L' := [(0, .ref h0), (1, .int (4 : Int32))]) dX7_init_136 1 rfl (by decide) (by decide) rfl ?_
  refine GW.goto (tgt := 119) dX7_init_139 (by decide) ?_
  refine GW.iload_n dX7_init_119 1 rfl ?_
  refine GW.bipush (v := (8 : Int32)) dX7_init_120 (by decide) ?_
  refine GW.icmp_ge (tgt := 142) dX7_init_122 (by decide) (fun c => absurd c (by decide)) (fun _ => ?_)
  refine GW.aload_n dX7_init_125 0 rfl ?_
  refine GW.get (q0 := 0) inGX7 0 (by decide) rfl rfl w_872 rfl dX7_init_126 ?_
  refine GW.bipush (v := (68 : Int32)) dX7_init_129 (by decide) ?_
  refine GW.iload_n dX7_init_131 1 rfl ?_
  refine GW.iadd (v := (72 : Int32)) dX7_init_132 (by decide) ?_
  refine GW.bipush (v := (10 : Int32)) dX7_init_133 (by decide) ?_
  refine GW.iast (q0 := 1) (ws' := [(h0, .inr (7, [.ref q1, .ref q2, .ref q3, .int (0 : Int32), .ref q4, .ref q5, .int (0 : Int32), .int (0 : Int32), .ref q6, .ref q7, .ref q8, .ref q9, .int (0 : Int32), .int (0 : Int32), .int (0 : Int32), .int (0 : Int32), .int (0 : Int32), .int (0 : Int32), .ref q10, .ref q11, .ref q12])), (q1, .inl (k.2.2 0, 136, .inl (upd (upd (upd (upd (upd (upd (upd (fun _ => 0) 1 (50 : Int32)) 2 (1 : Int32)) 68 (10 : Int32)) 69 (10 : Int32)) 70 (10 : Int32)) 71 (10 : Int32)) 72 (10 : Int32)))), (q2, .inl (k.2.2 0, 136, .inl (fun _ => 0))), (q3, .inl (k.2.2 0, 136, .inl (fun _ => 0))), (q4, .inl (k.2.2 0, 7, .inl (fun _ => 0))), (q5, .inl (k.2.2 0, 8, .inl (fun _ => 0))), (q6, .inl (k.2.2 0, 64, .inl (fun _ => 0))), (q7, .inl (k.2.2 0, 8, .inl (fun _ => 0))), (q8, .inl (k.2.2 0, 8, .inl (fun _ => 0))), (q9, .inl (k.2.2 0, 120, .inl (fun _ => 0))), (q10, .inl (k.2.2 0, 4, .inl (fun _ => 0))), (q11, .inl (k.2.2 0, 4, .inl (fun _ => 0))), (q12, .inl (k.2.2 0, 160, .inl (fun _ => 0)))]) rfl (vp_in_nI (n := 72) (by decide) (by decide)) dX7_init_135 rfl ?_
  refine GW.iinc (v := (5 : Int32)) (L' := [(0, .ref h0), (1, .int (5 : Int32))]) dX7_init_136 1 rfl (by decide) (by decide) rfl ?_
  refine GW.goto (tgt := 119) dX7_init_139 (by decide) ?_
  refine GW.iload_n dX7_init_119 1 rfl ?_
  refine GW.bipush (v := (8 : Int32)) dX7_init_120 (by decide) ?_
  refine GW.icmp_ge (tgt := 142) dX7_init_122 (by decide) (fun c => absurd c (by decide)) (fun _ => ?_)
  refine GW.aload_n dX7_init_125 0 rfl ?_
  refine GW.get (q0 := 0) inGX7 0 (by decide) rfl rfl w_872 rfl dX7_init_126 ?_
  refine GW.bipush (v := (68 : Int32)) dX7_init_129 (by decide) ?_
  refine GW.iload_n dX7_init_131 1 rfl ?_
  refine GW.iadd (v := (73 : Int32)) dX7_init_132 (by decide) ?_
  refine GW.bipush (v := (10 : Int32)) dX7_init_133 (by decide) ?_
  refine GW.iast (q0 := 1) (ws' := [(h0, .inr (7, [.ref q1, .ref q2, .ref q3, .int (0 : Int32), .ref q4, .ref q5, .int (0 : Int32), .int (0 : Int32), .ref q6, .ref q7, .ref q8, .ref q9, .int (0 : Int32), .int (0 : Int32), .int (0 : Int32), .int (0 : Int32), .int (0 : Int32), .int (0 : Int32), .ref q10, .ref q11, .ref q12])), (q1, .inl (k.2.2 0, 136, .inl (upd (upd (upd (upd (upd (upd (upd (upd (fun _ => 0) 1 (50 : Int32)) 2 (1 : Int32)) 68 (10 : Int32)) 69 (10 : Int32)) 70 (10 : Int32)) 71 (10 : Int32)) 72 (10 : Int32)) 73 (10 : Int32)))), (q2, .inl (k.2.2 0, 136, .inl (fun _ => 0))), (q3, .inl (k.2.2 0, 136, .inl (fun _ => 0))), (q4, .inl (k.2.2 0, 7, .inl (fun _ => 0))), (q5, .inl (k.2.2 0, 8, .inl (fun _ => 0))), (q6, .inl (k.2.2 0, 64, .inl (fun _ => 0))), (q7, .inl (k.2.2 0, 8, .inl (fun _ => 0))), (q8, .inl (k.2.2 0, 8, .inl (fun _ => 0))), (q9, .inl (k.2.2 0, 120, .inl (fun _ => 0))), (q10, .inl (k.2.2 0, 4, .inl (fun _ => 0))), (q11, .inl (k.2.2 0, 4, .inl (fun _ => 0))), (q12, .inl (k.2.2 0, 160, .inl (fun _ => 0)))]) rfl (vp_in_nI (n := 73) (by decide) (by decide)) dX7_init_135 rfl ?_
  refine GW.iinc (v := (6 : Int32)) (L' := [(0, .ref h0), (1, .int (6 : Int32))]) dX7_init_136 1 rfl (by decide) (by decide) rfl ?_
  refine GW.goto (tgt := 119) dX7_init_139 (by decide) ?_
  refine GW.iload_n dX7_init_119 1 rfl ?_
  refine GW.bipush (v := (8 : Int32)) dX7_init_120 (by decide) ?_
  refine GW.icmp_ge (tgt := 142) dX7_init_122 (by decide) (fun c => absurd c (by decide)) (fun _ => ?_)
  refine GW.aload_n dX7_init_125 0 rfl ?_
  refine GW.get (q0 := 0) inGX7 0 (by decide) rfl rfl w_872 rfl dX7_init_126 ?_
  refine GW.bipush (v := (68 : Int32)) dX7_init_129 (by decide) ?_
  refine GW.iload_n dX7_init_131 1 rfl ?_
  refine GW.iadd (v := (74 : Int32)) dX7_init_132 (by decide) ?_
  refine GW.bipush (v := (10 : Int32)) dX7_init_133 (by decide) ?_
  refine GW.iast (q0 := 1) (ws' := [(h0, .inr (7, [.ref q1, .ref q2, .ref q3, .int (0 : Int32), .ref q4, .ref q5, .int (0 : Int32), .int (0 : Int32), .ref q6, .ref q7, .ref q8, .ref q9, .int (0 : Int32), .int (0 : Int32), .int (0 : Int32), .int (0 : Int32), .int (0 : Int32), .int (0 : Int32), .ref q10, .ref q11, .ref q12])), (q1, .inl (k.2.2 0, 136, .inl (upd (upd (upd (upd (upd (upd (upd (upd (upd (fun _ => 0) 1 (50 : Int32)) 2 (1 : Int32)) 68 (10 : Int32)) 69 (10 : Int32)) 70 (10 : Int32)) 71 (10 : Int32)) 72 (10 : Int32)) 73 (10 : Int32)) 74 (10 : Int32)))), (q2, .inl (k.2.2 0, 136, .inl (fun _ => 0))), (q3, .inl (k.2.2 0, 136, .inl (fun _ => 0))), (q4, .inl (k.2.2 0, 7, .inl (fun _ => 0))), (q5, .inl (k.2.2 0, 8, .inl (fun _ => 0))), (q6, .inl (k.2.2 0, 64, .inl (fun _ => 0))), (q7, .inl (k.2.2 0, 8, .inl (fun _ => 0))), (q8, .inl (k.2.2 0, 8, .inl (fun _ => 0))), (q9, .inl (k.2.2 0, 120, .inl (fun _ => 0))), (q10, .inl (k.2.2 0, 4, .inl (fun _ => 0))), (q11, .inl (k.2.2 0, 4, .inl (fun _ => 0))), (q12, .inl (k.2.2 0, 160, .inl (fun _ => 0)))]) rfl (vp_in_nI (n := 74) (by decide) (by decide)) dX7_init_135 rfl ?_
  refine GW.iinc (v := (7 : Int32)) (L' := [(0, .ref h0), (1, .int (7 : Int32))]) dX7_init_136 1 rfl (by decide) (by decide) rfl ?_
  refine GW.goto (tgt := 119) dX7_init_139 (by decide) ?_
  refine GW.iload_n dX7_init_119 1 rfl ?_
  refine GW.bipush (v := (8 : Int32)) dX7_init_120 (by decide) ?_
  refine GW.icmp_ge (tgt := 142) dX7_init_122 (by decide) (fun c => absurd c (by decide)) (fun _ => ?_)
  refine GW.aload_n dX7_init_125 0 rfl ?_
  refine GW.get (q0 := 0) inGX7 0 (by decide) rfl rfl w_872 rfl dX7_init_126 ?_
  refine GW.bipush (v := (68 : Int32)) dX7_init_129 (by decide) ?_
  refine GW.iload_n dX7_init_131 1 rfl ?_
  refine GW.iadd (v := (75 : Int32)) dX7_init_132 (by decide) ?_
  refine GW.bipush (v := (10 : Int32)) dX7_init_133 (by decide) ?_
  refine GW.iast (q0 := 1) (ws' := [(h0, .inr (7, [.ref q1, .ref q2, .ref q3, .int (0 : Int32), .ref q4, .ref q5, .int (0 : Int32), .int (0 : Int32), .ref q6, .ref q7, .ref q8, .ref q9, .int (0 : Int32), .int (0 : Int32), .int (0 : Int32), .int (0 : Int32), .int (0 : Int32), .int (0 : Int32), .ref q10, .ref q11, .ref q12])), (q1, .inl (k.2.2 0, 136, .inl (upd (upd (upd (upd (upd (upd (upd (upd (upd (upd (fun _ => 0) 1 (50 : Int32)) 2 (1 : Int32)) 68 (10 : Int32)) 69 (10 : Int32)) 70 (10 : Int32)) 71 (10 : Int32)) 72 (10 : Int32)) 73 (10 : Int32)) 74 (10 : Int32)) 75 (10 : Int32)))), (q2, .inl (k.2.2 0, 136, .inl (fun _ => 0))), (q3, .inl (k.2.2 0, 136, .inl (fun _ => 0))), (q4, .inl (k.2.2 0, 7, .inl (fun _ => 0))), (q5, .inl (k.2.2 0, 8, .inl (fun _ => 0))), (q6, .inl (k.2.2 0, 64, .inl (fun _ => 0))), (q7, .inl (k.2.2 0, 8, .inl (fun _ => 0))), (q8, .inl (k.2.2 0, 8, .inl (fun _ => 0))), (q9, .inl (k.2.2 0, 120, .inl (fun _ => 0))), (q10, .inl (k.2.2 0, 4, .inl (fun _ => 0))), (q11, .inl (k.2.2 0, 4, .inl (fun _ => 0))), (q12, .inl (k.2.2 0, 160, .inl (fun _ => 0)))]) rfl (vp_in_nI (n := 75) (by decide) (by decide)) dX7_init_135 rfl ?_
  refine GW.iinc (v := (8 : Int32)) (L' := [(0, .ref h0), (1, .int (8 : Int32))]) dX7_init_136 1 rfl (by decide) (by decide) rfl ?_
  refine GW.goto (tgt := 119) dX7_init_139 (by decide) ?_
  refine GW.iload_n dX7_init_119 1 rfl ?_
  refine GW.bipush (v := (8 : Int32)) dX7_init_120 (by decide) ?_
  refine GW.icmp_ge (tgt := 142) dX7_init_122 (by decide) (fun _ => ?_) (fun c => absurd (by decide) c)
  refine GW.iconst (v := (0 : Int32)) dX7_init_142 (by decide) ?_
  refine GW.istore_n (L' := [(0, .ref h0), (1, .int (0 : Int32))]) dX7_init_143 (by decide) rfl ?_
  refine GW.iload_n dX7_init_144 1 rfl ?_
  refine GW.bipush (v := (10 : Int32)) dX7_init_145 (by decide) ?_
  refine GW.icmp_ge (tgt := 166) dX7_init_147 (by decide) (fun c => absurd c (by decide)) (fun _ => ?_)
  refine GW.aload_n dX7_init_150 0 rfl ?_
  refine GW.get (q0 := 0) inGX7 0 (by decide) rfl rfl w_872 rfl dX7_init_151 ?_
  refine GW.bipush (v := (126 : Int32)) dX7_init_154 (by decide) ?_
  refine GW.iload_n dX7_init_156 1 rfl ?_
  refine GW.iadd (v := (126 : Int32)) dX7_init_157 (by decide) ?_
  refine GW.iconst (v := (-1 : Int32)) dX7_init_158 (by decide) ?_
  refine GW.iast (q0 := 1) (ws' := [(h0, .inr (7, [.ref q1, .ref q2, .ref q3, .int (0 : Int32), .ref q4, .ref q5, .int (0 : Int32), .int (0 : Int32), .ref q6, .ref q7, .ref q8, .ref q9, .int (0 : Int32), .int (0 : Int32), .int (0 : Int32), .int (0 : Int32), .int (0 : Int32), .int (0 : Int32), .ref q10, .ref q11, .ref q12])), (q1, .inl (k.2.2 0, 136, .inl (upd (upd (upd (upd (upd (upd (upd (upd (upd (upd (upd (fun _ => 0) 1 (50 : Int32)) 2 (1 : Int32)) 68 (10 : Int32)) 69 (10 : Int32)) 70 (10 : Int32)) 71 (10 : Int32)) 72 (10 : Int32)) 73 (10 : Int32)) 74 (10 : Int32)) 75 (10 : Int32)) 126 (-1 : Int32)))), (q2, .inl (k.2.2 0, 136, .inl (fun _ => 0))), (q3, .inl (k.2.2 0, 136, .inl (fun _ => 0))), (q4, .inl (k.2.2 0, 7, .inl (fun _ => 0))), (q5, .inl (k.2.2 0, 8, .inl (fun _ => 0))), (q6, .inl (k.2.2 0, 64, .inl (fun _ => 0))), (q7, .inl (k.2.2 0, 8, .inl (fun _ => 0))), (q8, .inl (k.2.2 0, 8, .inl (fun _ => 0))), (q9, .inl (k.2.2 0, 120, .inl (fun _ => 0))), (q10, .inl (k.2.2 0, 4, .inl (fun _ => 0))), (q11, .inl (k.2.2 0, 4, .inl (fun _ => 0))), (q12, .inl (k.2.2 0, 160, .inl (fun _ => 0)))]) rfl (vp_in_nI (n := 126) (by decide) (by decide)) dX7_init_159 rfl ?_
  refine GW.iinc (v := (1 : Int32)) (L' := [(0, .ref h0), (1, .int (1 : Int32))]) dX7_init_160 1 rfl (by decide) (by decide) rfl ?_
  refine GW.goto (tgt := 144) dX7_init_163 (by decide) ?_
  refine GW.iload_n dX7_init_144 1 rfl ?_
  refine GW.bipush (v := (10 : Int32)) dX7_init_145 (by decide) ?_
  refine GW.icmp_ge (tgt := 166) dX7_init_147 (by decide) (fun c => absurd c (by decide)) (fun _ => ?_)
  refine GW.aload_n dX7_init_150 0 rfl ?_
  refine GW.get (q0 := 0) inGX7 0 (by decide) rfl rfl w_872 rfl dX7_init_151 ?_
  refine GW.bipush (v := (126 : Int32)) dX7_init_154 (by decide) ?_
  refine GW.iload_n dX7_init_156 1 rfl ?_
  refine GW.iadd (v := (127 : Int32)) dX7_init_157 (by decide) ?_
  refine GW.iconst (v := (-1 : Int32)) dX7_init_158 (by decide) ?_
  refine GW.iast (q0 := 1) (ws' := [(h0, .inr (7, [.ref q1, .ref q2, .ref q3, .int (0 : Int32), .ref q4, .ref q5, .int (0 : Int32), .int (0 : Int32), .ref q6, .ref q7, .ref q8, .ref q9, .int (0 : Int32), .int (0 : Int32), .int (0 : Int32), .int (0 : Int32), .int (0 : Int32), .int (0 : Int32), .ref q10, .ref q11, .ref q12])), (q1, .inl (k.2.2 0, 136, .inl (upd (upd (upd (upd (upd (upd (upd (upd (upd (upd (upd (upd (fun _ => 0) 1 (50 : Int32)) 2 (1 : Int32)) 68 (10 : Int32)) 69 (10 : Int32)) 70 (10 : Int32)) 71 (10 : Int32)) 72 (10 : Int32)) 73 (10 : Int32)) 74 (10 : Int32)) 75 (10 : Int32)) 126 (-1 : Int32)) 127 (-1 : Int32)))), (q2, .inl (k.2.2 0, 136, .inl (fun _ => 0))), (q3, .inl (k.2.2 0, 136, .inl (fun _ => 0))), (q4, .inl (k.2.2 0, 7, .inl (fun _ => 0))), (q5, .inl (k.2.2 0, 8, .inl (fun _ => 0))), (q6, .inl (k.2.2 0, 64, .inl (fun _ => 0))), (q7, .inl (k.2.2 0, 8, .inl (fun _ => 0))), (q8, .inl (k.2.2 0, 8, .inl (fun _ => 0))), (q9, .inl (k.2.2 0, 120, .inl (fun _ => 0))), (q10, .inl (k.2.2 0, 4, .inl (fun _ => 0))), (q11, .inl (k.2.2 0, 4, .inl (fun _ => 0))), (q12, .inl (k.2.2 0, 160, .inl (fun _ => 0)))]) rfl (vp_in_nI (n := 127) (by decide) (by decide)) dX7_init_159 rfl ?_
  refine GW.iinc (v := (2 : Int32)) (L' := [(0, .ref h0), (1, .int (2 : Int32))]) dX7_init_160 1 rfl (by decide) (by decide) rfl ?_
  refine GW.goto (tgt := 144) dX7_init_163 (by decide) ?_
  refine GW.iload_n dX7_init_144 1 rfl ?_
  refine GW.bipush (v := (10 : Int32)) dX7_init_145 (by decide) ?_
  refine GW.icmp_ge (tgt := 166) dX7_init_147 (by decide) (fun c => absurd c (by decide)) (fun _ => ?_)
  refine GW.aload_n dX7_init_150 0 rfl ?_
  refine GW.get (q0 := 0) inGX7 0 (by decide) rfl rfl w_872 rfl dX7_init_151 ?_
  refine GW.bipush (v := (126 : Int32)) dX7_init_154 (by decide) ?_
  refine GW.iload_n dX7_init_156 1 rfl ?_
  refine GW.iadd (v := (128 : Int32)) dX7_init_157 (by decide) ?_
  refine GW.iconst (v := (-1 : Int32)) dX7_init_158 (by decide) ?_
  refine GW.iast (q0 := 1) (ws' := [(h0, .inr (7, [.ref q1, .ref q2, .ref q3, .int (0 : Int32), .ref q4, .ref q5, .int (0 : Int32), .int (0 : Int32), .ref q6, .ref q7, .ref q8, .ref q9, .int (0 : Int32), .int (0 : Int32), .int (0 : Int32), .int (0 : Int32), .int (0 : Int32), .int (0 : Int32), .ref q10, .ref q11, .ref q12])), (q1, .inl (k.2.2 0, 136, .inl (upd (upd (upd (upd (upd (upd (upd (upd (upd (upd (upd (upd (upd (fun _ => 0) 1 (50 : Int32)) 2 (1 : Int32)) 68 (10 : Int32)) 69 (10 : Int32)) 70 (10 : Int32)) 71 (10 : Int32)) 72 (10 : Int32)) 73 (10 : Int32)) 74 (10 : Int32)) 75 (10 : Int32)) 126 (-1 : Int32)) 127 (-1 : Int32)) 128 (-1 : Int32)))), (q2, .inl (k.2.2 0, 136, .inl (fun _ => 0))), (q3, .inl (k.2.2 0, 136, .inl (fun _ => 0))), (q4, .inl (k.2.2 0, 7, .inl (fun _ => 0))), (q5, .inl (k.2.2 0, 8, .inl (fun _ => 0))), (q6, .inl (k.2.2 0, 64, .inl (fun _ => 0))), (q7, .inl (k.2.2 0, 8, .inl (fun _ => 0))), (q8, .inl (k.2.2 0, 8, .inl (fun _ => 0))), (q9, .inl (k.2.2 0, 120, .inl (fun _ => 0))), (q10, .inl (k.2.2 0, 4, .inl (fun _ => 0))), (q11, .inl (k.2.2 0, 4, .inl (fun _ => 0))), (q12, .inl (k.2.2 0, 160, .inl (fun _ => 0)))]) rfl (vp_in_nI (n := 128) (by decide) (by decide)) dX7_init_159 rfl ?_
  refine GW.iinc (v := (3 : Int32)) (L' := [(0, .ref h0), (1, .int (3 : Int32))]) dX7_init_160 1 rfl (by decide) (by decide) rfl ?_
  refine GW.goto (tgt := 144) dX7_init_163 (by decide) ?_
  refine GW.iload_n dX7_init_144 1 rfl ?_
  refine GW.bipush (v := (10 : Int32)) dX7_init_145 (by decide) ?_
  refine GW.icmp_ge (tgt := 166) dX7_init_147 (by decide) (fun c => absurd c (by decide)) (fun _ => ?_)
  refine GW.aload_n dX7_init_150 0 rfl ?_
  refine GW.get (q0 := 0) inGX7 0 (by decide) rfl rfl w_872 rfl dX7_init_151 ?_
  refine GW.bipush (v := (126 : Int32)) dX7_init_154 (by decide) ?_
  refine GW.iload_n dX7_init_156 1 rfl ?_
  refine GW.iadd (v := (129 : Int32)) dX7_init_157 (by decide) ?_
  refine GW.iconst (v := (-1 : Int32)) dX7_init_158 (by decide) ?_
  refine GW.iast (q0 := 1) (ws' := [(h0, .inr (7, [.ref q1, .ref q2, .ref q3, .int (0 : Int32), .ref q4, .ref q5, .int (0 : Int32), .int (0 : Int32), .ref q6, .ref q7, .ref q8, .ref q9, .int (0 : Int32), .int (0 : Int32), .int (0 : Int32), .int (0 : Int32), .int (0 : Int32), .int (0 : Int32), .ref q10, .ref q11, .ref q12])), (q1, .inl (k.2.2 0, 136, .inl (upd (upd (upd (upd (upd (upd (upd (upd (upd (upd (upd (upd (upd (upd (fun _ => 0) 1 (50 : Int32)) 2 (1 : Int32)) 68 (10 : Int32)) 69 (10 : Int32)) 70 (10 : Int32)) 71 (10 : Int32)) 72 (10 : Int32)) 73 (10 : Int32)) 74 (10 : Int32)) 75 (10 : Int32)) 126 (-1 : Int32)) 127 (-1 : Int32)) 128 (-1 : Int32)) 129 (-1 : Int32)))), (q2, .inl (k.2.2 0, 136, .inl (fun _ => 0))), (q3, .inl (k.2.2 0, 136, .inl (fun _ => 0))), (q4, .inl (k.2.2 0, 7, .inl (fun _ => 0))), (q5, .inl (k.2.2 0, 8, .inl (fun _ => 0))), (q6, .inl (k.2.2 0, 64, .inl (fun _ => 0))), (q7, .inl (k.2.2 0, 8, .inl (fun _ => 0))), (q8, .inl (k.2.2 0, 8, .inl (fun _ => 0))), (q9, .inl (k.2.2 0, 120, .inl (fun _ => 0))), (q10, .inl (k.2.2 0, 4, .inl (fun _ => 0))), (q11, .inl (k.2.2 0, 4, .inl (fun _ => 0))), (q12, .inl (k.2.2 0, 160, .inl (fun _ => 0)))]) rfl (vp_in_nI (n := 129) (by decide) (by decide)) dX7_init_159 rfl ?_
  refine GW.iinc (v := (4 : Int32)) (L' := [(0, .ref h0), (1, .int (4 : Int32))]) dX7_init_160 1 rfl (by decide) (by decide) rfl ?_
  refine GW.goto (tgt := 144) dX7_init_163 (by decide) ?_
  refine GW.iload_n dX7_init_144 1 rfl ?_
  refine GW.bipush (v := (10 : Int32)) dX7_init_145 (by decide) ?_
  refine GW.icmp_ge (tgt := 166) dX7_init_147 (by decide) (fun c => absurd c (by decide)) (fun _ => ?_)
  refine GW.aload_n dX7_init_150 0 rfl ?_
  refine GW.get (q0 := 0) inGX7 0 (by decide) rfl rfl w_872 rfl dX7_init_151 ?_
  refine GW.bipush (v := (126 : Int32)) dX7_init_154 (by decide) ?_
  refine GW.iload_n dX7_init_156 1 rfl ?_
  refine GW.iadd (v := (130 : Int32)) dX7_init_157 (by decide) ?_
  refine GW.iconst (v := (-1 : Int32)) dX7_init_158 (by decide) ?_
  refine GW.iast (q0 := 1) (ws' := [(h0, .inr (7, [.ref q1, .ref q2, .ref q3, .int (0 : Int32), .ref q4, .ref q5, .int (0 : Int32), .int (0 : Int32), .ref q6, .ref q7, .ref q8, .ref q9, .int (0 : Int32), .int (0 : Int32), .int (0 : Int32), .int (0 : Int32), .int (0 : Int32), .int (0 : Int32), .ref q10, .ref q11, .ref q12])), (q1, .inl (k.2.2 0, 136, .inl (upd (upd (upd (upd (upd (upd (upd (upd (upd (upd (upd (upd (upd (upd (upd (fun _ => 0) 1 (50 : Int32)) 2 (1 : Int32)) 68 (10 : Int32)) 69 (10 : Int32)) 70 (10 : Int32)) 71 (10 : Int32)) 72 (10 : Int32)) 73 (10 : Int32)) 74 (10 : Int32)) 75 (10 : Int32)) 126 (-1 : Int32)) 127 (-1 : Int32)) 128 (-1 : Int32)) 129 (-1 : Int32)) 130 (-1 : Int32)))), (q2, .inl (k.2.2 0, 136, .inl (fun _ => 0))), (q3, .inl (k.2.2 0, 136, .inl (fun _ => 0))), (q4, .inl (k.2.2 0, 7, .inl (fun _ => 0))), (q5, .inl (k.2.2 0, 8, .inl (fun _ => 0))), (q6, .inl (k.2.2 0, 64, .inl (fun _ => 0))), (q7, .inl (k.2.2 0, 8, .inl (fun _ => 0))), (q8, .inl (k.2.2 0, 8, .inl (fun _ => 0))), (q9, .inl (k.2.2 0, 120, .inl (fun _ => 0))), (q10, .inl (k.2.2 0, 4, .inl (fun _ => 0))), (q11, .inl (k.2.2 0, 4, .inl (fun _ => 0))), (q12, .inl (k.2.2 0, 160, .inl (fun _ => 0)))]) rfl (vp_in_nI (n := 130) (by decide) (by decide)) dX7_init_159 rfl ?_
  refine GW.iinc (v := (5 : Int32)) (L' := [(0, .ref h0), (1, .int (5 : Int32))]) dX7_init_160 1 rfl (by decide) (by decide) rfl ?_
  refine GW.goto (tgt := 144) dX7_init_163 (by decide) ?_
  refine GW.iload_n dX7_init_144 1 rfl ?_
  refine GW.bipush (v := (10 : Int32)) dX7_init_145 (by decide) ?_
  refine GW.icmp_ge (tgt := 166) dX7_init_147 (by decide) (fun c => absurd c (by decide)) (fun _ => ?_)
  refine GW.aload_n dX7_init_150 0 rfl ?_
  refine GW.get (q0 := 0) inGX7 0 (by decide) rfl rfl w_872 rfl dX7_init_151 ?_
  refine GW.bipush (v := (126 : Int32)) dX7_init_154 (by decide) ?_
  refine GW.iload_n dX7_init_156 1 rfl ?_
  refine GW.iadd (v := (131 : Int32)) dX7_init_157 (by decide) ?_
  refine GW.iconst (v := (-1 : Int32)) dX7_init_158 (by decide) ?_
  refine GW.iast (q0 := 1) (ws' := [(h0, .inr (7, [.ref q1, .ref q2, .ref q3, .int (0 : Int32), .ref q4, .ref q5, .int (0 : Int32), .int (0 : Int32), .ref q6, .ref q7, .ref q8, .ref q9, .int (0 : Int32), .int (0 : Int32), .int (0 : Int32), .int (0 : Int32), .int (0 : Int32), .int (0 : Int32), .ref q10, .ref q11, .ref q12])), (q1, .inl (k.2.2 0, 136, .inl (upd (upd (upd (upd (upd (upd (upd (upd (upd (upd (upd (upd (upd (upd (upd (upd (fun _ => 0) 1 (50 : Int32)) 2 (1 : Int32)) 68 (10 : Int32)) 69 (10 : Int32)) 70 (10 : Int32)) 71 (10 : Int32)) 72 (10 : Int32)) 73 (10 : Int32)) 74 (10 : Int32)) 75 (10 : Int32)) 126 (-1 : Int32)) 127 (-1 : Int32)) 128 (-1 : Int32)) 129 (-1 : Int32)) 130 (-1 : Int32)) 131 (-1 : Int32)))), (q2, .inl (k.2.2 0, 136, .inl (fun _ => 0))), (q3, .inl (k.2.2 0, 136, .inl (fun _ => 0))), (q4, .inl (k.2.2 0, 7, .inl (fun _ => 0))), (q5, .inl (k.2.2 0, 8, .inl (fun _ => 0))), (q6, .inl (k.2.2 0, 64, .inl (fun _ => 0))), (q7, .inl (k.2.2 0, 8, .inl (fun _ => 0))), (q8, .inl (k.2.2 0, 8, .inl (fun _ => 0))), (q9, .inl (k.2.2 0, 120, .inl (fun _ => 0))), (q10, .inl (k.2.2 0, 4, .inl (fun _ => 0))), (q11, .inl (k.2.2 0, 4, .inl (fun _ => 0))), (q12, .inl (k.2.2 0, 160, .inl (fun _ => 0)))]) rfl (vp_in_nI (n := 131) (by decide) (by decide)) dX7_init_159 rfl ?_
  refine GW.iinc (v := (6 : Int32)) (L' := [(0, .ref h0), (1, .int (6 : Int32))]) dX7_init_160 1 rfl (by decide) (by decide) rfl ?_
  refine GW.goto (tgt := 144) dX7_init_163 (by decide) ?_
  refine GW.iload_n dX7_init_144 1 rfl ?_
  refine GW.bipush (v := (10 : Int32)) dX7_init_145 (by decide) ?_
  refine GW.icmp_ge (tgt := 166) dX7_init_147 (by decide) (fun c => absurd c (by decide)) (fun _ => ?_)
  refine GW.aload_n dX7_init_150 0 rfl ?_
  refine GW.get (q0 := 0) inGX7 0 (by decide) rfl rfl w_872 rfl dX7_init_151 ?_
  refine GW.bipush (v := (126 : Int32)) dX7_init_154 (by decide) ?_
  refine GW.iload_n dX7_init_156 1 rfl ?_
  refine GW.iadd (v := (132 : Int32)) dX7_init_157 (by decide) ?_
  refine GW.iconst (v := (-1 : Int32)) dX7_init_158 (by decide) ?_
  refine GW.iast (q0 := 1) (ws' := [(h0, .inr (7, [.ref q1, .ref q2, .ref q3, .int (0 : Int32), .ref q4, .ref q5, .int (0 : Int32), .int (0 : Int32), .ref q6, .ref q7, .ref q8, .ref q9, .int (0 : Int32), .int (0 : Int32), .int (0 : Int32), .int (0 : Int32), .int (0 : Int32), .int (0 : Int32), .ref q10, .ref q11, .ref q12])), (q1, .inl (k.2.2 0, 136, .inl (upd (upd (upd (upd (upd (upd (upd (upd (upd (upd (upd (upd (upd (upd (upd (upd (upd (fun _ => 0) 1 (50 : Int32)) 2 (1 : Int32)) 68 (10 : Int32)) 69 (10 : Int32)) 70 (10 : Int32)) 71 (10 : Int32)) 72 (10 : Int32)) 73 (10 : Int32)) 74 (10 : Int32)) 75 (10 : Int32)) 126 (-1 : Int32)) 127 (-1 : Int32)) 128 (-1 : Int32)) 129 (-1 : Int32)) 130 (-1 : Int32)) 131 (-1 : Int32)) 132 (-1 : Int32)))), (q2, .inl (k.2.2 0, 136, .inl (fun _ => 0))), (q3, .inl (k.2.2 0, 136, .inl (fun _ => 0))), (q4, .inl (k.2.2 0, 7, .inl (fun _ => 0))), (q5, .inl (k.2.2 0, 8, .inl (fun _ => 0))), (q6, .inl (k.2.2 0, 64, .inl (fun _ => 0))), (q7, .inl (k.2.2 0, 8, .inl (fun _ => 0))), (q8, .inl (k.2.2 0, 8, .inl (fun _ => 0))), (q9, .inl (k.2.2 0, 120, .inl (fun _ => 0))), (q10, .inl (k.2.2 0, 4, .inl (fun _ => 0))), (q11, .inl (k.2.2 0, 4, .inl (fun _ => 0))), (q12, .inl (k.2.2 0, 160, .inl (fun _ => 0)))]) rfl (vp_in_nI (n := 132) (by decide) (by decide)) dX7_init_159 rfl ?_
  refine GW.iinc (v := (7 : Int32)) (L' := [(0, .ref h0), (1, .int (7 : Int32))]) dX7_init_160 1 rfl (by decide) (by decide) rfl ?_
  refine GW.goto (tgt := 144) dX7_init_163 (by decide) ?_
  refine GW.iload_n dX7_init_144 1 rfl ?_
  refine GW.bipush (v := (10 : Int32)) dX7_init_145 (by decide) ?_
  refine GW.icmp_ge (tgt := 166) dX7_init_147 (by decide) (fun c => absurd c (by decide)) (fun _ => ?_)
  refine GW.aload_n dX7_init_150 0 rfl ?_
  refine GW.get (q0 := 0) inGX7 0 (by decide) rfl rfl w_872 rfl dX7_init_151 ?_
  refine GW.bipush (v := (126 : Int32)) dX7_init_154 (by decide) ?_
  refine GW.iload_n dX7_init_156 1 rfl ?_
  refine GW.iadd (v := (133 : Int32)) dX7_init_157 (by decide) ?_
  refine GW.iconst (v := (-1 : Int32)) dX7_init_158 (by decide) ?_
  refine GW.iast (q0 := 1) (ws' := [(h0, .inr (7, [.ref q1, .ref q2, .ref q3, .int (0 : Int32), .ref q4, .ref q5, .int (0 : Int32), .int (0 : Int32), .ref q6, .ref q7, .ref q8, .ref q9, .int (0 : Int32), .int (0 : Int32), .int (0 : Int32), .int (0 : Int32), .int (0 : Int32), .int (0 : Int32), .ref q10, .ref q11, .ref q12])), (q1, .inl (k.2.2 0, 136, .inl (upd (upd (upd (upd (upd (upd (upd (upd (upd (upd (upd (upd (upd (upd (upd (upd (upd (upd (fun _ => 0) 1 (50 : Int32)) 2 (1 : Int32)) 68 (10 : Int32)) 69 (10 : Int32)) 70 (10 : Int32)) 71 (10 : Int32)) 72 (10 : Int32)) 73 (10 : Int32)) 74 (10 : Int32)) 75 (10 : Int32)) 126 (-1 : Int32)) 127 (-1 : Int32)) 128 (-1 : Int32)) 129 (-1 : Int32)) 130 (-1 : Int32)) 131 (-1 : Int32)) 132 (-1 : Int32)) 133 (-1 : Int32)))), (q2, .inl (k.2.2 0, 136, .inl (fun _ => 0))), (q3, .inl (k.2.2 0, 136, .inl (fun _ => 0))), (q4, .inl (k.2.2 0, 7, .inl (fun _ => 0))), (q5, .inl (k.2.2 0, 8, .inl (fun _ => 0))), (q6, .inl (k.2.2 0, 64, .inl (fun _ => 0))), (q7, .inl (k.2.2 0, 8, .inl (fun _ => 0))), (q8, .inl (k.2.2 0, 8, .inl (fun _ => 0))), (q9, .inl (k.2.2 0, 120, .inl (fun _ => 0))), (q10, .inl (k.2.2 0, 4, .inl (fun _ => 0))), (q11, .inl (k.2.2 0, 4, .inl (fun _ => 0))), (q12, .inl (k.2.2 0, 160, .inl (fun _ => 0)))]) rfl (vp_in_nI (n := 133) (by decide) (by decide)) dX7_init_159 rfl ?_
  refine GW.iinc (v := (8 : Int32)) (L' := [(0, .ref h0), (1, .int (8 : Int32))]) dX7_init_160 1 rfl (by decide) (by decide) rfl ?_
  refine GW.goto (tgt := 144) dX7_init_163 (by decide) ?_
  refine GW.iload_n dX7_init_144 1 rfl ?_
  refine GW.bipush (v := (10 : Int32)) dX7_init_145 (by decide) ?_
  refine GW.icmp_ge (tgt := 166) dX7_init_147 (by decide) (fun c => absurd c (by decide)) (fun _ => ?_)
  refine GW.aload_n dX7_init_150 0 rfl ?_
  refine GW.get (q0 := 0) inGX7 0 (by decide) rfl rfl w_872 rfl dX7_init_151 ?_
  refine GW.bipush (v := (126 : Int32)) dX7_init_154 (by decide) ?_
  refine GW.iload_n dX7_init_156 1 rfl ?_
  refine GW.iadd (v := (134 : Int32)) dX7_init_157 (by decide) ?_
  refine GW.iconst (v := (-1 : Int32)) dX7_init_158 (by decide) ?_
  refine GW.iast (q0 := 1) (ws' := [(h0, .inr (7, [.ref q1, .ref q2, .ref q3, .int (0 : Int32), .ref q4, .ref q5, .int (0 : Int32), .int (0 : Int32), .ref q6, .ref q7, .ref q8, .ref q9, .int (0 : Int32), .int (0 : Int32), .int (0 : Int32), .int (0 : Int32), .int (0 : Int32), .int (0 : Int32), .ref q10, .ref q11, .ref q12])), (q1, .inl (k.2.2 0, 136, .inl (upd (upd (upd (upd (upd (upd (upd (upd (upd (upd (upd (upd (upd (upd (upd (upd (upd (upd (upd (fun _ => 0) 1 (50 : Int32)) 2 (1 : Int32)) 68 (10 : Int32)) 69 (10 : Int32)) 70 (10 : Int32)) 71 (10 : Int32)) 72 (10 : Int32)) 73 (10 : Int32)) 74 (10 : Int32)) 75 (10 : Int32)) 126 (-1 : Int32)) 127 (-1 : Int32)) 128 (-1 : Int32)) 129 (-1 : Int32)) 130 (-1 : Int32)) 131 (-1 : Int32)) 132 (-1 : Int32)) 133 (-1 : Int32)) 134 (-1 : Int32)))), (q2, .inl (k.2.2 0, 136, .inl (fun _ => 0))), (q3, .inl (k.2.2 0, 136, .inl (fun _ => 0))), (q4, .inl (k.2.2 0, 7, .inl (fun _ => 0))), (q5, .inl (k.2.2 0, 8, .inl (fun _ => 0))), (q6, .inl (k.2.2 0, 64, .inl (fun _ => 0))), (q7, .inl (k.2.2 0, 8, .inl (fun _ => 0))), (q8, .inl (k.2.2 0, 8, .inl (fun _ => 0))), (q9, .inl (k.2.2 0, 120, .inl (fun _ => 0))), (q10, .inl (k.2.2 0, 4, .inl (fun _ => 0))), (q11, .inl (k.2.2 0, 4, .inl (fun _ => 0))), (q12, .inl (k.2.2 0, 160, .inl (fun _ => 0)))]) rfl (vp_in_nI (n := 134) (by decide) (by decide)) dX7_init_159 rfl ?_
  refine GW.iinc (v := (9 : Int32)) (L' := [(0, .ref h0), (1, .int (9 : Int32))]) dX7_init_160 1 rfl (by decide) (by decide) rfl ?_
  refine GW.goto (tgt := 144) dX7_init_163 (by decide) ?_
  refine GW.iload_n dX7_init_144 1 rfl ?_
  refine GW.bipush (v := (10 : Int32)) dX7_init_145 (by decide) ?_
  refine GW.icmp_ge (tgt := 166) dX7_init_147 (by decide) (fun c => absurd c (by decide)) (fun _ => ?_)
  refine GW.aload_n dX7_init_150 0 rfl ?_
  refine GW.get (q0 := 0) inGX7 0 (by decide) rfl rfl w_872 rfl dX7_init_151 ?_
  refine GW.bipush (v := (126 : Int32)) dX7_init_154 (by decide) ?_
  refine GW.iload_n dX7_init_156 1 rfl ?_
  refine GW.iadd (v := (135 : Int32)) dX7_init_157 (by decide) ?_
  refine GW.iconst (v := (-1 : Int32)) dX7_init_158 (by decide) ?_
  refine GW.iast (q0 := 1) (ws' := [(h0, .inr (7, [.ref q1, .ref q2, .ref q3, .int (0 : Int32), .ref q4, .ref q5, .int (0 : Int32), .int (0 : Int32), .ref q6, .ref q7, .ref q8, .ref q9, .int (0 : Int32), .int (0 : Int32), .int (0 : Int32), .int (0 : Int32), .int (0 : Int32), .int (0 : Int32), .ref q10, .ref q11, .ref q12])), (q1, .inl (k.2.2 0, 136, .inl (upd (upd (upd (upd (upd (upd (upd (upd (upd (upd (upd (upd (upd (upd (upd (upd (upd (upd (upd (upd (fun _ => 0) 1 (50 : Int32)) 2 (1 : Int32)) 68 (10 : Int32)) 69 (10 : Int32)) 70 (10 : Int32)) 71 (10 : Int32)) 72 (10 : Int32)) 73 (10 : Int32)) 74 (10 : Int32)) 75 (10 : Int32)) 126 (-1 : Int32)) 127 (-1 : Int32)) 128 (-1 : Int32)) 129 (-1 : Int32)) 130 (-1 : Int32)) 131 (-1 : Int32)) 132 (-1 : Int32)) 133 (-1 : Int32)) 134 (-1 : Int32)) 135 (-1 : Int32)))), (q2, .inl (k.2.2 0, 136, .inl (fun _ => 0))), (q3, .inl (k.2.2 0, 136, .inl (fun _ => 0))), (q4, .inl (k.2.2 0, 7, .inl (fun _ => 0))), (q5, .inl (k.2.2 0, 8, .inl (fun _ => 0))), (q6, .inl (k.2.2 0, 64, .inl (fun _ => 0))), (q7, .inl (k.2.2 0, 8, .inl (fun _ => 0))), (q8, .inl (k.2.2 0, 8, .inl (fun _ => 0))), (q9, .inl (k.2.2 0, 120, .inl (fun _ => 0))), (q10, .inl (k.2.2 0, 4, .inl (fun _ => 0))), (q11, .inl (k.2.2 0, 4, .inl (fun _ => 0))), (q12, .inl (k.2.2 0, 160, .inl (fun _ => 0)))]) rfl (vp_in_nI (n := 135) (by decide) (by decide)) dX7_init_159 rfl ?_
  refine GW.iinc (v := (10 : Int32)) (L' := [(0, .ref h0), (1, .int (10 : Int32))]) dX7_init_160 1 rfl (by decide) (by decide) rfl ?_
  refine GW.goto (tgt := 144) dX7_init_163 (by decide) ?_
  refine GW.iload_n dX7_init_144 1 rfl ?_
  refine GW.bipush (v := (10 : Int32)) dX7_init_145 (by decide) ?_
  refine GW.icmp_ge (tgt := 166) dX7_init_147 (by decide) (fun _ => ?_) (fun c => absurd (by decide) c)
  exact GW.vret (w1 := (fun ad : Nat → Nat → Nat => wL_X7_init k (fun t i => if t = 0 ∧ i = 0 then h0 else ad t i))) (fun t i => (([[h0], [q1], [q2], [q3], [q4], [q5], [q6], [q7], [q8], [q9], [q10], [q11], [q12]] : List (List Nat)).getD t []).getD i 0) [0, 1, 2, 3, 4, 5, 6, 7, 8, 9, 10, 11, 12] rfl (by decide) rfl (Nat.le_of_ble_eq_true rfl) (Nat.le_of_ble_eq_true rfl) dX7_init_166
