def M_X1_gainBeside : MT := (yX1_gainBeside, cX1_gainBeside, 3, some .int, 2)
def f_X1_gainBeside (i0 : Nat) (a1 : Int32) (a2 : Int32) (σ : Mm) (K : Int32 → Mm → Prop) : Prop := (i0 < 3 ∧ (if a2 = (-1 : Int32) then (K (0 : Int32) σ) else (f_X1_bondOf i0 a1 a2 σ (fun r2 σ1 => (if r2 = 0 then (K (0 : Int32) σ1) else (K (1 : Int32) σ1))))))
set_option maxRecDepth 100000 in
set_option maxHeartbeats 4000000 in
theorem C_X1_gainBeside {g : GG} {i0 : Nat} {a1 : Int32} {a2 : Int32} {σ : Mm} {K : Int32 → Mm → Prop} (h : f_X1_gainBeside i0 a1 a2 σ K) : Ct g 0 M_X1_gainBeside (QI g 0 K) [.ref (gad g 2 i0), .int a1, .int a2] σ := by
  unfold f_X1_gainBeside at h
  obtain ⟨hi0, h⟩ := h
  refine Ct.of (L := [(0, .ref (gad g 2 i0)), (1, .int a1), (2, .int a2)]) (show plainName RX1 = true by decide) (Nat.le_of_ble_eq_true rfl) rfl ?_
  refine AW.iload_n dX1_gainBeside_0 2 rfl ?_
  refine AW.iconst (v := (-1 : Int32)) dX1_gainBeside_1 rfl ?_
  refine AW.icmp_eq (tgt := 18) dX1_gainBeside_2 rfl (fun c => ?_) (fun c => ?_)
  · replace h := ite_t c h
    refine AW.iconst (v := (0 : Int32)) dX1_gainBeside_18 rfl ?_
    exact AW.iret rfl dX1_gainBeside_19 h
  · replace h := ite_f c h
    refine AW.aload_n dX1_gainBeside_5 0 rfl ?_
    refine AW.iload_n dX1_gainBeside_6 1 rfl ?_
    refine AW.iload_n dX1_gainBeside_7 2 rfl ?_
    refine AW.callVI [.int a1, .int a2] (C_X1_bondOf h) ok_X1_bondOf (ids_in (Nat.le_of_ble_eq_true rfl) hi0) rfl rfl w_288 rfl (Nat.le_of_ble_eq_true rfl) (Nat.le_of_ble_eq_true rfl) rfl dX1_gainBeside_8 (fun r2 σ1 h => ?_)
    refine AW.if_eq (tgt := 18) dX1_gainBeside_11 rfl (fun c => ?_) (fun c => ?_)
    · replace h := ite_t c h
      refine AW.iconst (v := (0 : Int32)) dX1_gainBeside_18 rfl ?_
      exact AW.iret rfl dX1_gainBeside_19 h
    · replace h := ite_f c h
      refine AW.iconst (v := (1 : Int32)) dX1_gainBeside_14 rfl ?_
      refine AW.goto (tgt := 19) dX1_gainBeside_15 rfl ?_
      exact AW.iret rfl dX1_gainBeside_19 h
theorem ok_X1_gainBeside : OkV M_X1_gainBeside 2 := ⟨w_581, wp_14, w_3, w_582, by decide +kernel, (Nat.le_of_ble_eq_true rfl)⟩
def M_X1_gainOf : MT := (yX1_gainOf, cX1_gainOf, 4, some .int, 3)
def f_X1_gainOf (i0 : Nat) (a1 : Int32) (i2 : Nat) (σ : Mm) (K : Int32 → Mm → Prop) : Prop := (i0 < 3 ∧ (i2 < 17 ∧ (f_X0_seatOf i2 a1 σ (fun r2 σ1 => (if r2 = (-1 : Int32) then (K (0 : Int32) σ1) else (f_X0_nextSeated i2 r2 (-1 : Int32) σ1 (fun r4 σ3 => (f_X1_gainBeside i0 a1 r4 σ3 (fun r6 σ5 => (f_X0_nextSeated i2 r2 (1 : Int32) σ5 (fun r8 σ7 => (f_X1_gainBeside i0 a1 r8 σ7 (fun r10 σ9 => (K (r6 + r10) σ9))))))))))))))
set_option maxRecDepth 100000 in
set_option maxHeartbeats 4000000 in
theorem C_X1_gainOf {g : GG} {i0 : Nat} {a1 : Int32} {i2 : Nat} {σ : Mm} {K : Int32 → Mm → Prop} (h : f_X1_gainOf i0 a1 i2 σ K) : Ct g 0 M_X1_gainOf (QI g 0 K) [.ref (gad g 2 i0), .int a1, .ref (gad g 0 i2)] σ := by
  unfold f_X1_gainOf at h
  obtain ⟨hi0, h⟩ := h
  obtain ⟨hi2, h⟩ := h
  refine Ct.of (L := [(0, .ref (gad g 2 i0)), (1, .int a1), (2, .ref (gad g 0 i2))]) (show plainName RX1 = true by decide) (Nat.le_of_ble_eq_true rfl) rfl ?_
  refine AW.aload_n dX1_gainOf_0 2 rfl ?_
  refine AW.iload_n dX1_gainOf_1 1 rfl ?_
  refine AW.callVI [.int a1] (C_X0_seatOf h) ok_X0_seatOf (ids_in (Nat.le_of_ble_eq_true rfl) hi2) rfl rfl w_574 rfl (Nat.le_of_ble_eq_true rfl) (Nat.le_of_ble_eq_true rfl) rfl dX1_gainOf_2 (fun r2 σ1 h => ?_)
  refine AW.istore_n (L' := [(0, .ref (gad g 2 i0)), (1, .int a1), (2, .ref (gad g 0 i2)), (3, .int r2)]) dX1_gainOf_5 (Nat.le_of_ble_eq_true rfl) rfl ?_
  refine AW.iload_n dX1_gainOf_6 3 rfl ?_
  refine AW.iconst (v := (-1 : Int32)) dX1_gainOf_7 rfl ?_
  refine AW.icmp_ne (tgt := 13) dX1_gainOf_8 rfl (fun c => ?_) (fun c => ?_)
  · replace h := ite_f c h
    refine AW.aload_n dX1_gainOf_13 0 rfl ?_
    refine AW.iload_n dX1_gainOf_14 1 rfl ?_
    refine AW.aload_n dX1_gainOf_15 2 rfl ?_
    refine AW.iload_n dX1_gainOf_16 3 rfl ?_
    refine AW.iconst (v := (-1 : Int32)) dX1_gainOf_17 rfl ?_
    refine AW.callVI [.int r2, .int (-1 : Int32)] (C_X0_nextSeated h) ok_X0_nextSeated (ids_in (Nat.le_of_ble_eq_true rfl) hi2) rfl rfl w_575 rfl (Nat.le_of_ble_eq_true rfl) (Nat.le_of_ble_eq_true rfl) rfl dX1_gainOf_18 (fun r4 σ3 h => ?_)
    refine AW.callVI [.int a1, .int r4] (C_X1_gainBeside h) ok_X1_gainBeside (ids_in (Nat.le_of_ble_eq_true rfl) hi0) rfl rfl w_579 rfl (Nat.le_of_ble_eq_true rfl) (Nat.le_of_ble_eq_true rfl) rfl dX1_gainOf_21 (fun r6 σ5 h => ?_)
    refine AW.aload_n dX1_gainOf_24 0 rfl ?_
    refine AW.iload_n dX1_gainOf_25 1 rfl ?_
    refine AW.aload_n dX1_gainOf_26 2 rfl ?_
    refine AW.iload_n dX1_gainOf_27 3 rfl ?_
    refine AW.iconst (v := (1 : Int32)) dX1_gainOf_28 rfl ?_
    refine AW.callVI [.int r2, .int (1 : Int32)] (C_X0_nextSeated h) ok_X0_nextSeated (ids_in (Nat.le_of_ble_eq_true rfl) hi2) rfl rfl w_575 rfl (Nat.le_of_ble_eq_true rfl) (Nat.le_of_ble_eq_true rfl) rfl dX1_gainOf_29 (fun r8 σ7 h => ?_)
    refine AW.callVI [.int a1, .int r8] (C_X1_gainBeside h) ok_X1_gainBeside (ids_in (Nat.le_of_ble_eq_true rfl) hi0) rfl rfl w_579 rfl (Nat.le_of_ble_eq_true rfl) (Nat.le_of_ble_eq_true rfl) rfl dX1_gainOf_32 (fun r10 σ9 h => ?_)
    refine AW.iadd dX1_gainOf_35 ?_
    exact AW.iret rfl dX1_gainOf_36 h
  · replace h := ite_t c h
    refine AW.iconst (v := (0 : Int32)) dX1_gainOf_11 rfl ?_
    exact AW.iret rfl dX1_gainOf_12 h
theorem ok_X1_gainOf : OkV M_X1_gainOf 2 := ⟨w_571, w_572, w_3, w_573, by decide +kernel, (Nat.le_of_ble_eq_true rfl)⟩
def M_X6_gain : MT := (yX6_gain, cX6_gain, 3, some .int, 4)
def f_X6_gain (a1 : Int32) (σ : Mm) (K : Int32 → Mm → Prop) : Prop := (f_X6_isPerson a1 σ (fun b2 σ1 => (if b2 = true then (f_X2_benchWith 0 a1 σ1 (fun r4 σ3 => (if r4 = (-1 : Int32) then (f_X6_finding (4 : Int32) σ3 (fun r10 σ9 => (K r10 σ9))) else (vp_in r4 5 ∧ ((5 * 0 + r4.toNatClampNeg) < 17 ∧ (f_X1_gainOf 0 a1 (5 * 0 + r4.toNatClampNeg) σ3 (fun r8 σ7 => (K r8 σ7)))))))) else (f_X6_finding (0 : Int32) σ1 (fun r12 σ11 => (K r12 σ11))))))
set_option maxRecDepth 100000 in
set_option maxHeartbeats 4000000 in
theorem C_X6_gain {g : GG} {a1 : Int32} {σ : Mm} {K : Int32 → Mm → Prop} (h : f_X6_gain a1 σ K) : Ct g 0 M_X6_gain (QI g 0 K) [.ref (gad g 16 0), .int a1] σ := by
  unfold f_X6_gain at h
  refine Ct.of (L := [(0, .ref (gad g 16 0)), (1, .int a1)]) (show plainName RX6 = true by decide) (Nat.le_of_ble_eq_true rfl) rfl ?_
  refine AW.iload_n dX6_gain_0 1 rfl ?_
  refine AW.callSB [.int a1] (C_X6_isPerson h) ok_X6_isPerson w_244 rfl (Nat.le_of_ble_eq_true rfl) (Nat.le_of_ble_eq_true rfl) rfl dX6_gain_1 (fun b2 σ1 h => ?_)
  refine AW.ifb_ne (tgt := 13) dX6_gain_4 rfl (fun c => ?_) (fun c => ?_)
  · replace h := ite_t c h
    refine AW.aload_n dX6_gain_13 0 rfl ?_
    refine AW.get (k := 0) (v := .ref (gad g 5 0)) (id0_16_0) rfl rfl inGX6 (Nat.le_of_ble_eq_true rfl) w_203 rfl dX6_gain_14 ?_
    refine AW.iload_n dX6_gain_17 1 rfl ?_
    refine AW.callVI [.int a1] (C_X2_benchWith h) ok_X2_benchWith (id0_5_0) rfl rfl w_409 rfl (Nat.le_of_ble_eq_true rfl) (Nat.le_of_ble_eq_true rfl) rfl dX6_gain_18 (fun r4 σ3 h => ?_)
    refine AW.istore_n (L' := [(0, .ref (gad g 16 0)), (1, .int a1), (2, .int r4)]) dX6_gain_21 (Nat.le_of_ble_eq_true rfl) rfl ?_
    refine AW.iload_n dX6_gain_22 2 rfl ?_
    refine AW.iconst (v := (-1 : Int32)) dX6_gain_23 rfl ?_
    refine AW.icmp_ne (tgt := 33) dX6_gain_24 rfl (fun c => ?_) (fun c => ?_)
    · replace h := ite_f c h
      refine AW.aload_n dX6_gain_33 0 rfl ?_
      refine AW.get (k := 0) (v := .ref (gad g 5 0)) (id0_16_0) rfl rfl inGX6 (Nat.le_of_ble_eq_true rfl) w_203 rfl dX6_gain_34 ?_
      refine AW.get (k := 0) (v := .ref (gad g 2 0)) (id0_5_0) rfl rfl inGX2 (Nat.le_of_ble_eq_true rfl) w_93 rfl dX6_gain_37 ?_
      refine AW.iload_n dX6_gain_40 1 rfl ?_
      refine AW.aload_n dX6_gain_41 0 rfl ?_
      refine AW.get (k := 0) (v := .ref (gad g 5 0)) (id0_16_0) rfl rfl inGX6 (Nat.le_of_ble_eq_true rfl) w_203 rfl dX6_gain_42 ?_
      refine AW.get (k := 1) (v := .ref (gad g 6 0)) (id0_5_0) rfl rfl inGX2 (Nat.le_of_ble_eq_true rfl) w_96 rfl dX6_gain_45 ?_
      refine AW.iload_n dX6_gain_48 2 rfl ?_
      obtain ⟨hq5, h⟩ := h
      obtain ⟨hv6, h⟩ := h
      refine AW.aald (a' := gad g 0 (5 * 0 + r4.toNatClampNeg)) (ty := 1) (id0_6_0) rfl rfl rfl hq5 dX6_gain_49 ?_
      refine AW.callVI [.int a1, .ref (gad g 0 (5 * 0 + r4.toNatClampNeg))] (C_X1_gainOf h) ok_X1_gainOf (id0_2_0) rfl rfl w_570 rfl (Nat.le_of_ble_eq_true rfl) (Nat.le_of_ble_eq_true rfl) rfl dX6_gain_50 (fun r8 σ7 h => ?_)
      exact AW.iret rfl dX6_gain_53 h
    · replace h := ite_t c h
      refine AW.aload_n dX6_gain_27 0 rfl ?_
      refine AW.iconst (v := (4 : Int32)) dX6_gain_28 rfl ?_
      refine AW.callVI [.int (4 : Int32)] (C_X6_finding h) ok_X6_finding (id0_16_0) rfl rfl w_247 rfl (Nat.le_of_ble_eq_true rfl) (Nat.le_of_ble_eq_true rfl) rfl dX6_gain_29 (fun r10 σ9 h => ?_)
      exact AW.iret rfl dX6_gain_32 h
  · replace h := ite_f c h
    refine AW.aload_n dX6_gain_7 0 rfl ?_
    refine AW.iconst (v := (0 : Int32)) dX6_gain_8 rfl ?_
    refine AW.callVI [.int (0 : Int32)] (C_X6_finding h) ok_X6_finding (id0_16_0) rfl rfl w_247 rfl (Nat.le_of_ble_eq_true rfl) (Nat.le_of_ble_eq_true rfl) rfl dX6_gain_9 (fun r12 σ11 h => ?_)
    exact AW.iret rfl dX6_gain_12 h
theorem ok_X6_gain : OkV M_X6_gain 1 := ⟨w_567, w_568, w_1, w_569, by decide +kernel, (Nat.le_of_ble_eq_true rfl)⟩
def M_X6_worth : MT := (yX6_worth, cX6_worth, 4, some .int, 4)
set_option maxRecDepth 100000 in
def f_X6_worth_18 (a1 : Int32) (K : Int32 → Mm → Prop) : Nat → Int32 → Int32 → Mm → Prop
  | 0, _, _, _ => False
  | n + 1, a2, a3, σ => (if (8 : Int32) ≤ a3 then (K a2 σ) else (vp_in a1 5 ∧ ((5 * 0 + a1.toNatClampNeg) < 17 ∧ (f_X1_gainOf 0 a3 (5 * 0 + a1.toNatClampNeg) σ (fun r6 σ5 => (f_X6_worth_18 a1 K n (a2 + r6) (a3 + (1 : Int32)) σ5))))))
set_option maxRecDepth 100000 in
set_option maxHeartbeats 4000000 in
theorem T_X6_worth_18 {g : GG} {a1 : Int32} {K : Int32 → Mm → Prop} : ∀ (n : Nat) (a2 : Int32) (a3 : Int32) (σ : Mm), f_X6_worth_18 a1 K n a2 a3 σ → AW g 0 M_X6_worth (QI g 0 K) 18 [(0, .ref (gad g 16 0)), (1, .int a1), (2, .int a2), (3, .int a3)] [] σ := by
  intro n
  induction n with
  | zero => intro a2 a3 σ h; exact False.elim h
  | succ n ih =>
    intro a2 a3 σ h
    rw [f_X6_worth_18] at h
    refine AW.iload_n dX6_worth_18 3 rfl ?_
    refine AW.bipush (v := (8 : Int32)) dX6_worth_19 rfl ?_
    refine AW.icmp_ge (tgt := 53) dX6_worth_21 rfl (fun c => ?_) (fun c => ?_)
    · replace h := ite_t c h
      refine AW.iload_n dX6_worth_53 2 rfl ?_
      exact AW.iret rfl dX6_worth_54 h
    · replace h := ite_f c h
      refine AW.iload_n dX6_worth_24 2 rfl ?_
      refine AW.aload_n dX6_worth_25 0 rfl ?_
      refine AW.get (k := 0) (v := .ref (gad g 5 0)) (id0_16_0) rfl rfl inGX6 (Nat.le_of_ble_eq_true rfl) w_203 rfl dX6_worth_26 ?_
      refine AW.get (k := 0) (v := .ref (gad g 2 0)) (id0_5_0) rfl rfl inGX2 (Nat.le_of_ble_eq_true rfl) w_93 rfl dX6_worth_29 ?_
      refine AW.iload_n dX6_worth_32 3 rfl ?_
      refine AW.aload_n dX6_worth_33 0 rfl ?_
      refine AW.get (k := 0) (v := .ref (gad g 5 0)) (id0_16_0) rfl rfl inGX6 (Nat.le_of_ble_eq_true rfl) w_203 rfl dX6_worth_34 ?_
      refine AW.get (k := 1) (v := .ref (gad g 6 0)) (id0_5_0) rfl rfl inGX2 (Nat.le_of_ble_eq_true rfl) w_96 rfl dX6_worth_37 ?_
      refine AW.iload_n dX6_worth_40 1 rfl ?_
      obtain ⟨hq3, h⟩ := h
      obtain ⟨hv4, h⟩ := h
      refine AW.aald (a' := gad g 0 (5 * 0 + a1.toNatClampNeg)) (ty := 1) (id0_6_0) rfl rfl rfl hq3 dX6_worth_41 ?_
      refine AW.callVI [.int a3, .ref (gad g 0 (5 * 0 + a1.toNatClampNeg))] (C_X1_gainOf h) ok_X1_gainOf (id0_2_0) rfl rfl w_570 rfl (Nat.le_of_ble_eq_true rfl) (Nat.le_of_ble_eq_true rfl) rfl dX6_worth_42 (fun r6 σ5 h => ?_)
      refine AW.iadd dX6_worth_45 ?_
      refine AW.istore_n (L' := [(0, .ref (gad g 16 0)), (1, .int a1), (2, .int (a2 + r6)), (3, .int a3)]) dX6_worth_46 (Nat.le_of_ble_eq_true rfl) rfl ?_
      refine AW.iinc (v := (a3 + (1 : Int32))) (L' := [(0, .ref (gad g 16 0)), (1, .int a1), (2, .int (a2 + r6)), (3, .int (a3 + (1 : Int32)))]) dX6_worth_47 3 rfl rfl (Nat.le_of_ble_eq_true rfl) rfl ?_
      refine AW.goto (tgt := 18) dX6_worth_50 rfl ?_
      exact ih _ _ _ h
def f_X6_worth (a1 : Int32) (σ : Mm) (K : Int32 → Mm → Prop) : Prop := (f_X6_isBench a1 σ (fun b2 σ1 => (if b2 = true then (∃ m, f_X6_worth_18 a1 K m (0 : Int32) (0 : Int32) σ1) else (f_X6_finding (0 : Int32) σ1 (fun r8 σ7 => (K r8 σ7))))))
set_option maxRecDepth 100000 in
set_option maxHeartbeats 4000000 in
theorem C_X6_worth {g : GG} {a1 : Int32} {σ : Mm} {K : Int32 → Mm → Prop} (h : f_X6_worth a1 σ K) : Ct g 0 M_X6_worth (QI g 0 K) [.ref (gad g 16 0), .int a1] σ := by
  unfold f_X6_worth at h
  refine Ct.of (L := [(0, .ref (gad g 16 0)), (1, .int a1)]) (show plainName RX6 = true by decide) (Nat.le_of_ble_eq_true rfl) rfl ?_
  refine AW.aload_n dX6_worth_0 0 rfl ?_
  refine AW.iload_n dX6_worth_1 1 rfl ?_
  refine AW.callVB [.int a1] (C_X6_isBench h) ok_X6_isBench (id0_16_0) rfl rfl w_308 rfl (Nat.le_of_ble_eq_true rfl) (Nat.le_of_ble_eq_true rfl) rfl dX6_worth_2 (fun b2 σ1 h => ?_)
  refine AW.ifb_ne (tgt := 14) dX6_worth_5 rfl (fun c => ?_) (fun c => ?_)
  · replace h := ite_t c h
    refine AW.iconst (v := (0 : Int32)) dX6_worth_14 rfl ?_
    refine AW.istore_n (L' := [(0, .ref (gad g 16 0)), (1, .int a1), (2, .int (0 : Int32))]) dX6_worth_15 (Nat.le_of_ble_eq_true rfl) rfl ?_
    refine AW.iconst (v := (0 : Int32)) dX6_worth_16 rfl ?_
    refine AW.istore_n (L' := [(0, .ref (gad g 16 0)), (1, .int a1), (2, .int (0 : Int32)), (3, .int (0 : Int32))]) dX6_worth_17 (Nat.le_of_ble_eq_true rfl) rfl ?_
    obtain ⟨m, h⟩ := h
    refine T_X6_worth_18 m _ _ _ h
  · replace h := ite_f c h
    refine AW.aload_n dX6_worth_8 0 rfl ?_
    refine AW.iconst (v := (0 : Int32)) dX6_worth_9 rfl ?_
    refine AW.callVI [.int (0 : Int32)] (C_X6_finding h) ok_X6_finding (id0_16_0) rfl rfl w_247 rfl (Nat.le_of_ble_eq_true rfl) (Nat.le_of_ble_eq_true rfl) rfl dX6_worth_10 (fun r8 σ7 h => ?_)
    exact AW.iret rfl dX6_worth_13 h
theorem ok_X6_worth : OkV M_X6_worth 1 := ⟨w_584, w_585, w_1, w_586, by decide +kernel, (Nat.le_of_ble_eq_true rfl)⟩
def M_X6_bothGainByChange : MT := (yX6_bothGainByChange, cX6_bothGainByChange, 6, some .boolean, 5)
def f_X6_bothGainByChange (i1 : Nat) (a2 : Int32) (a3 : Int32) (σ : Mm) (K : Bool → Mm → Prop) : Prop := (i1 < 17 ∧ (f_X0_seatOf i1 a2 σ (fun r2 σ1 => (f_X0_seatOf i1 a3 σ1 (fun r4 σ3 => (if r2 = (-1 : Int32) then (K false σ3) else (if r4 = (-1 : Int32) then (K false σ3) else (f_X0_become 15 i1 σ3 (fun σ5 => (vp_in r2 8 ∧ (∃ σ7, σ7 = mset σ5 1 15 (r2.toNatClampNeg) a3 ∧ (vp_in r4 8 ∧ (∃ σ9, σ9 = mset σ7 1 15 (r4.toNatClampNeg) a2 ∧ (f_X1_gainOf 0 a2 15 σ9 (fun r11 σ10 => (f_X1_gainOf 0 a2 i1 σ10 (fun r13 σ12 => (if r11 ≤ r13 then (K false σ12) else (f_X1_gainOf 0 a3 15 σ12 (fun r15 σ14 => (f_X1_gainOf 0 a3 i1 σ14 (fun r17 σ16 => (if r15 ≤ r17 then (K false σ16) else (f_X1_holds 0 15 σ16 (fun b19 σ18 => (if b19 = true then (K true σ18) else (K false σ18)))))))))))))))))))))))))))
set_option maxRecDepth 100000 in
set_option maxHeartbeats 4000000 in
theorem C_X6_bothGainByChange {g : GG} {i1 : Nat} {a2 : Int32} {a3 : Int32} {σ : Mm} {K : Bool → Mm → Prop} (h : f_X6_bothGainByChange i1 a2 a3 σ K) : Ct g 0 M_X6_bothGainByChange (QB g 0 K) [.ref (gad g 16 0), .ref (gad g 0 i1), .int a2, .int a3] σ := by
  unfold f_X6_bothGainByChange at h
  obtain ⟨hi1, h⟩ := h
  refine Ct.of (L := [(0, .ref (gad g 16 0)), (1, .ref (gad g 0 i1)), (2, .int a2), (3, .int a3)]) (show plainName RX6 = true by decide) (Nat.le_of_ble_eq_true rfl) rfl ?_
  refine AW.aload_n dX6_bothGainByChange_0 1 rfl ?_
  refine AW.iload_n dX6_bothGainByChange_1 2 rfl ?_
  refine AW.callVI [.int a2] (C_X0_seatOf h) ok_X0_seatOf (ids_in (Nat.le_of_ble_eq_true rfl) hi1) rfl rfl w_410 rfl (Nat.le_of_ble_eq_true rfl) (Nat.le_of_ble_eq_true rfl) rfl dX6_bothGainByChange_2 (fun r2 σ1 h => ?_)
  refine AW.istore (L' := [(0, .ref (gad g 16 0)), (1, .ref (gad g 0 i1)), (2, .int a2), (3, .int a3), (4, .int r2)]) dX6_bothGainByChange_5 (Nat.le_of_ble_eq_true rfl) rfl ?_
  refine AW.aload_n dX6_bothGainByChange_7 1 rfl ?_
  refine AW.iload_n dX6_bothGainByChange_8 3 rfl ?_
  refine AW.callVI [.int a3] (C_X0_seatOf h) ok_X0_seatOf (ids_in (Nat.le_of_ble_eq_true rfl) hi1) rfl rfl w_410 rfl (Nat.le_of_ble_eq_true rfl) (Nat.le_of_ble_eq_true rfl) rfl dX6_bothGainByChange_9 (fun r4 σ3 h => ?_)
  refine AW.istore (L' := [(0, .ref (gad g 16 0)), (1, .ref (gad g 0 i1)), (2, .int a2), (3, .int a3), (4, .int r2), (5, .int r4)]) dX6_bothGainByChange_12 (Nat.le_of_ble_eq_true rfl) rfl ?_
  refine AW.iload dX6_bothGainByChange_14 4 rfl ?_
  refine AW.iconst (v := (-1 : Int32)) dX6_bothGainByChange_16 rfl ?_
  refine AW.icmp_eq (tgt := 26) dX6_bothGainByChange_17 rfl (fun c => ?_) (fun c => ?_)
  · replace h := ite_t c h
    refine AW.iconst (v := (0 : Int32)) dX6_bothGainByChange_26 rfl ?_
    exact AW.bret false rfl rfl dX6_bothGainByChange_27 h
  · replace h := ite_f c h
    refine AW.iload dX6_bothGainByChange_20 5 rfl ?_
    refine AW.iconst (v := (-1 : Int32)) dX6_bothGainByChange_22 rfl ?_
    refine AW.icmp_ne (tgt := 28) dX6_bothGainByChange_23 rfl (fun c => ?_) (fun c => ?_)
    · replace h := ite_f c h
      refine AW.aload_n dX6_bothGainByChange_28 0 rfl ?_
      refine AW.get (k := 4) (v := .ref (gad g 0 15)) (id0_16_0) rfl rfl inGX6 (Nat.le_of_ble_eq_true rfl) w_207 rfl dX6_bothGainByChange_29 ?_
      refine AW.aload_n dX6_bothGainByChange_32 1 rfl ?_
      refine AW.callVV [.ref (gad g 0 i1)] (C_X0_become h) ok_X0_become (id0_0_15) rfl rfl w_419 rfl (Nat.le_of_ble_eq_true rfl) (Nat.le_of_ble_eq_true rfl) rfl dX6_bothGainByChange_33 (fun σ5 h => ?_)
      refine AW.aload_n dX6_bothGainByChange_36 0 rfl ?_
      refine AW.get (k := 4) (v := .ref (gad g 0 15)) (id0_16_0) rfl rfl inGX6 (Nat.le_of_ble_eq_true rfl) w_207 rfl dX6_bothGainByChange_37 ?_
      refine AW.get (k := 2) (v := .ref (gad g 1 15)) (id0_0_15) rfl rfl inGX0 (Nat.le_of_ble_eq_true rfl) w_82 rfl dX6_bothGainByChange_40 ?_
      refine AW.iload dX6_bothGainByChange_43 4 rfl ?_
      refine AW.iload_n dX6_bothGainByChange_45 3 rfl ?_
      obtain ⟨hq6, h⟩ := h
      refine AW.iast (jn := (r2.toNatClampNeg)) (id0_1_15) (fun _ => rfl) hq6 rfl dX6_bothGainByChange_46 ?_
      obtain ⟨σ7, eσ7, h⟩ := h
      rw [← eσ7]
      refine AW.aload_n dX6_bothGainByChange_47 0 rfl ?_
      refine AW.get (k := 4) (v := .ref (gad g 0 15)) (id0_16_0) rfl rfl inGX6 (Nat.le_of_ble_eq_true rfl) w_207 rfl dX6_bothGainByChange_48 ?_
      refine AW.get (k := 2) (v := .ref (gad g 1 15)) (id0_0_15) rfl rfl inGX0 (Nat.le_of_ble_eq_true rfl) w_82 rfl dX6_bothGainByChange_51 ?_
      refine AW.iload dX6_bothGainByChange_54 5 rfl ?_
      refine AW.iload_n dX6_bothGainByChange_56 2 rfl ?_
      obtain ⟨hq8, h⟩ := h
      refine AW.iast (jn := (r4.toNatClampNeg)) (id0_1_15) (fun _ => rfl) hq8 rfl dX6_bothGainByChange_57 ?_
      obtain ⟨σ9, eσ9, h⟩ := h
      rw [← eσ9]
      refine AW.aload_n dX6_bothGainByChange_58 0 rfl ?_
      refine AW.get (k := 0) (v := .ref (gad g 5 0)) (id0_16_0) rfl rfl inGX6 (Nat.le_of_ble_eq_true rfl) w_203 rfl dX6_bothGainByChange_59 ?_
      refine AW.get (k := 0) (v := .ref (gad g 2 0)) (id0_5_0) rfl rfl inGX2 (Nat.le_of_ble_eq_true rfl) w_93 rfl dX6_bothGainByChange_62 ?_
      refine AW.iload_n dX6_bothGainByChange_65 2 rfl ?_
      refine AW.aload_n dX6_bothGainByChange_66 0 rfl ?_
      refine AW.get (k := 4) (v := .ref (gad g 0 15)) (id0_16_0) rfl rfl inGX6 (Nat.le_of_ble_eq_true rfl) w_207 rfl dX6_bothGainByChange_67 ?_
      refine AW.callVI [.int a2, .ref (gad g 0 15)] (C_X1_gainOf h) ok_X1_gainOf (id0_2_0) rfl rfl w_570 rfl (Nat.le_of_ble_eq_true rfl) (Nat.le_of_ble_eq_true rfl) rfl dX6_bothGainByChange_70 (fun r11 σ10 h => ?_)
      refine AW.aload_n dX6_bothGainByChange_73 0 rfl ?_
      refine AW.get (k := 0) (v := .ref (gad g 5 0)) (id0_16_0) rfl rfl inGX6 (Nat.le_of_ble_eq_true rfl) w_203 rfl dX6_bothGainByChange_74 ?_
      refine AW.get (k := 0) (v := .ref (gad g 2 0)) (id0_5_0) rfl rfl inGX2 (Nat.le_of_ble_eq_true rfl) w_93 rfl dX6_bothGainByChange_77 ?_
      refine AW.iload_n dX6_bothGainByChange_80 2 rfl ?_
      refine AW.aload_n dX6_bothGainByChange_81 1 rfl ?_
      refine AW.callVI [.int a2, .ref (gad g 0 i1)] (C_X1_gainOf h) ok_X1_gainOf (id0_2_0) rfl rfl w_570 rfl (Nat.le_of_ble_eq_true rfl) (Nat.le_of_ble_eq_true rfl) rfl dX6_bothGainByChange_82 (fun r13 σ12 h => ?_)
      refine AW.icmp_le (tgt := 139) dX6_bothGainByChange_85 rfl (fun c => ?_) (fun c => ?_)
      · replace h := ite_t c h
        refine AW.iconst (v := (0 : Int32)) dX6_bothGainByChange_139 rfl ?_
        exact AW.bret false rfl rfl dX6_bothGainByChange_140 h
      · replace h := ite_f c h
        refine AW.aload_n dX6_bothGainByChange_88 0 rfl ?_
        refine AW.get (k := 0) (v := .ref (gad g 5 0)) (id0_16_0) rfl rfl inGX6 (Nat.le_of_ble_eq_true rfl) w_203 rfl dX6_bothGainByChange_89 ?_
        refine AW.get (k := 0) (v := .ref (gad g 2 0)) (id0_5_0) rfl rfl inGX2 (Nat.le_of_ble_eq_true rfl) w_93 rfl dX6_bothGainByChange_92 ?_
        refine AW.iload_n dX6_bothGainByChange_95 3 rfl ?_
        refine AW.aload_n dX6_bothGainByChange_96 0 rfl ?_
        refine AW.get (k := 4) (v := .ref (gad g 0 15)) (id0_16_0) rfl rfl inGX6 (Nat.le_of_ble_eq_true rfl) w_207 rfl dX6_bothGainByChange_97 ?_
        refine AW.callVI [.int a3, .ref (gad g 0 15)] (C_X1_gainOf h) ok_X1_gainOf (id0_2_0) rfl rfl w_570 rfl (Nat.le_of_ble_eq_true rfl) (Nat.le_of_ble_eq_true rfl) rfl dX6_bothGainByChange_100 (fun r15 σ14 h => ?_)
        refine AW.aload_n dX6_bothGainByChange_103 0 rfl ?_
        refine AW.get (k := 0) (v := .ref (gad g 5 0)) (id0_16_0) rfl rfl inGX6 (Nat.le_of_ble_eq_true rfl) w_203 rfl dX6_bothGainByChange_104 ?_
        refine AW.get (k := 0) (v := .ref (gad g 2 0)) (id0_5_0) rfl rfl inGX2 (Nat.le_of_ble_eq_true rfl) w_93 rfl dX6_bothGainByChange_107 ?_
        refine AW.iload_n dX6_bothGainByChange_110 3 rfl ?_
        refine AW.aload_n dX6_bothGainByChange_111 1 rfl ?_
        refine AW.callVI [.int a3, .ref (gad g 0 i1)] (C_X1_gainOf h) ok_X1_gainOf (id0_2_0) rfl rfl w_570 rfl (Nat.le_of_ble_eq_true rfl) (Nat.le_of_ble_eq_true rfl) rfl dX6_bothGainByChange_112 (fun r17 σ16 h => ?_)
        refine AW.icmp_le (tgt := 139) dX6_bothGainByChange_115 rfl (fun c => ?_) (fun c => ?_)
        · replace h := ite_t c h
          refine AW.iconst (v := (0 : Int32)) dX6_bothGainByChange_139 rfl ?_
          exact AW.bret false rfl rfl dX6_bothGainByChange_140 h
        · replace h := ite_f c h
          refine AW.aload_n dX6_bothGainByChange_118 0 rfl ?_
          refine AW.get (k := 0) (v := .ref (gad g 5 0)) (id0_16_0) rfl rfl inGX6 (Nat.le_of_ble_eq_true rfl) w_203 rfl dX6_bothGainByChange_119 ?_
          refine AW.get (k := 0) (v := .ref (gad g 2 0)) (id0_5_0) rfl rfl inGX2 (Nat.le_of_ble_eq_true rfl) w_93 rfl dX6_bothGainByChange_122 ?_
          refine AW.aload_n dX6_bothGainByChange_125 0 rfl ?_
          refine AW.get (k := 4) (v := .ref (gad g 0 15)) (id0_16_0) rfl rfl inGX6 (Nat.le_of_ble_eq_true rfl) w_207 rfl dX6_bothGainByChange_126 ?_
          refine AW.callVB [.ref (gad g 0 15)] (C_X1_holds h) ok_X1_holds (id0_2_0) rfl rfl w_324 rfl (Nat.le_of_ble_eq_true rfl) (Nat.le_of_ble_eq_true rfl) rfl dX6_bothGainByChange_129 (fun b19 σ18 h => ?_)
          refine AW.ifb_eq (tgt := 139) dX6_bothGainByChange_132 rfl (fun c => ?_) (fun c => ?_)
          · replace h := ite_f c h
            refine AW.iconst (v := (0 : Int32)) dX6_bothGainByChange_139 rfl ?_
            exact AW.bret false rfl rfl dX6_bothGainByChange_140 h
          · replace h := ite_t c h
            refine AW.iconst (v := (1 : Int32)) dX6_bothGainByChange_135 rfl ?_
            refine AW.goto (tgt := 140) dX6_bothGainByChange_136 rfl ?_
            exact AW.bret true rfl rfl dX6_bothGainByChange_140 h
    · replace h := ite_t c h
      refine AW.iconst (v := (0 : Int32)) dX6_bothGainByChange_26 rfl ?_
      exact AW.bret false rfl rfl dX6_bothGainByChange_27 h
theorem ok_X6_bothGainByChange : OkV M_X6_bothGainByChange 3 := ⟨w_593, wp_15, w_1, w_594, by decide +kernel, (Nat.le_of_ble_eq_true rfl)⟩
def M_X6_exchange : MT := (yX6_exchange, cX6_exchange, 4, some .int, 6)
set_option maxRecDepth 100000 in
def f_X6_exchange_26 (a1 : Int32) (a2 : Int32) (K : Int32 → Mm → Prop) (k50 : Int32 → Int32 → Mm → Prop) (k79 : Mm → Prop) : Nat → Int32 → Mm → Prop
  | 0, _, _ => False
  | n + 1, a3, σ => (if (8 : Int32) ≤ a3 then (k79 σ) else (vp_in a1 5 ∧ ((5 * 0 + a1.toNatClampNeg) < 17 ∧ (f_X6_bothGainByChange (5 * 0 + a1.toNatClampNeg) a2 a3 σ (fun b8 σ7 => (if b8 = true then (k50 a2 a3 σ7) else (f_X6_exchange_26 a1 a2 K k50 k79 n (a3 + (1 : Int32)) σ7)))))))
set_option maxRecDepth 100000 in
set_option maxHeartbeats 4000000 in
theorem T_X6_exchange_26 {g : GG} {a1 : Int32} {a2 : Int32} {K : Int32 → Mm → Prop} {k50 : Int32 → Int32 → Mm → Prop} {k79 : Mm → Prop} (hk50 : ∀ (x2 : Int32) (x3 : Int32) (u : Mm), k50 x2 x3 u → AW g 0 M_X6_exchange (QI g 0 K) 50 [(0, .ref (gad g 16 0)), (1, .int a1), (2, .int x2), (3, .int x3)] [] u) (hk79 : ∀  (u : Mm), k79  u → AW g 0 M_X6_exchange (QI g 0 K) 79 [(0, .ref (gad g 16 0)), (1, .int a1), (2, .int a2)] [] u) : ∀ (n : Nat) (a3 : Int32) (σ : Mm), f_X6_exchange_26 a1 a2 K k50 k79 n a3 σ → AW g 0 M_X6_exchange (QI g 0 K) 26 [(0, .ref (gad g 16 0)), (1, .int a1), (2, .int a2), (3, .int a3)] [] σ := by
  intro n
  induction n with
  | zero => intro a3 σ h; exact False.elim h
  | succ n ih =>
    intro a3 σ h
    rw [f_X6_exchange_26] at h
    refine AW.iload_n dX6_exchange_26 3 rfl ?_
    refine AW.bipush (v := (8 : Int32)) dX6_exchange_27 rfl ?_
    refine AW.icmp_ge (tgt := 79) dX6_exchange_29 rfl (fun c => ?_) (fun c => ?_)
    · replace h := ite_t c h
      refine AW.eqL [0, 1, 2] rfl ?_
      exact hk79 _ h
    · replace h := ite_f c h
      refine AW.aload_n dX6_exchange_32 0 rfl ?_
      refine AW.aload_n dX6_exchange_33 0 rfl ?_
      refine AW.get (k := 0) (v := .ref (gad g 5 0)) (id0_16_0) rfl rfl inGX6 (Nat.le_of_ble_eq_true rfl) w_203 rfl dX6_exchange_34 ?_
      refine AW.get (k := 1) (v := .ref (gad g 6 0)) (id0_5_0) rfl rfl inGX2 (Nat.le_of_ble_eq_true rfl) w_96 rfl dX6_exchange_37 ?_
      refine AW.iload_n dX6_exchange_40 1 rfl ?_
      obtain ⟨hq5, h⟩ := h
      obtain ⟨hv6, h⟩ := h
      refine AW.aald (a' := gad g 0 (5 * 0 + a1.toNatClampNeg)) (ty := 1) (id0_6_0) rfl rfl rfl hq5 dX6_exchange_41 ?_
      refine AW.iload_n dX6_exchange_42 2 rfl ?_
      refine AW.iload_n dX6_exchange_43 3 rfl ?_
      refine AW.callVB [.ref (gad g 0 (5 * 0 + a1.toNatClampNeg)), .int a2, .int a3] (C_X6_bothGainByChange h) ok_X6_bothGainByChange (id0_16_0) rfl rfl w_591 rfl (Nat.le_of_ble_eq_true rfl) (Nat.le_of_ble_eq_true rfl) rfl dX6_exchange_44 (fun b8 σ7 h => ?_)
      refine AW.ifb_eq (tgt := 73) dX6_exchange_47 rfl (fun c => ?_) (fun c => ?_)
      · replace h := ite_f c h
        refine AW.iinc (v := (a3 + (1 : Int32))) (L' := [(0, .ref (gad g 16 0)), (1, .int a1), (2, .int a2), (3, .int (a3 + (1 : Int32)))]) dX6_exchange_73 3 rfl rfl (Nat.le_of_ble_eq_true rfl) rfl ?_
        refine AW.goto (tgt := 26) dX6_exchange_76 rfl ?_
        exact ih _ _ h
      · replace h := ite_t c h
        exact hk50 _ _ _ h
set_option maxRecDepth 100000 in
def f_X6_exchange_16 (a1 : Int32) (K : Int32 → Mm → Prop) (k50 : Int32 → Int32 → Mm → Prop) : Nat → Int32 → Mm → Prop
  | 0, _, _ => False
  | n + 1, a2, σ => (if (8 : Int32) ≤ a2 then (f_X6_finding (3 : Int32) σ (fun r4 σ3 => (K r4 σ3))) else (∃ m, f_X6_exchange_26 a1 a2 K k50 (fun σ9 => (f_X6_exchange_16 a1 K k50 n (a2 + (1 : Int32)) σ9)) m (a2 + (1 : Int32)) σ))
set_option maxRecDepth 100000 in
set_option maxHeartbeats 4000000 in
theorem T_X6_exchange_16 {g : GG} {a1 : Int32} {K : Int32 → Mm → Prop} {k50 : Int32 → Int32 → Mm → Prop} (hk50 : ∀ (x2 : Int32) (x3 : Int32) (u : Mm), k50 x2 x3 u → AW g 0 M_X6_exchange (QI g 0 K) 50 [(0, .ref (gad g 16 0)), (1, .int a1), (2, .int x2), (3, .int x3)] [] u) : ∀ (n : Nat) (a2 : Int32) (σ : Mm), f_X6_exchange_16 a1 K k50 n a2 σ → AW g 0 M_X6_exchange (QI g 0 K) 16 [(0, .ref (gad g 16 0)), (1, .int a1), (2, .int a2)] [] σ := by
  intro n
  induction n with
  | zero => intro a2 σ h; exact False.elim h
  | succ n ih =>
    intro a2 σ h
    rw [f_X6_exchange_16] at h
    refine AW.iload_n dX6_exchange_16 2 rfl ?_
    refine AW.bipush (v := (8 : Int32)) dX6_exchange_17 rfl ?_
    refine AW.icmp_ge (tgt := 85) dX6_exchange_19 rfl (fun c => ?_) (fun c => ?_)
    · replace h := ite_t c h
      refine AW.aload_n dX6_exchange_85 0 rfl ?_
      refine AW.iconst (v := (3 : Int32)) dX6_exchange_86 rfl ?_
      refine AW.callVI [.int (3 : Int32)] (C_X6_finding h) ok_X6_finding (id0_16_0) rfl rfl w_247 rfl (Nat.le_of_ble_eq_true rfl) (Nat.le_of_ble_eq_true rfl) rfl dX6_exchange_87 (fun r4 σ3 h => ?_)
      exact AW.iret rfl dX6_exchange_90 h
    · replace h := ite_f c h
      refine AW.iload_n dX6_exchange_22 2 rfl ?_
      refine AW.iconst (v := (1 : Int32)) dX6_exchange_23 rfl ?_
      refine AW.iadd dX6_exchange_24 ?_
      refine AW.istore_n (L' := [(0, .ref (gad g 16 0)), (1, .int a1), (2, .int a2), (3, .int (a2 + (1 : Int32)))]) dX6_exchange_25 (Nat.le_of_ble_eq_true rfl) rfl ?_
      obtain ⟨m, h⟩ := h
      refine T_X6_exchange_26 hk50 (fun σ9 h => ?_) m _ _ h
      refine AW.iinc (v := (a2 + (1 : Int32))) (L' := [(0, .ref (gad g 16 0)), (1, .int a1), (2, .int (a2 + (1 : Int32)))]) dX6_exchange_79 2 rfl rfl (Nat.le_of_ble_eq_true rfl) rfl ?_
      refine AW.goto (tgt := 16) dX6_exchange_82 rfl ?_
      exact ih _ _ h
def f_X6_exchange (a1 : Int32) (σ : Mm) (K : Int32 → Mm → Prop) : Prop := (f_X6_isBench a1 σ (fun b2 σ1 => (if b2 = true then (∃ m, f_X6_exchange_16 a1 K (fun a2x10 a3x10 σ10 => (vp_in a1 5 ∧ ((5 * 0 + a1.toNatClampNeg) < 17 ∧ (f_X0_become (5 * 0 + a1.toNatClampNeg) 15 σ10 (fun σ13 => (K (((10 : Int32) * a2x10) + a3x10) σ13)))))) m (0 : Int32) σ1) else (f_X6_finding (0 : Int32) σ1 (fun r15 σ14 => (K r15 σ14))))))
set_option maxRecDepth 100000 in
set_option maxHeartbeats 4000000 in
theorem C_X6_exchange {g : GG} {a1 : Int32} {σ : Mm} {K : Int32 → Mm → Prop} (h : f_X6_exchange a1 σ K) : Ct g 0 M_X6_exchange (QI g 0 K) [.ref (gad g 16 0), .int a1] σ := by
  unfold f_X6_exchange at h
  refine Ct.of (L := [(0, .ref (gad g 16 0)), (1, .int a1)]) (show plainName RX6 = true by decide) (Nat.le_of_ble_eq_true rfl) rfl ?_
  refine AW.aload_n dX6_exchange_0 0 rfl ?_
  refine AW.iload_n dX6_exchange_1 1 rfl ?_
  refine AW.callVB [.int a1] (C_X6_isBench h) ok_X6_isBench (id0_16_0) rfl rfl w_308 rfl (Nat.le_of_ble_eq_true rfl) (Nat.le_of_ble_eq_true rfl) rfl dX6_exchange_2 (fun b2 σ1 h => ?_)
  refine AW.ifb_ne (tgt := 14) dX6_exchange_5 rfl (fun c => ?_) (fun c => ?_)
  · replace h := ite_t c h
    refine AW.iconst (v := (0 : Int32)) dX6_exchange_14 rfl ?_
    refine AW.istore_n (L' := [(0, .ref (gad g 16 0)), (1, .int a1), (2, .int (0 : Int32))]) dX6_exchange_15 (Nat.le_of_ble_eq_true rfl) rfl ?_
    obtain ⟨m, h⟩ := h
    refine T_X6_exchange_16 (fun a2x10 a3x10 σ10 h => ?_) m _ _ h
    refine AW.aload_n dX6_exchange_50 0 rfl ?_
    refine AW.get (k := 0) (v := .ref (gad g 5 0)) (id0_16_0) rfl rfl inGX6 (Nat.le_of_ble_eq_true rfl) w_203 rfl dX6_exchange_51 ?_
    refine AW.get (k := 1) (v := .ref (gad g 6 0)) (id0_5_0) rfl rfl inGX2 (Nat.le_of_ble_eq_true rfl) w_96 rfl dX6_exchange_54 ?_
    refine AW.iload_n dX6_exchange_57 1 rfl ?_
    obtain ⟨hq11, h⟩ := h
    obtain ⟨hv12, h⟩ := h
    refine AW.aald (a' := gad g 0 (5 * 0 + a1.toNatClampNeg)) (ty := 1) (id0_6_0) rfl rfl rfl hq11 dX6_exchange_58 ?_
    refine AW.aload_n dX6_exchange_59 0 rfl ?_
    refine AW.get (k := 4) (v := .ref (gad g 0 15)) (id0_16_0) rfl rfl inGX6 (Nat.le_of_ble_eq_true rfl) w_207 rfl dX6_exchange_60 ?_
    refine AW.callVV [.ref (gad g 0 15)] (C_X0_become h) ok_X0_become (ids_in (Nat.le_of_ble_eq_true rfl) hv12) rfl rfl w_419 rfl (Nat.le_of_ble_eq_true rfl) (Nat.le_of_ble_eq_true rfl) rfl dX6_exchange_63 (fun σ13 h => ?_)
    refine AW.bipush (v := (10 : Int32)) dX6_exchange_66 rfl ?_
    refine AW.iload_n dX6_exchange_68 2 rfl ?_
    refine AW.imul dX6_exchange_69 ?_
    refine AW.iload_n dX6_exchange_70 3 rfl ?_
    refine AW.iadd dX6_exchange_71 ?_
    exact AW.iret rfl dX6_exchange_72 h
  · replace h := ite_f c h
    refine AW.aload_n dX6_exchange_8 0 rfl ?_
    refine AW.iconst (v := (0 : Int32)) dX6_exchange_9 rfl ?_
    refine AW.callVI [.int (0 : Int32)] (C_X6_finding h) ok_X6_finding (id0_16_0) rfl rfl w_247 rfl (Nat.le_of_ble_eq_true rfl) (Nat.le_of_ble_eq_true rfl) rfl dX6_exchange_10 (fun r15 σ14 h => ?_)
    exact AW.iret rfl dX6_exchange_13 h
theorem ok_X6_exchange : OkV M_X6_exchange 1 := ⟨w_588, w_589, w_1, w_590, by decide +kernel, (Nat.le_of_ble_eq_true rfl)⟩
def M_X0_hasBetween : MT := (yX0_hasBetween, cX0_hasBetween, 6, some .boolean, 2)
def f_X0_hasBetween_48 (i0 : Nat) (a1 : Int32) (a2 : Int32) (a3 : Int32) (a4 : Int32) (a5 : Int32) (K : Bool → Mm → Prop) (k2 : Int32 → Mm → Prop) (σ : Mm) : Prop := (if a4 = a2 then (if a5 = a1 then (K true σ) else (k2 (a3 + (1 : Int32)) σ)) else (k2 (a3 + (1 : Int32)) σ))
set_option maxRecDepth 100000 in
set_option maxHeartbeats 4000000 in
theorem T_X0_hasBetween_48 {g : GG} {i0 : Nat} {a1 : Int32} {a2 : Int32} {a3 : Int32} {a4 : Int32} {a5 : Int32} {K : Bool → Mm → Prop} {k2 : Int32 → Mm → Prop} {σ : Mm} (hi0 : i0 < 17) (hk2 : ∀ (x3 : Int32) (u : Mm), k2 x3 u → AW g 0 M_X0_hasBetween (QB g 0 K) 2 [(0, .ref (gad g 0 i0)), (1, .int a1), (2, .int a2), (3, .int x3)] [] u) (h : f_X0_hasBetween_48 i0 a1 a2 a3 a4 a5 K k2 σ) : AW g 0 M_X0_hasBetween (QB g 0 K) 48 [(0, .ref (gad g 0 i0)), (1, .int a1), (2, .int a2), (3, .int a3), (4, .int a4), (5, .int a5)] [] σ := by
  unfold f_X0_hasBetween_48 at h
  refine AW.iload dX0_hasBetween_48 4 rfl ?_
  refine AW.iload_n dX0_hasBetween_50 2 rfl ?_
  refine AW.icmp_ne (tgt := 62) dX0_hasBetween_51 rfl (fun c => ?_) (fun c => ?_)
  · replace h := ite_f c h
    refine AW.iinc (v := (a3 + (1 : Int32))) (L' := [(0, .ref (gad g 0 i0)), (1, .int a1), (2, .int a2), (3, .int (a3 + (1 : Int32))), (4, .int a4), (5, .int a5)]) dX0_hasBetween_62 3 rfl rfl (Nat.le_of_ble_eq_true rfl) rfl ?_
    refine AW.goto (tgt := 2) dX0_hasBetween_65 rfl ?_
    refine AW.eqL [0, 1, 2, 3] rfl ?_
    exact hk2 _ _ h
  · replace h := ite_t c h
    refine AW.iload dX0_hasBetween_54 5 rfl ?_
    refine AW.iload_n dX0_hasBetween_56 1 rfl ?_
    refine AW.icmp_ne (tgt := 62) dX0_hasBetween_57 rfl (fun c => ?_) (fun c => ?_)
    · replace h := ite_f c h
      refine AW.iinc (v := (a3 + (1 : Int32))) (L' := [(0, .ref (gad g 0 i0)), (1, .int a1), (2, .int a2), (3, .int (a3 + (1 : Int32))), (4, .int a4), (5, .int a5)]) dX0_hasBetween_62 3 rfl rfl (Nat.le_of_ble_eq_true rfl) rfl ?_
      refine AW.goto (tgt := 2) dX0_hasBetween_65 rfl ?_
      refine AW.eqL [0, 1, 2, 3] rfl ?_
      exact hk2 _ _ h
    · replace h := ite_t c h
      refine AW.iconst (v := (1 : Int32)) dX0_hasBetween_60 rfl ?_
      exact AW.bret true rfl rfl dX0_hasBetween_61 h
set_option maxRecDepth 100000 in
def f_X0_hasBetween_2 (i0 : Nat) (a1 : Int32) (a2 : Int32) (K : Bool → Mm → Prop) : Nat → Int32 → Mm → Prop
  | 0, _, _ => False
  | n + 1, a3, σ => (if (σ 0 i0 1) ≤ a3 then (K false σ) else (vp_in a3 8 ∧ (if (σ 1 i0 (a3.toNatClampNeg)) = (-1 : Int32) then (f_X0_hasBetween_2 i0 a1 a2 K n (a3 + (1 : Int32)) σ) else (f_X0_neighbour i0 a3 (-1 : Int32) σ (fun r3 σ2 => (f_X0_neighbour i0 a3 (1 : Int32) σ2 (fun r5 σ4 => (if r3 = a1 then (if r5 = a2 then (K true σ4) else (f_X0_hasBetween_48 i0 a1 a2 a3 r3 r5 K (f_X0_hasBetween_2 i0 a1 a2 K n) σ4)) else (f_X0_hasBetween_48 i0 a1 a2 a3 r3 r5 K (f_X0_hasBetween_2 i0 a1 a2 K n) σ4)))))))))
set_option maxRecDepth 100000 in
set_option maxHeartbeats 4000000 in
theorem T_X0_hasBetween_2 {g : GG} {i0 : Nat} {a1 : Int32} {a2 : Int32} {K : Bool → Mm → Prop} (hi0 : i0 < 17) : ∀ (n : Nat) (a3 : Int32) (σ : Mm), f_X0_hasBetween_2 i0 a1 a2 K n a3 σ → AW g 0 M_X0_hasBetween (QB g 0 K) 2 [(0, .ref (gad g 0 i0)), (1, .int a1), (2, .int a2), (3, .int a3)] [] σ := by
  intro n
  induction n with
  | zero => intro a3 σ h; exact False.elim h
  | succ n ih =>
    intro a3 σ h
    rw [f_X0_hasBetween_2] at h
    refine AW.iload_n dX0_hasBetween_2 3 rfl ?_
    refine AW.aload_n dX0_hasBetween_3 0 rfl ?_
    refine AW.get (k := 1) (v := .int (σ 0 i0 1)) (ids_in (Nat.le_of_ble_eq_true rfl) hi0) rfl rfl inGX0 (Nat.le_of_ble_eq_true rfl) w_72 rfl dX0_hasBetween_4 ?_
    refine AW.icmp_ge (tgt := 68) dX0_hasBetween_7 rfl (fun c => ?_) (fun c => ?_)
    · replace h := ite_t c h
      refine AW.iconst (v := (0 : Int32)) dX0_hasBetween_68 rfl ?_
      exact AW.bret false rfl rfl dX0_hasBetween_69 h
    · replace h := ite_f c h
      refine AW.aload_n dX0_hasBetween_10 0 rfl ?_
      refine AW.get (k := 2) (v := .ref (gad g 1 i0)) (ids_in (Nat.le_of_ble_eq_true rfl) hi0) rfl rfl inGX0 (Nat.le_of_ble_eq_true rfl) w_78 rfl dX0_hasBetween_11 ?_
      refine AW.iload_n dX0_hasBetween_14 3 rfl ?_
      obtain ⟨hq1, h⟩ := h
      refine AW.iald (jn := (a3.toNatClampNeg)) (ids_in (Nat.le_of_ble_eq_true rfl) hi0) rfl hq1 rfl dX0_hasBetween_15 ?_
      refine AW.iconst (v := (-1 : Int32)) dX0_hasBetween_16 rfl ?_
      refine AW.icmp_eq (tgt := 62) dX0_hasBetween_17 rfl (fun c => ?_) (fun c => ?_)
      · replace h := ite_t c h
        refine AW.iinc (v := (a3 + (1 : Int32))) (L' := [(0, .ref (gad g 0 i0)), (1, .int a1), (2, .int a2), (3, .int (a3 + (1 : Int32)))]) dX0_hasBetween_62 3 rfl rfl (Nat.le_of_ble_eq_true rfl) rfl ?_
        refine AW.goto (tgt := 2) dX0_hasBetween_65 rfl ?_
        exact ih _ _ h
      · replace h := ite_f c h
        refine AW.aload_n dX0_hasBetween_20 0 rfl ?_
        refine AW.iload_n dX0_hasBetween_21 3 rfl ?_
        refine AW.iconst (v := (-1 : Int32)) dX0_hasBetween_22 rfl ?_
        refine AW.callVI [.int a3, .int (-1 : Int32)] (C_X0_neighbour h) ok_X0_neighbour (ids_in (Nat.le_of_ble_eq_true rfl) hi0) rfl rfl w_603 rfl (Nat.le_of_ble_eq_true rfl) (Nat.le_of_ble_eq_true rfl) rfl dX0_hasBetween_23 (fun r3 σ2 h => ?_)
        refine AW.istore (L' := [(0, .ref (gad g 0 i0)), (1, .int a1), (2, .int a2), (3, .int a3), (4, .int r3)]) dX0_hasBetween_26 (Nat.le_of_ble_eq_true rfl) rfl ?_
        refine AW.aload_n dX0_hasBetween_28 0 rfl ?_
        refine AW.iload_n dX0_hasBetween_29 3 rfl ?_
        refine AW.iconst (v := (1 : Int32)) dX0_hasBetween_30 rfl ?_
        refine AW.callVI [.int a3, .int (1 : Int32)] (C_X0_neighbour h) ok_X0_neighbour (ids_in (Nat.le_of_ble_eq_true rfl) hi0) rfl rfl w_603 rfl (Nat.le_of_ble_eq_true rfl) (Nat.le_of_ble_eq_true rfl) rfl dX0_hasBetween_31 (fun r5 σ4 h => ?_)
        refine AW.istore (L' := [(0, .ref (gad g 0 i0)), (1, .int a1), (2, .int a2), (3, .int a3), (4, .int r3), (5, .int r5)]) dX0_hasBetween_34 (Nat.le_of_ble_eq_true rfl) rfl ?_
        refine AW.iload dX0_hasBetween_36 4 rfl ?_
        refine AW.iload_n dX0_hasBetween_38 1 rfl ?_
        refine AW.icmp_ne (tgt := 48) dX0_hasBetween_39 rfl (fun c => ?_) (fun c => ?_)
        · replace h := ite_f c h
          exact T_X0_hasBetween_48 hi0 ih h
        · replace h := ite_t c h
          refine AW.iload dX0_hasBetween_42 5 rfl ?_
          refine AW.iload_n dX0_hasBetween_44 2 rfl ?_
          refine AW.icmp_eq (tgt := 60) dX0_hasBetween_45 rfl (fun c => ?_) (fun c => ?_)
          · replace h := ite_t c h
            refine AW.iconst (v := (1 : Int32)) dX0_hasBetween_60 rfl ?_
            exact AW.bret true rfl rfl dX0_hasBetween_61 h
          · replace h := ite_f c h
            exact T_X0_hasBetween_48 hi0 ih h
def f_X0_hasBetween (i0 : Nat) (a1 : Int32) (a2 : Int32) (σ : Mm) (K : Bool → Mm → Prop) : Prop := (i0 < 17 ∧ (∃ m, f_X0_hasBetween_2 i0 a1 a2 K m (0 : Int32) σ))
set_option maxRecDepth 100000 in
set_option maxHeartbeats 4000000 in
theorem C_X0_hasBetween {g : GG} {i0 : Nat} {a1 : Int32} {a2 : Int32} {σ : Mm} {K : Bool → Mm → Prop} (h : f_X0_hasBetween i0 a1 a2 σ K) : Ct g 0 M_X0_hasBetween (QB g 0 K) [.ref (gad g 0 i0), .int a1, .int a2] σ := by
  unfold f_X0_hasBetween at h
  obtain ⟨hi0, h⟩ := h
  refine Ct.of (L := [(0, .ref (gad g 0 i0)), (1, .int a1), (2, .int a2)]) (show plainName RX0 = true by decide) (Nat.le_of_ble_eq_true rfl) rfl ?_
  refine AW.iconst (v := (0 : Int32)) dX0_hasBetween_0 rfl ?_
  refine AW.istore_n (L' := [(0, .ref (gad g 0 i0)), (1, .int a1), (2, .int a2), (3, .int (0 : Int32))]) dX0_hasBetween_1 (Nat.le_of_ble_eq_true rfl) rfl ?_
  obtain ⟨m, h⟩ := h
  refine T_X0_hasBetween_2 hi0 m _ _ h
theorem ok_X0_hasBetween : OkV M_X0_hasBetween 2 := ⟨w_600, w_601, w_5, w_602, by decide +kernel, (Nat.le_of_ble_eq_true rfl)⟩
def M_X6_shows : MT := (yX6_shows, cX6_shows, 6, some .int, 5)
set_option maxRecDepth 100000 in
def f_X6_shows_62 (i2 : Nat) (a4 : Int32) (K : Int32 → Mm → Prop) (k89 : Int32 → Mm → Prop) : Nat → Int32 → Int32 → Mm → Prop
  | 0, _, _, _ => False
  | n + 1, a3, a5, σ => (if (8 : Int32) ≤ a5 then (k89 a3 σ) else (f_X0_hasBetween i2 a4 a5 σ (fun b8 σ7 => (if b8 = true then (f_X6_shows_62 i2 a4 K k89 n (a3 + (1 : Int32)) (a5 + (1 : Int32)) σ7) else (f_X6_shows_62 i2 a4 K k89 n a3 (a5 + (1 : Int32)) σ7)))))
set_option maxRecDepth 100000 in
set_option maxHeartbeats 4000000 in
theorem T_X6_shows_62 {g : GG} {i2 : Nat} {a4 : Int32} {K : Int32 → Mm → Prop} {k89 : Int32 → Mm → Prop} (hi2 : i2 < 17) (hk89 : ∀ (x3 : Int32) (u : Mm), k89 x3 u → AW g 0 M_X6_shows (QI g 0 K) 89 [(2, .ref (gad g 0 i2)), (3, .int x3), (4, .int a4)] [] u) : ∀ (n : Nat) (a3 : Int32) (a5 : Int32) (σ : Mm), f_X6_shows_62 i2 a4 K k89 n a3 a5 σ → AW g 0 M_X6_shows (QI g 0 K) 62 [(2, .ref (gad g 0 i2)), (3, .int a3), (4, .int a4), (5, .int a5)] [] σ := by
  intro n
  induction n with
  | zero => intro a3 a5 σ h; exact False.elim h
  | succ n ih =>
    intro a3 a5 σ h
    rw [f_X6_shows_62] at h
    refine AW.iload dX6_shows_62 3 rfl ?_
    refine AW.bipush (v := (8 : Int32)) dX6_shows_64 rfl ?_
    refine AW.icmp_ge (tgt := 89) dX6_shows_66 rfl (fun c => ?_) (fun c => ?_)
    · replace h := ite_t c h
      refine AW.eqL [0, 1, 2] rfl ?_
      exact hk89 _ _ h
    · replace h := ite_f c h
      refine AW.aload_n dX6_shows_69 0 rfl ?_
      refine AW.iload dX6_shows_70 2 rfl ?_
      refine AW.iload dX6_shows_72 3 rfl ?_
      refine AW.callVB [.int a4, .int a5] (C_X0_hasBetween h) ok_X0_hasBetween (ids_in (Nat.le_of_ble_eq_true rfl) hi2) rfl rfl w_599 rfl (Nat.le_of_ble_eq_true rfl) (Nat.le_of_ble_eq_true rfl) rfl dX6_shows_74 (fun b8 σ7 h => ?_)
      refine AW.ifb_eq (tgt := 83) dX6_shows_77 rfl (fun c => ?_) (fun c => ?_)
      · replace h := ite_f c h
        refine AW.iinc (v := (a5 + (1 : Int32))) (L' := [(2, .ref (gad g 0 i2)), (3, .int a3), (4, .int a4), (5, .int (a5 + (1 : Int32)))]) dX6_shows_83 3 rfl rfl (Nat.le_of_ble_eq_true rfl) rfl ?_
        refine AW.goto (tgt := 62) dX6_shows_86 rfl ?_
        exact ih _ _ _ h
      · replace h := ite_t c h
        refine AW.iinc (v := (a3 + (1 : Int32))) (L' := [(2, .ref (gad g 0 i2)), (3, .int (a3 + (1 : Int32))), (4, .int a4), (5, .int a5)]) dX6_shows_80 1 rfl rfl (Nat.le_of_ble_eq_true rfl) rfl ?_
        refine AW.iinc (v := (a5 + (1 : Int32))) (L' := [(2, .ref (gad g 0 i2)), (3, .int (a3 + (1 : Int32))), (4, .int a4), (5, .int (a5 + (1 : Int32)))]) dX6_shows_83 3 rfl rfl (Nat.le_of_ble_eq_true rfl) rfl ?_
        refine AW.goto (tgt := 62) dX6_shows_86 rfl ?_
        exact ih _ _ _ h
set_option maxRecDepth 100000 in
def f_X6_shows_49 (i2 : Nat) (K : Int32 → Mm → Prop) : Nat → Int32 → Int32 → Mm → Prop
  | 0, _, _, _ => False
  | n + 1, a3, a4, σ => (if (8 : Int32) ≤ a4 then (K a3 σ) else (∃ m, f_X6_shows_62 i2 a4 K (fun a3x9 σ9 => (f_X6_shows_49 i2 K n a3x9 (a4 + (1 : Int32)) σ9)) m a3 (a4 + (1 : Int32)) σ))
set_option maxRecDepth 100000 in
set_option maxHeartbeats 4000000 in
theorem T_X6_shows_49 {g : GG} {i2 : Nat} {K : Int32 → Mm → Prop} (hi2 : i2 < 17) : ∀ (n : Nat) (a3 : Int32) (a4 : Int32) (σ : Mm), f_X6_shows_49 i2 K n a3 a4 σ → AW g 0 M_X6_shows (QI g 0 K) 49 [(2, .ref (gad g 0 i2)), (3, .int a3), (4, .int a4)] [] σ := by
  intro n
  induction n with
  | zero => intro a3 a4 σ h; exact False.elim h
  | succ n ih =>
    intro a3 a4 σ h
    rw [f_X6_shows_49] at h
    refine AW.iload dX6_shows_49 2 rfl ?_
    refine AW.bipush (v := (8 : Int32)) dX6_shows_51 rfl ?_
    refine AW.icmp_ge (tgt := 95) dX6_shows_53 rfl (fun c => ?_) (fun c => ?_)
    · replace h := ite_t c h
      refine AW.iload_n dX6_shows_95 1 rfl ?_
      exact AW.iret rfl dX6_shows_96 h
    · replace h := ite_f c h
      refine AW.iload dX6_shows_56 2 rfl ?_
      refine AW.iconst (v := (1 : Int32)) dX6_shows_58 rfl ?_
      refine AW.iadd dX6_shows_59 ?_
      refine AW.istore (L' := [(2, .ref (gad g 0 i2)), (3, .int a3), (4, .int a4), (5, .int (a4 + (1 : Int32)))]) dX6_shows_60 (Nat.le_of_ble_eq_true rfl) rfl ?_
      obtain ⟨m, h⟩ := h
      refine T_X6_shows_62 hi2 (fun a3x9 σ9 h => ?_) m _ _ _ h
      refine AW.iinc (v := (a4 + (1 : Int32))) (L' := [(2, .ref (gad g 0 i2)), (3, .int a3x9), (4, .int (a4 + (1 : Int32)))]) dX6_shows_89 2 rfl rfl (Nat.le_of_ble_eq_true rfl) rfl ?_
      refine AW.goto (tgt := 49) dX6_shows_92 rfl ?_
      exact ih _ _ _ h
def f_X6_shows (a1 : Int32) (σ : Mm) (K : Int32 → Mm → Prop) : Prop := (f_X6_isBench a1 σ (fun b2 σ1 => (if b2 = true then (vp_in a1 5 ∧ ((5 * 0 + a1.toNatClampNeg) < 17 ∧ (f_X1_holds 0 (5 * 0 + a1.toNatClampNeg) σ1 (fun b6 σ5 => (if b6 = true then (∃ m, f_X6_shows_49 (5 * 0 + a1.toNatClampNeg) K m (0 : Int32) (0 : Int32) σ5) else (f_X6_finding (4 : Int32) σ5 (fun r11 σ10 => (K r11 σ10)))))))) else (f_X6_finding (0 : Int32) σ1 (fun r13 σ12 => (K r13 σ12))))))
set_option maxRecDepth 100000 in
set_option maxHeartbeats 4000000 in
theorem C_X6_shows {g : GG} {a1 : Int32} {σ : Mm} {K : Int32 → Mm → Prop} (h : f_X6_shows a1 σ K) : Ct g 0 M_X6_shows (QI g 0 K) [.ref (gad g 16 0), .int a1] σ := by
  unfold f_X6_shows at h
  refine Ct.of (L := [(0, .ref (gad g 16 0)), (1, .int a1)]) (show plainName RX6 = true by decide) (Nat.le_of_ble_eq_true rfl) rfl ?_
  refine AW.aload_n dX6_shows_0 0 rfl ?_
  refine AW.iload_n dX6_shows_1 1 rfl ?_
  refine AW.callVB [.int a1] (C_X6_isBench h) ok_X6_isBench (id0_16_0) rfl rfl w_308 rfl (Nat.le_of_ble_eq_true rfl) (Nat.le_of_ble_eq_true rfl) rfl dX6_shows_2 (fun b2 σ1 h => ?_)
  refine AW.ifb_ne (tgt := 14) dX6_shows_5 rfl (fun c => ?_) (fun c => ?_)
  · replace h := ite_t c h
    refine AW.aload_n dX6_shows_14 0 rfl ?_
    refine AW.get (k := 0) (v := .ref (gad g 5 0)) (id0_16_0) rfl rfl inGX6 (Nat.le_of_ble_eq_true rfl) w_203 rfl dX6_shows_15 ?_
    refine AW.get (k := 1) (v := .ref (gad g 6 0)) (id0_5_0) rfl rfl inGX2 (Nat.le_of_ble_eq_true rfl) w_96 rfl dX6_shows_18 ?_
    refine AW.iload_n dX6_shows_21 1 rfl ?_
    obtain ⟨hq3, h⟩ := h
    obtain ⟨hv4, h⟩ := h
    refine AW.aald (a' := gad g 0 (5 * 0 + a1.toNatClampNeg)) (ty := 1) (id0_6_0) rfl rfl rfl hq3 dX6_shows_22 ?_
    refine AW.astore_n (L' := [(0, .ref (gad g 16 0)), (1, .int a1), (2, .ref (gad g 0 (5 * 0 + a1.toNatClampNeg)))]) dX6_shows_23 (Nat.le_of_ble_eq_true rfl) rfl ?_
    refine AW.aload_n dX6_shows_24 0 rfl ?_
    refine AW.get (k := 0) (v := .ref (gad g 5 0)) (id0_16_0) rfl rfl inGX6 (Nat.le_of_ble_eq_true rfl) w_203 rfl dX6_shows_25 ?_
    refine AW.get (k := 0) (v := .ref (gad g 2 0)) (id0_5_0) rfl rfl inGX2 (Nat.le_of_ble_eq_true rfl) w_93 rfl dX6_shows_28 ?_
    refine AW.aload_n dX6_shows_31 2 rfl ?_
    refine AW.callVB [.ref (gad g 0 (5 * 0 + a1.toNatClampNeg))] (C_X1_holds h) ok_X1_holds (id0_2_0) rfl rfl w_324 rfl (Nat.le_of_ble_eq_true rfl) (Nat.le_of_ble_eq_true rfl) rfl dX6_shows_32 (fun b6 σ5 h => ?_)
    refine AW.ifb_ne (tgt := 44) dX6_shows_35 rfl (fun c => ?_) (fun c => ?_)
    · replace h := ite_t c h
      refine AW.iconst (v := (0 : Int32)) dX6_shows_44 rfl ?_
      refine AW.istore_n (L' := [(0, .ref (gad g 16 0)), (1, .int a1), (2, .ref (gad g 0 (5 * 0 + a1.toNatClampNeg))), (3, .int (0 : Int32))]) dX6_shows_45 (Nat.le_of_ble_eq_true rfl) rfl ?_
      refine AW.iconst (v := (0 : Int32)) dX6_shows_46 rfl ?_
      refine AW.istore (L' := [(0, .ref (gad g 16 0)), (1, .int a1), (2, .ref (gad g 0 (5 * 0 + a1.toNatClampNeg))), (3, .int (0 : Int32)), (4, .int (0 : Int32))]) dX6_shows_47 (Nat.le_of_ble_eq_true rfl) rfl ?_
      obtain ⟨m, h⟩ := h
      refine AW.eqL [2, 3, 4] rfl ?_
      refine T_X6_shows_49 hv4 m _ _ _ h
    · replace h := ite_f c h
      refine AW.aload_n dX6_shows_38 0 rfl ?_
      refine AW.iconst (v := (4 : Int32)) dX6_shows_39 rfl ?_
      refine AW.callVI [.int (4 : Int32)] (C_X6_finding h) ok_X6_finding (id0_16_0) rfl rfl w_247 rfl (Nat.le_of_ble_eq_true rfl) (Nat.le_of_ble_eq_true rfl) rfl dX6_shows_40 (fun r11 σ10 h => ?_)
      exact AW.iret rfl dX6_shows_43 h
  · replace h := ite_f c h
    refine AW.aload_n dX6_shows_8 0 rfl ?_
    refine AW.iconst (v := (0 : Int32)) dX6_shows_9 rfl ?_
    refine AW.callVI [.int (0 : Int32)] (C_X6_finding h) ok_X6_finding (id0_16_0) rfl rfl w_247 rfl (Nat.le_of_ble_eq_true rfl) (Nat.le_of_ble_eq_true rfl) rfl dX6_shows_10 (fun r13 σ12 h => ?_)
    exact AW.iret rfl dX6_shows_13 h
theorem ok_X6_shows : OkV M_X6_shows 1 := ⟨w_596, w_597, w_1, w_598, by decide +kernel, (Nat.le_of_ble_eq_true rfl)⟩
def M_X0_becomeMovedOn : MT := (yX0_becomeMovedOn, cX0_becomeMovedOn, 4, none, 3)
set_option maxRecDepth 100000 in
def f_X0_becomeMovedOn_14 (i0 : Nat) (i1 : Nat) (a2 : Int32) (K : Mm → Prop) : Nat → Int32 → Mm → Prop
  | 0, _, _ => False
  | n + 1, a3, σ => (if (σ 0 i0 1) ≤ a3 then (K σ) else (¬ (σ 0 i0 1) = 0 ∧ (vp_in a3 8 ∧ (vp_in ((a3 + a2) - (a3 + a2) / (σ 0 i0 1) * (σ 0 i0 1)) 8 ∧ (∃ σ5, σ5 = mset σ 1 i0 (((a3 + a2) - (a3 + a2) / (σ 0 i0 1) * (σ 0 i0 1)).toNatClampNeg) (σ 1 i1 (a3.toNatClampNeg)) ∧ (f_X0_becomeMovedOn_14 i0 i1 a2 K n (a3 + (1 : Int32)) σ5))))))
set_option maxRecDepth 100000 in
set_option maxHeartbeats 4000000 in
theorem T_X0_becomeMovedOn_14 {g : GG} {i0 : Nat} {i1 : Nat} {a2 : Int32} {K : Mm → Prop} (hi0 : i0 < 17) (hi1 : i1 < 17) : ∀ (n : Nat) (a3 : Int32) (σ : Mm), f_X0_becomeMovedOn_14 i0 i1 a2 K n a3 σ → AW g 0 M_X0_becomeMovedOn (QV g 0 K) 14 [(0, .ref (gad g 0 i0)), (1, .ref (gad g 0 i1)), (2, .int a2), (3, .int a3)] [] σ := by
  intro n
  induction n with
  | zero => intro a3 σ h; exact False.elim h
  | succ n ih =>
    intro a3 σ h
    rw [f_X0_becomeMovedOn_14] at h
    refine AW.iload_n dX0_becomeMovedOn_14 3 rfl ?_
    refine AW.aload_n dX0_becomeMovedOn_15 0 rfl ?_
    refine AW.get (k := 1) (v := .int (σ 0 i0 1)) (ids_in (Nat.le_of_ble_eq_true rfl) hi0) rfl rfl inGX0 (Nat.le_of_ble_eq_true rfl) w_72 rfl dX0_becomeMovedOn_16 ?_
    refine AW.icmp_ge (tgt := 47) dX0_becomeMovedOn_19 rfl (fun c => ?_) (fun c => ?_)
    · replace h := ite_t c h
      exact AW.vret rfl dX0_becomeMovedOn_47 h
    · replace h := ite_f c h
      refine AW.aload_n dX0_becomeMovedOn_22 0 rfl ?_
      refine AW.get (k := 2) (v := .ref (gad g 1 i0)) (ids_in (Nat.le_of_ble_eq_true rfl) hi0) rfl rfl inGX0 (Nat.le_of_ble_eq_true rfl) w_78 rfl dX0_becomeMovedOn_23 ?_
      refine AW.iload_n dX0_becomeMovedOn_26 3 rfl ?_
      refine AW.iload_n dX0_becomeMovedOn_27 2 rfl ?_
      refine AW.iadd dX0_becomeMovedOn_28 ?_
      refine AW.aload_n dX0_becomeMovedOn_29 0 rfl ?_
      refine AW.get (k := 1) (v := .int (σ 0 i0 1)) (ids_in (Nat.le_of_ble_eq_true rfl) hi0) rfl rfl inGX0 (Nat.le_of_ble_eq_true rfl) w_72 rfl dX0_becomeMovedOn_30 ?_
      obtain ⟨hz2, h⟩ := h
      refine AW.irem dX0_becomeMovedOn_33 hz2 ?_
      refine AW.aload_n dX0_becomeMovedOn_34 1 rfl ?_
      refine AW.get (k := 2) (v := .ref (gad g 1 i1)) (ids_in (Nat.le_of_ble_eq_true rfl) hi1) rfl rfl inGX0 (Nat.le_of_ble_eq_true rfl) w_78 rfl dX0_becomeMovedOn_35 ?_
      refine AW.iload_n dX0_becomeMovedOn_38 3 rfl ?_
      obtain ⟨hq3, h⟩ := h
      refine AW.iald (jn := (a3.toNatClampNeg)) (ids_in (Nat.le_of_ble_eq_true rfl) hi1) rfl hq3 rfl dX0_becomeMovedOn_39 ?_
      obtain ⟨hq4, h⟩ := h
      refine AW.iast (jn := (((a3 + a2) - (a3 + a2) / (σ 0 i0 1) * (σ 0 i0 1)).toNatClampNeg)) (ids_in (Nat.le_of_ble_eq_true rfl) hi0) (fun _ => rfl) hq4 rfl dX0_becomeMovedOn_40 ?_
      obtain ⟨σ5, eσ5, h⟩ := h
      rw [← eσ5]
      refine AW.iinc (v := (a3 + (1 : Int32))) (L' := [(0, .ref (gad g 0 i0)), (1, .ref (gad g 0 i1)), (2, .int a2), (3, .int (a3 + (1 : Int32)))]) dX0_becomeMovedOn_41 3 rfl rfl (Nat.le_of_ble_eq_true rfl) rfl ?_
      refine AW.goto (tgt := 14) dX0_becomeMovedOn_44 rfl ?_
      exact ih _ _ h
def f_X0_becomeMovedOn (i0 : Nat) (i1 : Nat) (a2 : Int32) (σ : Mm) (K : Mm → Prop) : Prop := (i0 < 17 ∧ (i1 < 17 ∧ (f_X0_clear i0 (σ 0 i1 0) (σ 0 i1 1) σ (fun σ1 => (∃ m, f_X0_becomeMovedOn_14 i0 i1 a2 K m (0 : Int32) σ1)))))
set_option maxRecDepth 100000 in
set_option maxHeartbeats 4000000 in
theorem C_X0_becomeMovedOn {g : GG} {i0 : Nat} {i1 : Nat} {a2 : Int32} {σ : Mm} {K : Mm → Prop} (h : f_X0_becomeMovedOn i0 i1 a2 σ K) : Ct g 0 M_X0_becomeMovedOn (QV g 0 K) [.ref (gad g 0 i0), .ref (gad g 0 i1), .int a2] σ := by
  unfold f_X0_becomeMovedOn at h
  obtain ⟨hi0, h⟩ := h
  obtain ⟨hi1, h⟩ := h
  refine Ct.of (L := [(0, .ref (gad g 0 i0)), (1, .ref (gad g 0 i1)), (2, .int a2)]) (show plainName RX0 = true by decide) (Nat.le_of_ble_eq_true rfl) rfl ?_
  refine AW.aload_n dX0_becomeMovedOn_0 0 rfl ?_
  refine AW.aload_n dX0_becomeMovedOn_1 1 rfl ?_
  refine AW.get (k := 0) (v := .int (σ 0 i1 0)) (ids_in (Nat.le_of_ble_eq_true rfl) hi1) rfl rfl inGX0 (Nat.le_of_ble_eq_true rfl) w_68 rfl dX0_becomeMovedOn_2 ?_
  refine AW.aload_n dX0_becomeMovedOn_5 1 rfl ?_
  refine AW.get (k := 1) (v := .int (σ 0 i1 1)) (ids_in (Nat.le_of_ble_eq_true rfl) hi1) rfl rfl inGX0 (Nat.le_of_ble_eq_true rfl) w_72 rfl dX0_becomeMovedOn_6 ?_
  refine AW.callVV [.int (σ 0 i1 0), .int (σ 0 i1 1)] (C_X0_clear h) ok_X0_clear (ids_in (Nat.le_of_ble_eq_true rfl) hi0) rfl rfl w_612 rfl (Nat.le_of_ble_eq_true rfl) (Nat.le_of_ble_eq_true rfl) rfl dX0_becomeMovedOn_9 (fun σ1 h => ?_)
  refine AW.iconst (v := (0 : Int32)) dX0_becomeMovedOn_12 rfl ?_
  refine AW.istore_n (L' := [(0, .ref (gad g 0 i0)), (1, .ref (gad g 0 i1)), (2, .int a2), (3, .int (0 : Int32))]) dX0_becomeMovedOn_13 (Nat.le_of_ble_eq_true rfl) rfl ?_
  obtain ⟨m, h⟩ := h
  refine T_X0_becomeMovedOn_14 hi0 hi1 m _ _ h
theorem ok_X0_becomeMovedOn : OkV M_X0_becomeMovedOn 2 := ⟨w_609, w_610, w_5, w_611, by decide +kernel, (Nat.le_of_ble_eq_true rfl)⟩
def M_X6_course : MT := (yX6_course, cX6_course, 3, some .int, 5)
def f_X6_course (a1 : Int32) (a2 : Int32) (σ : Mm) (K : Int32 → Mm → Prop) : Prop := (f_X6_isBench a1 σ (fun b2 σ1 => (if b2 = true then (if a2 < (1 : Int32) then (f_X6_finding (0 : Int32) σ1 (fun r6 σ5 => (K r6 σ5))) else (if a2 ≤ (7 : Int32) then (vp_in a1 5 ∧ ((5 * 0 + a1.toNatClampNeg) < 17 ∧ (f_X0_becomeMovedOn 15 (5 * 0 + a1.toNatClampNeg) a2 σ1 (fun σ9 => (vp_in a1 5 ∧ (f_X0_become (5 * 0 + a1.toNatClampNeg) 15 σ9 (fun σ11 => (f_X1_holds 0 15 σ11 (fun b13 σ12 => (if b13 = true then (K (1 : Int32) σ12) else (K (0 : Int32) σ12))))))))))) else (f_X6_finding (0 : Int32) σ1 (fun r15 σ14 => (K r15 σ14))))) else (f_X6_finding (0 : Int32) σ1 (fun r4 σ3 => (K r4 σ3))))))
set_option maxRecDepth 100000 in
set_option maxHeartbeats 4000000 in
theorem C_X6_course {g : GG} {a1 : Int32} {a2 : Int32} {σ : Mm} {K : Int32 → Mm → Prop} (h : f_X6_course a1 a2 σ K) : Ct g 0 M_X6_course (QI g 0 K) [.ref (gad g 16 0), .int a1, .int a2] σ := by
  unfold f_X6_course at h
  refine Ct.of (L := [(0, .ref (gad g 16 0)), (1, .int a1), (2, .int a2)]) (show plainName RX6 = true by decide) (Nat.le_of_ble_eq_true rfl) rfl ?_
  refine AW.aload_n dX6_course_0 0 rfl ?_
  refine AW.iload_n dX6_course_1 1 rfl ?_
  refine AW.callVB [.int a1] (C_X6_isBench h) ok_X6_isBench (id0_16_0) rfl rfl w_308 rfl (Nat.le_of_ble_eq_true rfl) (Nat.le_of_ble_eq_true rfl) rfl dX6_course_2 (fun b2 σ1 h => ?_)
  refine AW.ifb_eq (tgt := 19) dX6_course_5 rfl (fun c => ?_) (fun c => ?_)
  · replace h := ite_f c h
    refine AW.aload_n dX6_course_19 0 rfl ?_
    refine AW.iconst (v := (0 : Int32)) dX6_course_20 rfl ?_
    refine AW.callVI [.int (0 : Int32)] (C_X6_finding h) ok_X6_finding (id0_16_0) rfl rfl w_247 rfl (Nat.le_of_ble_eq_true rfl) (Nat.le_of_ble_eq_true rfl) rfl dX6_course_21 (fun r4 σ3 h => ?_)
    exact AW.iret rfl dX6_course_24 h
  · replace h := ite_t c h
    refine AW.iload_n dX6_course_8 2 rfl ?_
    refine AW.iconst (v := (1 : Int32)) dX6_course_9 rfl ?_
    refine AW.icmp_lt (tgt := 19) dX6_course_10 rfl (fun c => ?_) (fun c => ?_)
    · replace h := ite_t c h
      refine AW.aload_n dX6_course_19 0 rfl ?_
      refine AW.iconst (v := (0 : Int32)) dX6_course_20 rfl ?_
      refine AW.callVI [.int (0 : Int32)] (C_X6_finding h) ok_X6_finding (id0_16_0) rfl rfl w_247 rfl (Nat.le_of_ble_eq_true rfl) (Nat.le_of_ble_eq_true rfl) rfl dX6_course_21 (fun r6 σ5 h => ?_)
      exact AW.iret rfl dX6_course_24 h
    · replace h := ite_f c h
      refine AW.iload_n dX6_course_13 2 rfl ?_
      refine AW.bipush (v := (7 : Int32)) dX6_course_14 rfl ?_
      refine AW.icmp_le (tgt := 25) dX6_course_16 rfl (fun c => ?_) (fun c => ?_)
      · replace h := ite_t c h
        refine AW.aload_n dX6_course_25 0 rfl ?_
        refine AW.get (k := 4) (v := .ref (gad g 0 15)) (id0_16_0) rfl rfl inGX6 (Nat.le_of_ble_eq_true rfl) w_207 rfl dX6_course_26 ?_
        refine AW.aload_n dX6_course_29 0 rfl ?_
        refine AW.get (k := 0) (v := .ref (gad g 5 0)) (id0_16_0) rfl rfl inGX6 (Nat.le_of_ble_eq_true rfl) w_203 rfl dX6_course_30 ?_
        refine AW.get (k := 1) (v := .ref (gad g 6 0)) (id0_5_0) rfl rfl inGX2 (Nat.le_of_ble_eq_true rfl) w_96 rfl dX6_course_33 ?_
        refine AW.iload_n dX6_course_36 1 rfl ?_
        obtain ⟨hq7, h⟩ := h
        obtain ⟨hv8, h⟩ := h
        refine AW.aald (a' := gad g 0 (5 * 0 + a1.toNatClampNeg)) (ty := 1) (id0_6_0) rfl rfl rfl hq7 dX6_course_37 ?_
        refine AW.iload_n dX6_course_38 2 rfl ?_
        refine AW.callVV [.ref (gad g 0 (5 * 0 + a1.toNatClampNeg)), .int a2] (C_X0_becomeMovedOn h) ok_X0_becomeMovedOn (id0_0_15) rfl rfl w_608 rfl (Nat.le_of_ble_eq_true rfl) (Nat.le_of_ble_eq_true rfl) rfl dX6_course_39 (fun σ9 h => ?_)
        refine AW.aload_n dX6_course_42 0 rfl ?_
        refine AW.get (k := 0) (v := .ref (gad g 5 0)) (id0_16_0) rfl rfl inGX6 (Nat.le_of_ble_eq_true rfl) w_203 rfl dX6_course_43 ?_
        refine AW.get (k := 1) (v := .ref (gad g 6 0)) (id0_5_0) rfl rfl inGX2 (Nat.le_of_ble_eq_true rfl) w_96 rfl dX6_course_46 ?_
        refine AW.iload_n dX6_course_49 1 rfl ?_
        obtain ⟨hq10, h⟩ := h
        refine AW.aald (a' := gad g 0 (5 * 0 + a1.toNatClampNeg)) (ty := 1) (id0_6_0) rfl rfl rfl hq10 dX6_course_50 ?_
        refine AW.aload_n dX6_course_51 0 rfl ?_
        refine AW.get (k := 4) (v := .ref (gad g 0 15)) (id0_16_0) rfl rfl inGX6 (Nat.le_of_ble_eq_true rfl) w_207 rfl dX6_course_52 ?_
        refine AW.callVV [.ref (gad g 0 15)] (C_X0_become h) ok_X0_become (ids_in (Nat.le_of_ble_eq_true rfl) hv8) rfl rfl w_419 rfl (Nat.le_of_ble_eq_true rfl) (Nat.le_of_ble_eq_true rfl) rfl dX6_course_55 (fun σ11 h => ?_)
        refine AW.aload_n dX6_course_58 0 rfl ?_
        refine AW.get (k := 0) (v := .ref (gad g 5 0)) (id0_16_0) rfl rfl inGX6 (Nat.le_of_ble_eq_true rfl) w_203 rfl dX6_course_59 ?_
        refine AW.get (k := 0) (v := .ref (gad g 2 0)) (id0_5_0) rfl rfl inGX2 (Nat.le_of_ble_eq_true rfl) w_93 rfl dX6_course_62 ?_
        refine AW.aload_n dX6_course_65 0 rfl ?_
        refine AW.get (k := 4) (v := .ref (gad g 0 15)) (id0_16_0) rfl rfl inGX6 (Nat.le_of_ble_eq_true rfl) w_207 rfl dX6_course_66 ?_
        refine AW.callVB [.ref (gad g 0 15)] (C_X1_holds h) ok_X1_holds (id0_2_0) rfl rfl w_324 rfl (Nat.le_of_ble_eq_true rfl) (Nat.le_of_ble_eq_true rfl) rfl dX6_course_69 (fun b13 σ12 h => ?_)
        refine AW.ifb_eq (tgt := 79) dX6_course_72 rfl (fun c => ?_) (fun c => ?_)
        · replace h := ite_f c h
          refine AW.iconst (v := (0 : Int32)) dX6_course_79 rfl ?_
          exact AW.iret rfl dX6_course_80 h
        · replace h := ite_t c h
          refine AW.iconst (v := (1 : Int32)) dX6_course_75 rfl ?_
          refine AW.goto (tgt := 80) dX6_course_76 rfl ?_
          exact AW.iret rfl dX6_course_80 h
      · replace h := ite_f c h
        refine AW.aload_n dX6_course_19 0 rfl ?_
        refine AW.iconst (v := (0 : Int32)) dX6_course_20 rfl ?_
        refine AW.callVI [.int (0 : Int32)] (C_X6_finding h) ok_X6_finding (id0_16_0) rfl rfl w_247 rfl (Nat.le_of_ble_eq_true rfl) (Nat.le_of_ble_eq_true rfl) rfl dX6_course_21 (fun r15 σ14 h => ?_)
        exact AW.iret rfl dX6_course_24 h
theorem ok_X6_course : OkV M_X6_course 2 := ⟨w_605, w_606, w_1, w_607, by decide +kernel, (Nat.le_of_ble_eq_true rfl)⟩
def M_X6_turns : MT := (yX6_turns, cX6_turns, 5, some .int, 5)
set_option maxRecDepth 100000 in
def f_X6_turns_29 (i2 : Nat) (K : Int32 → Mm → Prop) : Nat → Int32 → Int32 → Mm → Prop
  | 0, _, _, _ => False
  | n + 1, a3, a4, σ => (if (σ 0 i2 1) ≤ a4 then (K a3 σ) else (f_X0_becomeMovedOn 15 i2 a4 σ (fun σ5 => (f_X1_holds 0 15 σ5 (fun b7 σ6 => (if b7 = true then (f_X6_turns_29 i2 K n (a3 + (1 : Int32)) (a4 + (1 : Int32)) σ6) else (f_X6_turns_29 i2 K n a3 (a4 + (1 : Int32)) σ6)))))))
set_option maxRecDepth 100000 in
set_option maxHeartbeats 4000000 in
theorem T_X6_turns_29 {g : GG} {i2 : Nat} {K : Int32 → Mm → Prop} (hi2 : i2 < 17) : ∀ (n : Nat) (a3 : Int32) (a4 : Int32) (σ : Mm), f_X6_turns_29 i2 K n a3 a4 σ → AW g 0 M_X6_turns (QI g 0 K) 29 [(0, .ref (gad g 16 0)), (2, .ref (gad g 0 i2)), (3, .int a3), (4, .int a4)] [] σ := by
  intro n
  induction n with
  | zero => intro a3 a4 σ h; exact False.elim h
  | succ n ih =>
    intro a3 a4 σ h
    rw [f_X6_turns_29] at h
    refine AW.iload dX6_turns_29 3 rfl ?_
    refine AW.aload_n dX6_turns_31 1 rfl ?_
    refine AW.get (k := 1) (v := .int (σ 0 i2 1)) (ids_in (Nat.le_of_ble_eq_true rfl) hi2) rfl rfl inGX0 (Nat.le_of_ble_eq_true rfl) w_75 rfl dX6_turns_32 ?_
    refine AW.icmp_ge (tgt := 74) dX6_turns_35 rfl (fun c => ?_) (fun c => ?_)
    · replace h := ite_t c h
      refine AW.iload_n dX6_turns_74 2 rfl ?_
      exact AW.iret rfl dX6_turns_75 h
    · replace h := ite_f c h
      refine AW.aload_n dX6_turns_38 0 rfl ?_
      refine AW.get (k := 4) (v := .ref (gad g 0 15)) (id0_16_0) rfl rfl inGX6 (Nat.le_of_ble_eq_true rfl) w_207 rfl dX6_turns_39 ?_
      refine AW.aload_n dX6_turns_42 1 rfl ?_
      refine AW.iload dX6_turns_43 3 rfl ?_
      refine AW.callVV [.ref (gad g 0 i2), .int a4] (C_X0_becomeMovedOn h) ok_X0_becomeMovedOn (id0_0_15) rfl rfl w_608 rfl (Nat.le_of_ble_eq_true rfl) (Nat.le_of_ble_eq_true rfl) rfl dX6_turns_45 (fun σ5 h => ?_)
      refine AW.aload_n dX6_turns_48 0 rfl ?_
      refine AW.get (k := 0) (v := .ref (gad g 5 0)) (id0_16_0) rfl rfl inGX6 (Nat.le_of_ble_eq_true rfl) w_203 rfl dX6_turns_49 ?_
      refine AW.get (k := 0) (v := .ref (gad g 2 0)) (id0_5_0) rfl rfl inGX2 (Nat.le_of_ble_eq_true rfl) w_93 rfl dX6_turns_52 ?_
      refine AW.aload_n dX6_turns_55 0 rfl ?_
      refine AW.get (k := 4) (v := .ref (gad g 0 15)) (id0_16_0) rfl rfl inGX6 (Nat.le_of_ble_eq_true rfl) w_207 rfl dX6_turns_56 ?_
      refine AW.callVB [.ref (gad g 0 15)] (C_X1_holds h) ok_X1_holds (id0_2_0) rfl rfl w_324 rfl (Nat.le_of_ble_eq_true rfl) (Nat.le_of_ble_eq_true rfl) rfl dX6_turns_59 (fun b7 σ6 h => ?_)
      refine AW.ifb_eq (tgt := 68) dX6_turns_62 rfl (fun c => ?_) (fun c => ?_)
      · replace h := ite_f c h
        refine AW.iinc (v := (a4 + (1 : Int32))) (L' := [(0, .ref (gad g 16 0)), (2, .ref (gad g 0 i2)), (3, .int a3), (4, .int (a4 + (1 : Int32)))]) dX6_turns_68 3 rfl rfl (Nat.le_of_ble_eq_true rfl) rfl ?_
        refine AW.goto (tgt := 29) dX6_turns_71 rfl ?_
        exact ih _ _ _ h
      · replace h := ite_t c h
        refine AW.iinc (v := (a3 + (1 : Int32))) (L' := [(0, .ref (gad g 16 0)), (2, .ref (gad g 0 i2)), (3, .int (a3 + (1 : Int32))), (4, .int a4)]) dX6_turns_65 2 rfl rfl (Nat.le_of_ble_eq_true rfl) rfl ?_
        refine AW.iinc (v := (a4 + (1 : Int32))) (L' := [(0, .ref (gad g 16 0)), (2, .ref (gad g 0 i2)), (3, .int (a3 + (1 : Int32))), (4, .int (a4 + (1 : Int32)))]) dX6_turns_68 3 rfl rfl (Nat.le_of_ble_eq_true rfl) rfl ?_
        refine AW.goto (tgt := 29) dX6_turns_71 rfl ?_
        exact ih _ _ _ h
def f_X6_turns (a1 : Int32) (σ : Mm) (K : Int32 → Mm → Prop) : Prop := (f_X6_isBench a1 σ (fun b2 σ1 => (if b2 = true then (vp_in a1 5 ∧ ((5 * 0 + a1.toNatClampNeg) < 17 ∧ (∃ m, f_X6_turns_29 (5 * 0 + a1.toNatClampNeg) K m (0 : Int32) (0 : Int32) σ1))) else (f_X6_finding (0 : Int32) σ1 (fun r9 σ8 => (K r9 σ8))))))
set_option maxRecDepth 100000 in
set_option maxHeartbeats 4000000 in
theorem C_X6_turns {g : GG} {a1 : Int32} {σ : Mm} {K : Int32 → Mm → Prop} (h : f_X6_turns a1 σ K) : Ct g 0 M_X6_turns (QI g 0 K) [.ref (gad g 16 0), .int a1] σ := by
  unfold f_X6_turns at h
  refine Ct.of (L := [(0, .ref (gad g 16 0)), (1, .int a1)]) (show plainName RX6 = true by decide) (Nat.le_of_ble_eq_true rfl) rfl ?_
  refine AW.aload_n dX6_turns_0 0 rfl ?_
  refine AW.iload_n dX6_turns_1 1 rfl ?_
  refine AW.callVB [.int a1] (C_X6_isBench h) ok_X6_isBench (id0_16_0) rfl rfl w_308 rfl (Nat.le_of_ble_eq_true rfl) (Nat.le_of_ble_eq_true rfl) rfl dX6_turns_2 (fun b2 σ1 h => ?_)
  refine AW.ifb_ne (tgt := 14) dX6_turns_5 rfl (fun c => ?_) (fun c => ?_)
  · replace h := ite_t c h
    refine AW.aload_n dX6_turns_14 0 rfl ?_
    refine AW.get (k := 0) (v := .ref (gad g 5 0)) (id0_16_0) rfl rfl inGX6 (Nat.le_of_ble_eq_true rfl) w_203 rfl dX6_turns_15 ?_
    refine AW.get (k := 1) (v := .ref (gad g 6 0)) (id0_5_0) rfl rfl inGX2 (Nat.le_of_ble_eq_true rfl) w_96 rfl dX6_turns_18 ?_
    refine AW.iload_n dX6_turns_21 1 rfl ?_
    obtain ⟨hq3, h⟩ := h
    obtain ⟨hv4, h⟩ := h
    refine AW.aald (a' := gad g 0 (5 * 0 + a1.toNatClampNeg)) (ty := 1) (id0_6_0) rfl rfl rfl hq3 dX6_turns_22 ?_
    refine AW.astore_n (L' := [(0, .ref (gad g 16 0)), (1, .int a1), (2, .ref (gad g 0 (5 * 0 + a1.toNatClampNeg)))]) dX6_turns_23 (Nat.le_of_ble_eq_true rfl) rfl ?_
    refine AW.iconst (v := (0 : Int32)) dX6_turns_24 rfl ?_
    refine AW.istore_n (L' := [(0, .ref (gad g 16 0)), (1, .int a1), (2, .ref (gad g 0 (5 * 0 + a1.toNatClampNeg))), (3, .int (0 : Int32))]) dX6_turns_25 (Nat.le_of_ble_eq_true rfl) rfl ?_
    refine AW.iconst (v := (0 : Int32)) dX6_turns_26 rfl ?_
    refine AW.istore (L' := [(0, .ref (gad g 16 0)), (1, .int a1), (2, .ref (gad g 0 (5 * 0 + a1.toNatClampNeg))), (3, .int (0 : Int32)), (4, .int (0 : Int32))]) dX6_turns_27 (Nat.le_of_ble_eq_true rfl) rfl ?_
    obtain ⟨m, h⟩ := h
    refine AW.eqL [0, 2, 3, 4] rfl ?_
    refine T_X6_turns_29 hv4 m _ _ _ h
  · replace h := ite_f c h
    refine AW.aload_n dX6_turns_8 0 rfl ?_
    refine AW.iconst (v := (0 : Int32)) dX6_turns_9 rfl ?_
    refine AW.callVI [.int (0 : Int32)] (C_X6_finding h) ok_X6_finding (id0_16_0) rfl rfl w_247 rfl (Nat.le_of_ble_eq_true rfl) (Nat.le_of_ble_eq_true rfl) rfl dX6_turns_10 (fun r9 σ8 h => ?_)
    exact AW.iret rfl dX6_turns_13 h
theorem ok_X6_turns : OkV M_X6_turns 1 := ⟨w_614, w_615, w_1, w_616, by decide +kernel, (Nat.le_of_ble_eq_true rfl)⟩
def M_X6_seed : MT := (yX6_seed, cX6_seed, 3, some .int, 1)
def f_X6_seed (a1 : Int32) (σ : Mm) (K : Int32 → Mm → Prop) : Prop := (∃ σ1, σ1 = mset σ 5 0 4 a1 ∧ (K (σ 5 0 4) σ1))
set_option maxRecDepth 100000 in
set_option maxHeartbeats 4000000 in
theorem C_X6_seed {g : GG} {a1 : Int32} {σ : Mm} {K : Int32 → Mm → Prop} (h : f_X6_seed a1 σ K) : Ct g 0 M_X6_seed (QI g 0 K) [.ref (gad g 16 0), .int a1] σ := by
  unfold f_X6_seed at h
  refine Ct.of (L := [(0, .ref (gad g 16 0)), (1, .int a1)]) (show plainName RX6 = true by decide) (Nat.le_of_ble_eq_true rfl) rfl ?_
  refine AW.aload_n dX6_seed_0 0 rfl ?_
  refine AW.get (k := 0) (v := .ref (gad g 5 0)) (id0_16_0) rfl rfl inGX6 (Nat.le_of_ble_eq_true rfl) w_203 rfl dX6_seed_1 ?_
  refine AW.get (k := 4) (v := .int (σ 5 0 4)) (id0_5_0) rfl rfl inGX2 (Nat.le_of_ble_eq_true rfl) w_104 rfl dX6_seed_4 ?_
  refine AW.istore_n (L' := [(0, .ref (gad g 16 0)), (1, .int a1), (2, .int (σ 5 0 4))]) dX6_seed_7 (Nat.le_of_ble_eq_true rfl) rfl ?_
  refine AW.aload_n dX6_seed_8 0 rfl ?_
  refine AW.get (k := 0) (v := .ref (gad g 5 0)) (id0_16_0) rfl rfl inGX6 (Nat.le_of_ble_eq_true rfl) w_203 rfl dX6_seed_9 ?_
  refine AW.iload_n dX6_seed_12 1 rfl ?_
  refine AW.put (k := 4) (w := a1) (id0_5_0) rfl rfl inGX2 tyX2_ok nmX2 (Nat.le_of_ble_eq_true rfl) w_104 rfl rfl rfl rfl (Nat.le_of_ble_eq_true rfl) rfl dX6_seed_13 ?_
  obtain ⟨σ1, eσ1, h⟩ := h
  rw [← eσ1]
  refine AW.iload_n dX6_seed_16 2 rfl ?_
  exact AW.iret rfl dX6_seed_17 h
theorem ok_X6_seed : OkV M_X6_seed 1 := ⟨w_618, w_619, w_1, w_620, by decide +kernel, (Nat.le_of_ble_eq_true rfl)⟩
