def M_X6_seatings : MT := (yX6_seatings, cX6_seatings, 3, some .int, 30)
def f_X6_seatings (a1 : Int32) (a2 : Int32) (σ : Mm) (K : Int32 → Mm → Prop) : Prop := (f_X6_isBench a1 σ (fun b2 σ1 => (if b2 = true then (f_X6_isSet a2 σ1 (fun b6 σ5 => (if b6 = true then (f_X6_fitsOn a1 a2 σ5 (fun b8 σ7 => (if b8 = true then (vp_in a1 5 ∧ ((5 * 0 + a1.toNatClampNeg) < 17 ∧ (f_X3_countUpTo (1000000 : Int32) (5 * 0 + a1.toNatClampNeg) a2 σ7 (fun r12 σ11 => (K r12 σ11))))) else (f_X6_finding (6 : Int32) σ7 (fun r14 σ13 => (K r14 σ13)))))) else (f_X6_finding (0 : Int32) σ5 (fun r16 σ15 => (K r16 σ15)))))) else (f_X6_finding (0 : Int32) σ1 (fun r4 σ3 => (K r4 σ3))))))
set_option maxRecDepth 100000 in
set_option maxHeartbeats 4000000 in
theorem C_X6_seatings {g : GG} {a1 : Int32} {a2 : Int32} {σ : Mm} {K : Int32 → Mm → Prop} (h : f_X6_seatings a1 a2 σ K) : Ct g 0 M_X6_seatings (QI g 0 K) [.ref (gad g 16 0), .int a1, .int a2] σ := by
  unfold f_X6_seatings at h
  refine Ct.of (L := [(0, .ref (gad g 16 0)), (1, .int a1), (2, .int a2)]) (show plainName RX6 = true by decide) (Nat.le_of_ble_eq_true rfl) rfl ?_
  refine AW.aload_n dX6_seatings_0 0 rfl ?_
  refine AW.iload_n dX6_seatings_1 1 rfl ?_
  refine AW.callVB [.int a1] (C_X6_isBench h) ok_X6_isBench (id0_16_0) rfl rfl w_308 rfl (Nat.le_of_ble_eq_true rfl) (Nat.le_of_ble_eq_true rfl) rfl dX6_seatings_2 (fun b2 σ1 h => ?_)
  refine AW.ifb_eq (tgt := 15) dX6_seatings_5 rfl (fun c => ?_) (fun c => ?_)
  · replace h := ite_f c h
    refine AW.aload_n dX6_seatings_15 0 rfl ?_
    refine AW.iconst (v := (0 : Int32)) dX6_seatings_16 rfl ?_
    refine AW.callVI [.int (0 : Int32)] (C_X6_finding h) ok_X6_finding (id0_16_0) rfl rfl w_247 rfl (Nat.le_of_ble_eq_true rfl) (Nat.le_of_ble_eq_true rfl) rfl dX6_seatings_17 (fun r4 σ3 h => ?_)
    exact AW.iret rfl dX6_seatings_20 h
  · replace h := ite_t c h
    refine AW.iload_n dX6_seatings_8 2 rfl ?_
    refine AW.callSB [.int a2] (C_X6_isSet h) ok_X6_isSet w_463 rfl (Nat.le_of_ble_eq_true rfl) (Nat.le_of_ble_eq_true rfl) rfl dX6_seatings_9 (fun b6 σ5 h => ?_)
    refine AW.ifb_ne (tgt := 21) dX6_seatings_12 rfl (fun c => ?_) (fun c => ?_)
    · replace h := ite_t c h
      refine AW.aload_n dX6_seatings_21 0 rfl ?_
      refine AW.iload_n dX6_seatings_22 1 rfl ?_
      refine AW.iload_n dX6_seatings_23 2 rfl ?_
      refine AW.callVB [.int a1, .int a2] (C_X6_fitsOn h) ok_X6_fitsOn (id0_16_0) rfl rfl w_466 rfl (Nat.le_of_ble_eq_true rfl) (Nat.le_of_ble_eq_true rfl) rfl dX6_seatings_24 (fun b8 σ7 h => ?_)
      refine AW.ifb_ne (tgt := 37) dX6_seatings_27 rfl (fun c => ?_) (fun c => ?_)
      · replace h := ite_t c h
        refine AW.aload_n dX6_seatings_37 0 rfl ?_
        refine AW.get (k := 5) (v := .ref (gad g 8 0)) (id0_16_0) rfl rfl inGX6 (Nat.le_of_ble_eq_true rfl) w_208 rfl dX6_seatings_38 ?_
        refine AW.ldc (v := (1000000 : Int32)) dX6_seatings_41 w_476 ?_
        refine AW.aload_n dX6_seatings_43 0 rfl ?_
        refine AW.get (k := 0) (v := .ref (gad g 5 0)) (id0_16_0) rfl rfl inGX6 (Nat.le_of_ble_eq_true rfl) w_203 rfl dX6_seatings_44 ?_
        refine AW.get (k := 1) (v := .ref (gad g 6 0)) (id0_5_0) rfl rfl inGX2 (Nat.le_of_ble_eq_true rfl) w_96 rfl dX6_seatings_47 ?_
        refine AW.iload_n dX6_seatings_50 1 rfl ?_
        obtain ⟨hq9, h⟩ := h
        obtain ⟨hv10, h⟩ := h
        refine AW.aald (a' := gad g 0 (5 * 0 + a1.toNatClampNeg)) (ty := 1) (id0_6_0) rfl rfl rfl hq9 dX6_seatings_51 ?_
        refine AW.iload_n dX6_seatings_52 2 rfl ?_
        refine AW.callVI [.int (1000000 : Int32), .ref (gad g 0 (5 * 0 + a1.toNatClampNeg)), .int a2] (C_X3_countUpTo h) ok_X3_countUpTo (id0_8_0) rfl rfl w_477 rfl (Nat.le_of_ble_eq_true rfl) (Nat.le_of_ble_eq_true rfl) rfl dX6_seatings_53 (fun r12 σ11 h => ?_)
        exact AW.iret rfl dX6_seatings_56 h
      · replace h := ite_f c h
        refine AW.aload_n dX6_seatings_30 0 rfl ?_
        refine AW.bipush (v := (6 : Int32)) dX6_seatings_31 rfl ?_
        refine AW.callVI [.int (6 : Int32)] (C_X6_finding h) ok_X6_finding (id0_16_0) rfl rfl w_247 rfl (Nat.le_of_ble_eq_true rfl) (Nat.le_of_ble_eq_true rfl) rfl dX6_seatings_33 (fun r14 σ13 h => ?_)
        exact AW.iret rfl dX6_seatings_36 h
    · replace h := ite_f c h
      refine AW.aload_n dX6_seatings_15 0 rfl ?_
      refine AW.iconst (v := (0 : Int32)) dX6_seatings_16 rfl ?_
      refine AW.callVI [.int (0 : Int32)] (C_X6_finding h) ok_X6_finding (id0_16_0) rfl rfl w_247 rfl (Nat.le_of_ble_eq_true rfl) (Nat.le_of_ble_eq_true rfl) rfl dX6_seatings_17 (fun r16 σ15 h => ?_)
      exact AW.iret rfl dX6_seatings_20 h
theorem ok_X6_seatings : OkV M_X6_seatings 2 := ⟨w_460, w_461, w_1, w_462, by decide +kernel, (Nat.le_of_ble_eq_true rfl)⟩
def M_X3_finds : MT := (yX3_finds, cX3_finds, 4, some .boolean, 30)
def f_X3_finds (a1 : Int32) (i2 : Nat) (a3 : Int32) (σ : Mm) (K : Bool → Mm → Prop) : Prop := (i2 < 17 ∧ (if (1000000 : Int32) ≤ a1 then (K false σ) else (f_X3_countUpTo (a1 + (1 : Int32)) i2 a3 σ (fun r2 σ1 => (if r2 ≤ a1 then (K false σ1) else (K true σ1))))))
set_option maxRecDepth 100000 in
set_option maxHeartbeats 4000000 in
theorem C_X3_finds {g : GG} {a1 : Int32} {i2 : Nat} {a3 : Int32} {σ : Mm} {K : Bool → Mm → Prop} (h : f_X3_finds a1 i2 a3 σ K) : Ct g 0 M_X3_finds (QB g 0 K) [.ref (gad g 8 0), .int a1, .ref (gad g 0 i2), .int a3] σ := by
  unfold f_X3_finds at h
  obtain ⟨hi2, h⟩ := h
  refine Ct.of (L := [(0, .ref (gad g 8 0)), (1, .int a1), (2, .ref (gad g 0 i2)), (3, .int a3)]) (show plainName RX3 = true by decide) (Nat.le_of_ble_eq_true rfl) rfl ?_
  refine AW.iload_n dX3_finds_0 1 rfl ?_
  refine AW.ldc (v := (1000000 : Int32)) dX3_finds_1 w_498 ?_
  refine AW.icmp_ge (tgt := 23) dX3_finds_3 rfl (fun c => ?_) (fun c => ?_)
  · replace h := ite_t c h
    refine AW.iconst (v := (0 : Int32)) dX3_finds_23 rfl ?_
    exact AW.bret false rfl rfl dX3_finds_24 h
  · replace h := ite_f c h
    refine AW.aload_n dX3_finds_6 0 rfl ?_
    refine AW.iload_n dX3_finds_7 1 rfl ?_
    refine AW.iconst (v := (1 : Int32)) dX3_finds_8 rfl ?_
    refine AW.iadd dX3_finds_9 ?_
    refine AW.aload_n dX3_finds_10 2 rfl ?_
    refine AW.iload_n dX3_finds_11 3 rfl ?_
    refine AW.callVI [.int (a1 + (1 : Int32)), .ref (gad g 0 i2), .int a3] (C_X3_countUpTo h) ok_X3_countUpTo (id0_8_0) rfl rfl w_533 rfl (Nat.le_of_ble_eq_true rfl) (Nat.le_of_ble_eq_true rfl) rfl dX3_finds_12 (fun r2 σ1 h => ?_)
    refine AW.iload_n dX3_finds_15 1 rfl ?_
    refine AW.icmp_le (tgt := 23) dX3_finds_16 rfl (fun c => ?_) (fun c => ?_)
    · replace h := ite_t c h
      refine AW.iconst (v := (0 : Int32)) dX3_finds_23 rfl ?_
      exact AW.bret false rfl rfl dX3_finds_24 h
    · replace h := ite_f c h
      refine AW.iconst (v := (1 : Int32)) dX3_finds_19 rfl ?_
      refine AW.goto (tgt := 24) dX3_finds_20 rfl ?_
      exact AW.bret true rfl rfl dX3_finds_24 h
theorem ok_X3_finds : OkV M_X3_finds 3 := ⟨w_530, w_531, w_6, w_532, by decide +kernel, (Nat.le_of_ble_eq_true rfl)⟩
def M_X2_takeSeating_5_1 : MT := (yX2_takeSeating, cX2_takeSeating, 5, none, 4)
set_option maxRecDepth 100000 in
def f_X2_takeSeating_5_1_3 (i0 : Nat) (a1 : Int32) (a2 : Int32) (i3 : Nat) (K : Mm → Prop) (k32 : Mm → Prop) : Nat → Int32 → Mm → Prop
  | 0, _, _ => False
  | n + 1, a4, σ => (if (8 : Int32) ≤ a4 then (k32 σ) else (f_X6_has a2 a4 σ (fun b2 σ1 => (if b2 = true then (f_X2_lift i0 a4 σ1 (fun b4 σ3 => (f_X2_takeSeating_5_1_3 i0 a1 a2 i3 K k32 n (a4 + (1 : Int32)) σ3))) else (f_X2_takeSeating_5_1_3 i0 a1 a2 i3 K k32 n (a4 + (1 : Int32)) σ1)))))
set_option maxRecDepth 100000 in
set_option maxHeartbeats 4000000 in
theorem T_X2_takeSeating_5_1_3 {g : GG} {i0 : Nat} {a1 : Int32} {a2 : Int32} {i3 : Nat} {K : Mm → Prop} {k32 : Mm → Prop} (hi0 : i0 < 3) (hi3 : i3 < 17) (hk32 : ∀  (u : Mm), k32  u → AW g 0 M_X2_takeSeating_5_1 (QV g 0 K) 32 [(0, .ref (gad g 5 i0)), (1, .int a1), (3, .ref (gad g 1 i3))] [] u) : ∀ (n : Nat) (a4 : Int32) (σ : Mm), f_X2_takeSeating_5_1_3 i0 a1 a2 i3 K k32 n a4 σ → AW g 0 M_X2_takeSeating_5_1 (QV g 0 K) 3 [(0, .ref (gad g 5 i0)), (1, .int a1), (2, .int a2), (3, .ref (gad g 1 i3)), (4, .int a4)] [] σ := by
  intro n
  induction n with
  | zero => intro a4 σ h; exact False.elim h
  | succ n ih =>
    intro a4 σ h
    rw [f_X2_takeSeating_5_1_3] at h
    refine AW.iload dX2_takeSeating_3 4 rfl ?_
    refine AW.bipush (v := (8 : Int32)) dX2_takeSeating_5 rfl ?_
    refine AW.icmp_ge (tgt := 32) dX2_takeSeating_7 rfl (fun c => ?_) (fun c => ?_)
    · replace h := ite_t c h
      refine AW.eqL [0, 1, 3] rfl ?_
      exact hk32 _ h
    · replace h := ite_f c h
      refine AW.iload_n dX2_takeSeating_10 2 rfl ?_
      refine AW.iload dX2_takeSeating_11 4 rfl ?_
      refine AW.callNB [.int a2, .int a4] (C_X6_has h) ok_X6_has (by decide) rfl (Nat.le_of_ble_eq_true rfl) (Nat.le_of_ble_eq_true rfl) rfl dX2_takeSeating_13 (fun b2 σ1 h => ?_)
      refine AW.ifb_eq (tgt := 26) dX2_takeSeating_16 rfl (fun c => ?_) (fun c => ?_)
      · replace h := ite_f c h
        refine AW.iinc (v := (a4 + (1 : Int32))) (L' := [(0, .ref (gad g 5 i0)), (1, .int a1), (2, .int a2), (3, .ref (gad g 1 i3)), (4, .int (a4 + (1 : Int32)))]) dX2_takeSeating_26 4 rfl rfl (Nat.le_of_ble_eq_true rfl) rfl ?_
        refine AW.goto (tgt := 3) dX2_takeSeating_29 rfl ?_
        exact ih _ _ h
      · replace h := ite_t c h
        refine AW.aload_n dX2_takeSeating_19 0 rfl ?_
        refine AW.iload dX2_takeSeating_20 4 rfl ?_
        refine AW.callVB [.int a4] (C_X2_lift h) ok_X2_lift (ids_in (Nat.le_of_ble_eq_true rfl) hi0) rfl rfl w_383 rfl (Nat.le_of_ble_eq_true rfl) (Nat.le_of_ble_eq_true rfl) rfl dX2_takeSeating_22 (fun b4 σ3 h => ?_)
        refine AW.pop dX2_takeSeating_25 rfl ?_
        refine AW.iinc (v := (a4 + (1 : Int32))) (L' := [(0, .ref (gad g 5 i0)), (1, .int a1), (2, .int a2), (3, .ref (gad g 1 i3)), (4, .int (a4 + (1 : Int32)))]) dX2_takeSeating_26 4 rfl rfl (Nat.le_of_ble_eq_true rfl) rfl ?_
        refine AW.goto (tgt := 3) dX2_takeSeating_29 rfl ?_
        exact ih _ _ h
def f_X2_takeSeating_5_1 (i0 : Nat) (a1 : Int32) (a2 : Int32) (i3 : Nat) (σ : Mm) (K : Mm → Prop) : Prop := (i0 < 3 ∧ (i3 < 17 ∧ (∃ m, f_X2_takeSeating_5_1_3 i0 a1 a2 i3 K (fun σ5 => (vp_in a1 5 ∧ ((5 * i0 + a1.toNatClampNeg) < 17 ∧ (vp_in a1 5 ∧ (¬ (0 : Int32) < 0 ∧ ¬ (0 : Int32) < 0 ∧ ¬ (σ5 0 (5 * i0 + a1.toNatClampNeg) 1) < 0 ∧ (0 : Int32).toNatClampNeg + (σ5 0 (5 * i0 + a1.toNatClampNeg) 1).toNatClampNeg ≤ 8 ∧ (0 : Int32).toNatClampNeg + (σ5 0 (5 * i0 + a1.toNatClampNeg) 1).toNatClampNeg ≤ 8 ∧ (∃ σ14, σ14 = mrow σ5 1 (5 * i0 + a1.toNatClampNeg) (va_cpy (σ5 1 i3) (σ5 1 (5 * i0 + a1.toNatClampNeg)) (0 : Int32).toNatClampNeg (0 : Int32).toNatClampNeg (σ5 0 (5 * i0 + a1.toNatClampNeg) 1).toNatClampNeg) ∧ (K σ14))))))) m (0 : Int32) σ)))
set_option maxRecDepth 100000 in
set_option maxHeartbeats 4000000 in
theorem C_X2_takeSeating_5_1 {g : GG} {i0 : Nat} {a1 : Int32} {a2 : Int32} {i3 : Nat} {σ : Mm} {K : Mm → Prop} (h : f_X2_takeSeating_5_1 i0 a1 a2 i3 σ K) : Ct g 0 M_X2_takeSeating_5_1 (QV g 0 K) [.ref (gad g 5 i0), .int a1, .int a2, .ref (gad g 1 i3)] σ := by
  unfold f_X2_takeSeating_5_1 at h
  obtain ⟨hi0, h⟩ := h
  obtain ⟨hi3, h⟩ := h
  refine Ct.of (L := [(0, .ref (gad g 5 i0)), (1, .int a1), (2, .int a2), (3, .ref (gad g 1 i3))]) (show plainName RX2 = true by decide) (Nat.le_of_ble_eq_true rfl) rfl ?_
  refine AW.iconst (v := (0 : Int32)) dX2_takeSeating_0 rfl ?_
  refine AW.istore (L' := [(0, .ref (gad g 5 i0)), (1, .int a1), (2, .int a2), (3, .ref (gad g 1 i3)), (4, .int (0 : Int32))]) dX2_takeSeating_1 (Nat.le_of_ble_eq_true rfl) rfl ?_
  obtain ⟨m, h⟩ := h
  refine T_X2_takeSeating_5_1_3 hi0 hi3 (fun σ5 h => ?_) m _ _ h
  refine AW.aload_n dX2_takeSeating_32 2 rfl ?_
  refine AW.iconst (v := (0 : Int32)) dX2_takeSeating_33 rfl ?_
  refine AW.aload_n dX2_takeSeating_34 0 rfl ?_
  refine AW.get (k := 1) (v := .ref (gad g 6 i0)) (ids_in (Nat.le_of_ble_eq_true rfl) hi0) rfl rfl inGX2 (Nat.le_of_ble_eq_true rfl) w_95 rfl dX2_takeSeating_35 ?_
  refine AW.iload_n dX2_takeSeating_38 1 rfl ?_
  obtain ⟨hq6, h⟩ := h
  obtain ⟨hv7, h⟩ := h
  refine AW.aald (a' := gad g 0 (5 * i0 + a1.toNatClampNeg)) (ty := 1) (ids_in (Nat.le_of_ble_eq_true rfl) hi0) rfl rfl rfl hq6 dX2_takeSeating_39 ?_
  refine AW.get (k := 2) (v := .ref (gad g 1 (5 * i0 + a1.toNatClampNeg))) (ids_in (Nat.le_of_ble_eq_true rfl) hv7) rfl rfl inGX0 (Nat.le_of_ble_eq_true rfl) w_79 rfl dX2_takeSeating_40 ?_
  refine AW.iconst (v := (0 : Int32)) dX2_takeSeating_43 rfl ?_
  refine AW.aload_n dX2_takeSeating_44 0 rfl ?_
  refine AW.get (k := 1) (v := .ref (gad g 6 i0)) (ids_in (Nat.le_of_ble_eq_true rfl) hi0) rfl rfl inGX2 (Nat.le_of_ble_eq_true rfl) w_95 rfl dX2_takeSeating_45 ?_
  refine AW.iload_n dX2_takeSeating_48 1 rfl ?_
  obtain ⟨hq8, h⟩ := h
  refine AW.aald (a' := gad g 0 (5 * i0 + a1.toNatClampNeg)) (ty := 1) (ids_in (Nat.le_of_ble_eq_true rfl) hi0) rfl rfl rfl hq8 dX2_takeSeating_49 ?_
  refine AW.get (k := 1) (v := .int (σ5 0 (5 * i0 + a1.toNatClampNeg) 1)) (ids_in (Nat.le_of_ble_eq_true rfl) hv7) rfl rfl inGX0 (Nat.le_of_ble_eq_true rfl) w_74 rfl dX2_takeSeating_50 ?_
  obtain ⟨hc9, hc10, hc11, hc12, hc13, h⟩ := h
  refine AW.copy (ids_in (Nat.le_of_ble_eq_true rfl) hi3) rfl (ids_in (Nat.le_of_ble_eq_true rfl) hv7) (fun _ => rfl) w_539 w_425 w_424 w_11 hc9 hc10 hc11 hc12 hc13 (Nat.le_of_ble_eq_true rfl) (Nat.le_of_ble_eq_true rfl) dX2_takeSeating_53 ?_
  obtain ⟨σ14, eσ14, h⟩ := h
  rw [← eσ14]
  exact AW.vret rfl dX2_takeSeating_56 h
theorem ok_X2_takeSeating_5_1 : OkV M_X2_takeSeating_5_1 3 := ⟨w_535, w_536, w_2, w_537, by decide +kernel, (Nat.le_of_ble_eq_true rfl)⟩
def M_X6_lay : MT := (yX6_lay, cX6_lay, 4, some .int, 31)
def f_X6_lay (a1 : Int32) (a2 : Int32) (a3 : Int32) (σ : Mm) (K : Int32 → Mm → Prop) : Prop := (f_X6_isBench a1 σ (fun b2 σ1 => (if b2 = true then (f_X6_isSet a2 σ1 (fun b6 σ5 => (if b6 = true then (if 0 ≤ a3 then (f_X6_fitsOn a1 a2 σ5 (fun b10 σ9 => (if b10 = true then (vp_in a1 5 ∧ ((5 * 0 + a1.toNatClampNeg) < 17 ∧ (f_X3_finds a3 (5 * 0 + a1.toNatClampNeg) a2 σ9 (fun b14 σ13 => (if b14 = true then (f_X2_takeSeating_5_1 0 a1 a2 16 σ13 (fun σ15 => (K (1 : Int32) σ15))) else (f_X6_finding (3 : Int32) σ13 (fun r17 σ16 => (K r17 σ16)))))))) else (f_X6_finding (6 : Int32) σ9 (fun r19 σ18 => (K r19 σ18)))))) else (f_X6_finding (0 : Int32) σ5 (fun r21 σ20 => (K r21 σ20)))) else (f_X6_finding (0 : Int32) σ5 (fun r8 σ7 => (K r8 σ7)))))) else (f_X6_finding (0 : Int32) σ1 (fun r4 σ3 => (K r4 σ3))))))
set_option maxRecDepth 100000 in
set_option maxHeartbeats 4000000 in
theorem C_X6_lay {g : GG} {a1 : Int32} {a2 : Int32} {a3 : Int32} {σ : Mm} {K : Int32 → Mm → Prop} (h : f_X6_lay a1 a2 a3 σ K) : Ct g 0 M_X6_lay (QI g 0 K) [.ref (gad g 16 0), .int a1, .int a2, .int a3] σ := by
  unfold f_X6_lay at h
  refine Ct.of (L := [(0, .ref (gad g 16 0)), (1, .int a1), (2, .int a2), (3, .int a3)]) (show plainName RX6 = true by decide) (Nat.le_of_ble_eq_true rfl) rfl ?_
  refine AW.aload_n dX6_lay_0 0 rfl ?_
  refine AW.iload_n dX6_lay_1 1 rfl ?_
  refine AW.callVB [.int a1] (C_X6_isBench h) ok_X6_isBench (id0_16_0) rfl rfl w_308 rfl (Nat.le_of_ble_eq_true rfl) (Nat.le_of_ble_eq_true rfl) rfl dX6_lay_2 (fun b2 σ1 h => ?_)
  refine AW.ifb_eq (tgt := 19) dX6_lay_5 rfl (fun c => ?_) (fun c => ?_)
  · replace h := ite_f c h
    refine AW.aload_n dX6_lay_19 0 rfl ?_
    refine AW.iconst (v := (0 : Int32)) dX6_lay_20 rfl ?_
    refine AW.callVI [.int (0 : Int32)] (C_X6_finding h) ok_X6_finding (id0_16_0) rfl rfl w_247 rfl (Nat.le_of_ble_eq_true rfl) (Nat.le_of_ble_eq_true rfl) rfl dX6_lay_21 (fun r4 σ3 h => ?_)
    exact AW.iret rfl dX6_lay_24 h
  · replace h := ite_t c h
    refine AW.iload_n dX6_lay_8 2 rfl ?_
    refine AW.callSB [.int a2] (C_X6_isSet h) ok_X6_isSet w_463 rfl (Nat.le_of_ble_eq_true rfl) (Nat.le_of_ble_eq_true rfl) rfl dX6_lay_9 (fun b6 σ5 h => ?_)
    refine AW.ifb_eq (tgt := 19) dX6_lay_12 rfl (fun c => ?_) (fun c => ?_)
    · replace h := ite_f c h
      refine AW.aload_n dX6_lay_19 0 rfl ?_
      refine AW.iconst (v := (0 : Int32)) dX6_lay_20 rfl ?_
      refine AW.callVI [.int (0 : Int32)] (C_X6_finding h) ok_X6_finding (id0_16_0) rfl rfl w_247 rfl (Nat.le_of_ble_eq_true rfl) (Nat.le_of_ble_eq_true rfl) rfl dX6_lay_21 (fun r8 σ7 h => ?_)
      exact AW.iret rfl dX6_lay_24 h
    · replace h := ite_t c h
      refine AW.iload_n dX6_lay_15 3 rfl ?_
      refine AW.if_ge (tgt := 25) dX6_lay_16 rfl (fun c => ?_) (fun c => ?_)
      · replace h := ite_t c h
        refine AW.aload_n dX6_lay_25 0 rfl ?_
        refine AW.iload_n dX6_lay_26 1 rfl ?_
        refine AW.iload_n dX6_lay_27 2 rfl ?_
        refine AW.callVB [.int a1, .int a2] (C_X6_fitsOn h) ok_X6_fitsOn (id0_16_0) rfl rfl w_466 rfl (Nat.le_of_ble_eq_true rfl) (Nat.le_of_ble_eq_true rfl) rfl dX6_lay_28 (fun b10 σ9 h => ?_)
        refine AW.ifb_ne (tgt := 41) dX6_lay_31 rfl (fun c => ?_) (fun c => ?_)
        · replace h := ite_t c h
          refine AW.aload_n dX6_lay_41 0 rfl ?_
          refine AW.get (k := 5) (v := .ref (gad g 8 0)) (id0_16_0) rfl rfl inGX6 (Nat.le_of_ble_eq_true rfl) w_208 rfl dX6_lay_42 ?_
          refine AW.iload_n dX6_lay_45 3 rfl ?_
          refine AW.aload_n dX6_lay_46 0 rfl ?_
          refine AW.get (k := 0) (v := .ref (gad g 5 0)) (id0_16_0) rfl rfl inGX6 (Nat.le_of_ble_eq_true rfl) w_203 rfl dX6_lay_47 ?_
          refine AW.get (k := 1) (v := .ref (gad g 6 0)) (id0_5_0) rfl rfl inGX2 (Nat.le_of_ble_eq_true rfl) w_96 rfl dX6_lay_50 ?_
          refine AW.iload_n dX6_lay_53 1 rfl ?_
          obtain ⟨hq11, h⟩ := h
          obtain ⟨hv12, h⟩ := h
          refine AW.aald (a' := gad g 0 (5 * 0 + a1.toNatClampNeg)) (ty := 1) (id0_6_0) rfl rfl rfl hq11 dX6_lay_54 ?_
          refine AW.iload_n dX6_lay_55 2 rfl ?_
          refine AW.callVB [.int a3, .ref (gad g 0 (5 * 0 + a1.toNatClampNeg)), .int a2] (C_X3_finds h) ok_X3_finds (id0_8_0) rfl rfl w_529 rfl (Nat.le_of_ble_eq_true rfl) (Nat.le_of_ble_eq_true rfl) rfl dX6_lay_56 (fun b14 σ13 h => ?_)
          refine AW.ifb_ne (tgt := 68) dX6_lay_59 rfl (fun c => ?_) (fun c => ?_)
          · replace h := ite_t c h
            refine AW.aload_n dX6_lay_68 0 rfl ?_
            refine AW.get (k := 0) (v := .ref (gad g 5 0)) (id0_16_0) rfl rfl inGX6 (Nat.le_of_ble_eq_true rfl) w_203 rfl dX6_lay_69 ?_
            refine AW.iload_n dX6_lay_72 1 rfl ?_
            refine AW.iload_n dX6_lay_73 2 rfl ?_
            refine AW.aload_n dX6_lay_74 0 rfl ?_
            refine AW.get (k := 5) (v := .ref (gad g 8 0)) (id0_16_0) rfl rfl inGX6 (Nat.le_of_ble_eq_true rfl) w_208 rfl dX6_lay_75 ?_
            refine AW.get (k := 0) (v := .ref (gad g 0 16)) (id0_8_0) rfl rfl inGX3 (Nat.le_of_ble_eq_true rfl) w_127 rfl dX6_lay_78 ?_
            refine AW.get (k := 2) (v := .ref (gad g 1 16)) (id0_0_16) rfl rfl inGX0 (Nat.le_of_ble_eq_true rfl) w_82 rfl dX6_lay_81 ?_
            refine AW.callVV [.int a1, .int a2, .ref (gad g 1 16)] (C_X2_takeSeating_5_1 h) ok_X2_takeSeating_5_1 (id0_5_0) rfl rfl w_534 rfl (Nat.le_of_ble_eq_true rfl) (Nat.le_of_ble_eq_true rfl) rfl dX6_lay_84 (fun σ15 h => ?_)
            refine AW.iconst (v := (1 : Int32)) dX6_lay_87 rfl ?_
            exact AW.iret rfl dX6_lay_88 h
          · replace h := ite_f c h
            refine AW.aload_n dX6_lay_62 0 rfl ?_
            refine AW.iconst (v := (3 : Int32)) dX6_lay_63 rfl ?_
            refine AW.callVI [.int (3 : Int32)] (C_X6_finding h) ok_X6_finding (id0_16_0) rfl rfl w_247 rfl (Nat.le_of_ble_eq_true rfl) (Nat.le_of_ble_eq_true rfl) rfl dX6_lay_64 (fun r17 σ16 h => ?_)
            exact AW.iret rfl dX6_lay_67 h
        · replace h := ite_f c h
          refine AW.aload_n dX6_lay_34 0 rfl ?_
          refine AW.bipush (v := (6 : Int32)) dX6_lay_35 rfl ?_
          refine AW.callVI [.int (6 : Int32)] (C_X6_finding h) ok_X6_finding (id0_16_0) rfl rfl w_247 rfl (Nat.le_of_ble_eq_true rfl) (Nat.le_of_ble_eq_true rfl) rfl dX6_lay_37 (fun r19 σ18 h => ?_)
          exact AW.iret rfl dX6_lay_40 h
      · replace h := ite_f c h
        refine AW.aload_n dX6_lay_19 0 rfl ?_
        refine AW.iconst (v := (0 : Int32)) dX6_lay_20 rfl ?_
        refine AW.callVI [.int (0 : Int32)] (C_X6_finding h) ok_X6_finding (id0_16_0) rfl rfl w_247 rfl (Nat.le_of_ble_eq_true rfl) (Nat.le_of_ble_eq_true rfl) rfl dX6_lay_21 (fun r21 σ20 h => ?_)
        exact AW.iret rfl dX6_lay_24 h
theorem ok_X6_lay : OkV M_X6_lay 3 := ⟨w_526, w_527, w_1, w_528, by decide +kernel, (Nat.le_of_ble_eq_true rfl)⟩
def M_X6_most : MT := (yX6_most, cX6_most, 5, some .int, 31)
set_option maxRecDepth 100000 in
def f_X6_most_49 (a1 : Int32) (a2 : Int32) (a3 : Int32) (K : Int32 → Mm → Prop) (k104 : Mm → Prop) : Nat → Int32 → Mm → Prop
  | 0, _, _ => False
  | n + 1, a4, σ => (if a2 < a4 then (k104 σ) else (if (a4 &&& (a2 ^^^ (-1 : Int32))) = 0 then (f_J6_bitCount_0f7a4 a4 σ (fun r12 σ11 => (if r12 = a3 then (vp_in a1 5 ∧ ((5 * 0 + a1.toNatClampNeg) < 17 ∧ (f_X3_finds (0 : Int32) (5 * 0 + a1.toNatClampNeg) a4 σ11 (fun b16 σ15 => (if b16 = true then (K a4 σ15) else (f_X6_most_49 a1 a2 a3 K k104 n (a4 + (1 : Int32)) σ15)))))) else (f_X6_most_49 a1 a2 a3 K k104 n (a4 + (1 : Int32)) σ11)))) else (f_X6_most_49 a1 a2 a3 K k104 n (a4 + (1 : Int32)) σ)))
set_option maxRecDepth 100000 in
set_option maxHeartbeats 4000000 in
theorem T_X6_most_49 {g : GG} {a1 : Int32} {a2 : Int32} {a3 : Int32} {K : Int32 → Mm → Prop} {k104 : Mm → Prop} (hk104 : ∀  (u : Mm), k104  u → AW g 0 M_X6_most (QI g 0 K) 104 [(0, .ref (gad g 16 0)), (1, .int a1), (2, .int a2), (3, .int a3)] [] u) : ∀ (n : Nat) (a4 : Int32) (σ : Mm), f_X6_most_49 a1 a2 a3 K k104 n a4 σ → AW g 0 M_X6_most (QI g 0 K) 49 [(0, .ref (gad g 16 0)), (1, .int a1), (2, .int a2), (3, .int a3), (4, .int a4)] [] σ := by
  intro n
  induction n with
  | zero => intro a4 σ h; exact False.elim h
  | succ n ih =>
    intro a4 σ h
    rw [f_X6_most_49] at h
    refine AW.iload dX6_most_49 4 rfl ?_
    refine AW.iload_n dX6_most_51 2 rfl ?_
    refine AW.icmp_gt (tgt := 104) dX6_most_52 rfl (fun c => ?_) (fun c => ?_)
    · replace h := ite_t c h
      refine AW.eqL [0, 1, 2, 3] rfl ?_
      exact hk104 _ h
    · replace h := ite_f c h
      refine AW.iload dX6_most_55 4 rfl ?_
      refine AW.iload_n dX6_most_57 2 rfl ?_
      refine AW.iconst (v := (-1 : Int32)) dX6_most_58 rfl ?_
      refine AW.ixor dX6_most_59 ?_
      refine AW.iand dX6_most_60 ?_
      refine AW.if_ne (tgt := 98) dX6_most_61 rfl (fun c => ?_) (fun c => ?_)
      · replace h := ite_f c h
        refine AW.iinc (v := (a4 + (1 : Int32))) (L' := [(0, .ref (gad g 16 0)), (1, .int a1), (2, .int a2), (3, .int a3), (4, .int (a4 + (1 : Int32)))]) dX6_most_98 4 rfl rfl (Nat.le_of_ble_eq_true rfl) rfl ?_
        refine AW.goto (tgt := 49) dX6_most_101 rfl ?_
        exact ih _ _ h
      · replace h := ite_t c h
        refine AW.iload dX6_most_64 4 rfl ?_
        refine AW.callSI [.int a4] (C_J6_bitCount_0f7a4 h) ok_J6_bitCount_0f7a4 w_470 rfl (Nat.le_of_ble_eq_true rfl) (Nat.le_of_ble_eq_true rfl) rfl dX6_most_66 (fun r12 σ11 h => ?_)
        refine AW.iload_n dX6_most_69 3 rfl ?_
        refine AW.icmp_ne (tgt := 98) dX6_most_70 rfl (fun c => ?_) (fun c => ?_)
        · replace h := ite_f c h
          refine AW.iinc (v := (a4 + (1 : Int32))) (L' := [(0, .ref (gad g 16 0)), (1, .int a1), (2, .int a2), (3, .int a3), (4, .int (a4 + (1 : Int32)))]) dX6_most_98 4 rfl rfl (Nat.le_of_ble_eq_true rfl) rfl ?_
          refine AW.goto (tgt := 49) dX6_most_101 rfl ?_
          exact ih _ _ h
        · replace h := ite_t c h
          refine AW.aload_n dX6_most_73 0 rfl ?_
          refine AW.get (k := 5) (v := .ref (gad g 8 0)) (id0_16_0) rfl rfl inGX6 (Nat.le_of_ble_eq_true rfl) w_208 rfl dX6_most_74 ?_
          refine AW.iconst (v := (0 : Int32)) dX6_most_77 rfl ?_
          refine AW.aload_n dX6_most_78 0 rfl ?_
          refine AW.get (k := 0) (v := .ref (gad g 5 0)) (id0_16_0) rfl rfl inGX6 (Nat.le_of_ble_eq_true rfl) w_203 rfl dX6_most_79 ?_
          refine AW.get (k := 1) (v := .ref (gad g 6 0)) (id0_5_0) rfl rfl inGX2 (Nat.le_of_ble_eq_true rfl) w_96 rfl dX6_most_82 ?_
          refine AW.iload_n dX6_most_85 1 rfl ?_
          obtain ⟨hq13, h⟩ := h
          obtain ⟨hv14, h⟩ := h
          refine AW.aald (a' := gad g 0 (5 * 0 + a1.toNatClampNeg)) (ty := 1) (id0_6_0) rfl rfl rfl hq13 dX6_most_86 ?_
          refine AW.iload dX6_most_87 4 rfl ?_
          refine AW.callVB [.int (0 : Int32), .ref (gad g 0 (5 * 0 + a1.toNatClampNeg)), .int a4] (C_X3_finds h) ok_X3_finds (id0_8_0) rfl rfl w_529 rfl (Nat.le_of_ble_eq_true rfl) (Nat.le_of_ble_eq_true rfl) rfl dX6_most_89 (fun b16 σ15 h => ?_)
          refine AW.ifb_eq (tgt := 98) dX6_most_92 rfl (fun c => ?_) (fun c => ?_)
          · replace h := ite_f c h
            refine AW.iinc (v := (a4 + (1 : Int32))) (L' := [(0, .ref (gad g 16 0)), (1, .int a1), (2, .int a2), (3, .int a3), (4, .int (a4 + (1 : Int32)))]) dX6_most_98 4 rfl rfl (Nat.le_of_ble_eq_true rfl) rfl ?_
            refine AW.goto (tgt := 49) dX6_most_101 rfl ?_
            exact ih _ _ h
          · replace h := ite_t c h
            refine AW.iload dX6_most_95 4 rfl ?_
            exact AW.iret rfl dX6_most_97 h
set_option maxRecDepth 100000 in
def f_X6_most_42 (a1 : Int32) (a2 : Int32) (K : Int32 → Mm → Prop) : Nat → Int32 → Mm → Prop
  | 0, _, _ => False
  | n + 1, a3, σ => (if a3 ≤ 0 then (K (0 : Int32) σ) else (∃ m, f_X6_most_49 a1 a2 a3 K (fun σ17 => (f_X6_most_42 a1 a2 K n (a3 + (-1 : Int32)) σ17)) m (1 : Int32) σ))
set_option maxRecDepth 100000 in
set_option maxHeartbeats 4000000 in
theorem T_X6_most_42 {g : GG} {a1 : Int32} {a2 : Int32} {K : Int32 → Mm → Prop} : ∀ (n : Nat) (a3 : Int32) (σ : Mm), f_X6_most_42 a1 a2 K n a3 σ → AW g 0 M_X6_most (QI g 0 K) 42 [(0, .ref (gad g 16 0)), (1, .int a1), (2, .int a2), (3, .int a3)] [] σ := by
  intro n
  induction n with
  | zero => intro a3 σ h; exact False.elim h
  | succ n ih =>
    intro a3 σ h
    rw [f_X6_most_42] at h
    refine AW.iload_n dX6_most_42 3 rfl ?_
    refine AW.if_le (tgt := 110) dX6_most_43 rfl (fun c => ?_) (fun c => ?_)
    · replace h := ite_t c h
      refine AW.iconst (v := (0 : Int32)) dX6_most_110 rfl ?_
      exact AW.iret rfl dX6_most_111 h
    · replace h := ite_f c h
      refine AW.iconst (v := (1 : Int32)) dX6_most_46 rfl ?_
      refine AW.istore (L' := [(0, .ref (gad g 16 0)), (1, .int a1), (2, .int a2), (3, .int a3), (4, .int (1 : Int32))]) dX6_most_47 (Nat.le_of_ble_eq_true rfl) rfl ?_
      obtain ⟨m, h⟩ := h
      refine T_X6_most_49 (fun σ17 h => ?_) m _ _ h
      refine AW.iinc (v := (a3 + (-1 : Int32))) (L' := [(0, .ref (gad g 16 0)), (1, .int a1), (2, .int a2), (3, .int (a3 + (-1 : Int32)))]) dX6_most_104 3 rfl rfl (Nat.le_of_ble_eq_true rfl) rfl ?_
      refine AW.goto (tgt := 42) dX6_most_107 rfl ?_
      exact ih _ _ h
def f_X6_most (a1 : Int32) (a2 : Int32) (σ : Mm) (K : Int32 → Mm → Prop) : Prop := (f_X6_isBench a1 σ (fun b2 σ1 => (if b2 = true then (f_X6_isSet a2 σ1 (fun b6 σ5 => (if b6 = true then (f_J6_bitCount_0f7a4 a2 σ5 (fun r8 σ7 => (if r8 ≤ (6 : Int32) then (f_J6_bitCount_0f7a4 a2 σ7 (fun r10 σ9 => (∃ m, f_X6_most_42 a1 a2 K m r10 σ9))) else (f_X6_finding (6 : Int32) σ7 (fun r19 σ18 => (K r19 σ18)))))) else (f_X6_finding (0 : Int32) σ5 (fun r21 σ20 => (K r21 σ20)))))) else (f_X6_finding (0 : Int32) σ1 (fun r4 σ3 => (K r4 σ3))))))
set_option maxRecDepth 100000 in
set_option maxHeartbeats 4000000 in
theorem C_X6_most {g : GG} {a1 : Int32} {a2 : Int32} {σ : Mm} {K : Int32 → Mm → Prop} (h : f_X6_most a1 a2 σ K) : Ct g 0 M_X6_most (QI g 0 K) [.ref (gad g 16 0), .int a1, .int a2] σ := by
  unfold f_X6_most at h
  refine Ct.of (L := [(0, .ref (gad g 16 0)), (1, .int a1), (2, .int a2)]) (show plainName RX6 = true by decide) (Nat.le_of_ble_eq_true rfl) rfl ?_
  refine AW.aload_n dX6_most_0 0 rfl ?_
  refine AW.iload_n dX6_most_1 1 rfl ?_
  refine AW.callVB [.int a1] (C_X6_isBench h) ok_X6_isBench (id0_16_0) rfl rfl w_308 rfl (Nat.le_of_ble_eq_true rfl) (Nat.le_of_ble_eq_true rfl) rfl dX6_most_2 (fun b2 σ1 h => ?_)
  refine AW.ifb_eq (tgt := 15) dX6_most_5 rfl (fun c => ?_) (fun c => ?_)
  · replace h := ite_f c h
    refine AW.aload_n dX6_most_15 0 rfl ?_
    refine AW.iconst (v := (0 : Int32)) dX6_most_16 rfl ?_
    refine AW.callVI [.int (0 : Int32)] (C_X6_finding h) ok_X6_finding (id0_16_0) rfl rfl w_247 rfl (Nat.le_of_ble_eq_true rfl) (Nat.le_of_ble_eq_true rfl) rfl dX6_most_17 (fun r4 σ3 h => ?_)
    exact AW.iret rfl dX6_most_20 h
  · replace h := ite_t c h
    refine AW.iload_n dX6_most_8 2 rfl ?_
    refine AW.callSB [.int a2] (C_X6_isSet h) ok_X6_isSet w_463 rfl (Nat.le_of_ble_eq_true rfl) (Nat.le_of_ble_eq_true rfl) rfl dX6_most_9 (fun b6 σ5 h => ?_)
    refine AW.ifb_ne (tgt := 21) dX6_most_12 rfl (fun c => ?_) (fun c => ?_)
    · replace h := ite_t c h
      refine AW.iload_n dX6_most_21 2 rfl ?_
      refine AW.callSI [.int a2] (C_J6_bitCount_0f7a4 h) ok_J6_bitCount_0f7a4 w_470 rfl (Nat.le_of_ble_eq_true rfl) (Nat.le_of_ble_eq_true rfl) rfl dX6_most_22 (fun r8 σ7 h => ?_)
      refine AW.bipush (v := (6 : Int32)) dX6_most_25 rfl ?_
      refine AW.icmp_le (tgt := 37) dX6_most_27 rfl (fun c => ?_) (fun c => ?_)
      · replace h := ite_t c h
        refine AW.iload_n dX6_most_37 2 rfl ?_
        refine AW.callSI [.int a2] (C_J6_bitCount_0f7a4 h) ok_J6_bitCount_0f7a4 w_470 rfl (Nat.le_of_ble_eq_true rfl) (Nat.le_of_ble_eq_true rfl) rfl dX6_most_38 (fun r10 σ9 h => ?_)
        refine AW.istore_n (L' := [(0, .ref (gad g 16 0)), (1, .int a1), (2, .int a2), (3, .int r10)]) dX6_most_41 (Nat.le_of_ble_eq_true rfl) rfl ?_
        obtain ⟨m, h⟩ := h
        refine T_X6_most_42 m _ _ h
      · replace h := ite_f c h
        refine AW.aload_n dX6_most_30 0 rfl ?_
        refine AW.bipush (v := (6 : Int32)) dX6_most_31 rfl ?_
        refine AW.callVI [.int (6 : Int32)] (C_X6_finding h) ok_X6_finding (id0_16_0) rfl rfl w_247 rfl (Nat.le_of_ble_eq_true rfl) (Nat.le_of_ble_eq_true rfl) rfl dX6_most_33 (fun r19 σ18 h => ?_)
        exact AW.iret rfl dX6_most_36 h
    · replace h := ite_f c h
      refine AW.aload_n dX6_most_15 0 rfl ?_
      refine AW.iconst (v := (0 : Int32)) dX6_most_16 rfl ?_
      refine AW.callVI [.int (0 : Int32)] (C_X6_finding h) ok_X6_finding (id0_16_0) rfl rfl w_247 rfl (Nat.le_of_ble_eq_true rfl) (Nat.le_of_ble_eq_true rfl) rfl dX6_most_17 (fun r21 σ20 h => ?_)
      exact AW.iret rfl dX6_most_20 h
theorem ok_X6_most : OkV M_X6_most 2 := ⟨w_541, w_542, w_1, w_543, by decide +kernel, (Nat.le_of_ble_eq_true rfl)⟩
def M_X6_seatingsAfterQuarrel : MT := (yX6_seatingsAfterQuarrel, cX6_seatingsAfterQuarrel, 7, some .int, 30)
def f_X6_seatingsAfterQuarrel (a1 : Int32) (a2 : Int32) (a3 : Int32) (a4 : Int32) (σ : Mm) (K : Int32 → Mm → Prop) : Prop := (f_X1_bondOf 0 a3 a4 σ (fun r2 σ1 => (f_X1_tie 0 a3 a4 (0 : Int32) σ1 (fun σ3 => (vp_in a1 5 ∧ ((5 * 0 + a1.toNatClampNeg) < 17 ∧ (f_X3_countUpTo (1000000 : Int32) (5 * 0 + a1.toNatClampNeg) a2 σ3 (fun r7 σ6 => (f_X1_tie 0 a3 a4 r2 σ6 (fun σ8 => (K r7 σ8)))))))))))
set_option maxRecDepth 100000 in
set_option maxHeartbeats 4000000 in
theorem C_X6_seatingsAfterQuarrel {g : GG} {a1 : Int32} {a2 : Int32} {a3 : Int32} {a4 : Int32} {σ : Mm} {K : Int32 → Mm → Prop} (h : f_X6_seatingsAfterQuarrel a1 a2 a3 a4 σ K) : Ct g 0 M_X6_seatingsAfterQuarrel (QI g 0 K) [.ref (gad g 16 0), .int a1, .int a2, .int a3, .int a4] σ := by
  unfold f_X6_seatingsAfterQuarrel at h
  refine Ct.of (L := [(0, .ref (gad g 16 0)), (1, .int a1), (2, .int a2), (3, .int a3), (4, .int a4)]) (show plainName RX6 = true by decide) (Nat.le_of_ble_eq_true rfl) rfl ?_
  refine AW.aload_n dX6_seatingsAfterQuarrel_0 0 rfl ?_
  refine AW.get (k := 0) (v := .ref (gad g 5 0)) (id0_16_0) rfl rfl inGX6 (Nat.le_of_ble_eq_true rfl) w_203 rfl dX6_seatingsAfterQuarrel_1 ?_
  refine AW.get (k := 0) (v := .ref (gad g 2 0)) (id0_5_0) rfl rfl inGX2 (Nat.le_of_ble_eq_true rfl) w_93 rfl dX6_seatingsAfterQuarrel_4 ?_
  refine AW.iload_n dX6_seatingsAfterQuarrel_7 3 rfl ?_
  refine AW.iload dX6_seatingsAfterQuarrel_8 4 rfl ?_
  refine AW.callVI [.int a3, .int a4] (C_X1_bondOf h) ok_X1_bondOf (id0_2_0) rfl rfl w_252 rfl (Nat.le_of_ble_eq_true rfl) (Nat.le_of_ble_eq_true rfl) rfl dX6_seatingsAfterQuarrel_10 (fun r2 σ1 h => ?_)
  refine AW.istore (L' := [(0, .ref (gad g 16 0)), (1, .int a1), (2, .int a2), (3, .int a3), (4, .int a4), (5, .int r2)]) dX6_seatingsAfterQuarrel_13 (Nat.le_of_ble_eq_true rfl) rfl ?_
  refine AW.aload_n dX6_seatingsAfterQuarrel_15 0 rfl ?_
  refine AW.get (k := 0) (v := .ref (gad g 5 0)) (id0_16_0) rfl rfl inGX6 (Nat.le_of_ble_eq_true rfl) w_203 rfl dX6_seatingsAfterQuarrel_16 ?_
  refine AW.get (k := 0) (v := .ref (gad g 2 0)) (id0_5_0) rfl rfl inGX2 (Nat.le_of_ble_eq_true rfl) w_93 rfl dX6_seatingsAfterQuarrel_19 ?_
  refine AW.iload_n dX6_seatingsAfterQuarrel_22 3 rfl ?_
  refine AW.iload dX6_seatingsAfterQuarrel_23 4 rfl ?_
  refine AW.iconst (v := (0 : Int32)) dX6_seatingsAfterQuarrel_25 rfl ?_
  refine AW.callVV [.int a3, .int a4, .int (0 : Int32)] (C_X1_tie h) ok_X1_tie (id0_2_0) rfl rfl w_256 rfl (Nat.le_of_ble_eq_true rfl) (Nat.le_of_ble_eq_true rfl) rfl dX6_seatingsAfterQuarrel_26 (fun σ3 h => ?_)
  refine AW.aload_n dX6_seatingsAfterQuarrel_29 0 rfl ?_
  refine AW.get (k := 5) (v := .ref (gad g 8 0)) (id0_16_0) rfl rfl inGX6 (Nat.le_of_ble_eq_true rfl) w_208 rfl dX6_seatingsAfterQuarrel_30 ?_
  refine AW.ldc (v := (1000000 : Int32)) dX6_seatingsAfterQuarrel_33 w_476 ?_
  refine AW.aload_n dX6_seatingsAfterQuarrel_35 0 rfl ?_
  refine AW.get (k := 0) (v := .ref (gad g 5 0)) (id0_16_0) rfl rfl inGX6 (Nat.le_of_ble_eq_true rfl) w_203 rfl dX6_seatingsAfterQuarrel_36 ?_
  refine AW.get (k := 1) (v := .ref (gad g 6 0)) (id0_5_0) rfl rfl inGX2 (Nat.le_of_ble_eq_true rfl) w_96 rfl dX6_seatingsAfterQuarrel_39 ?_
  refine AW.iload_n dX6_seatingsAfterQuarrel_42 1 rfl ?_
  obtain ⟨hq4, h⟩ := h
  obtain ⟨hv5, h⟩ := h
  refine AW.aald (a' := gad g 0 (5 * 0 + a1.toNatClampNeg)) (ty := 1) (id0_6_0) rfl rfl rfl hq4 dX6_seatingsAfterQuarrel_43 ?_
  refine AW.iload_n dX6_seatingsAfterQuarrel_44 2 rfl ?_
  refine AW.callVI [.int (1000000 : Int32), .ref (gad g 0 (5 * 0 + a1.toNatClampNeg)), .int a2] (C_X3_countUpTo h) ok_X3_countUpTo (id0_8_0) rfl rfl w_477 rfl (Nat.le_of_ble_eq_true rfl) (Nat.le_of_ble_eq_true rfl) rfl dX6_seatingsAfterQuarrel_45 (fun r7 σ6 h => ?_)
  refine AW.istore (L' := [(0, .ref (gad g 16 0)), (1, .int a1), (2, .int a2), (3, .int a3), (4, .int a4), (5, .int r2), (6, .int r7)]) dX6_seatingsAfterQuarrel_48 (Nat.le_of_ble_eq_true rfl) rfl ?_
  refine AW.aload_n dX6_seatingsAfterQuarrel_50 0 rfl ?_
  refine AW.get (k := 0) (v := .ref (gad g 5 0)) (id0_16_0) rfl rfl inGX6 (Nat.le_of_ble_eq_true rfl) w_203 rfl dX6_seatingsAfterQuarrel_51 ?_
  refine AW.get (k := 0) (v := .ref (gad g 2 0)) (id0_5_0) rfl rfl inGX2 (Nat.le_of_ble_eq_true rfl) w_93 rfl dX6_seatingsAfterQuarrel_54 ?_
  refine AW.iload_n dX6_seatingsAfterQuarrel_57 3 rfl ?_
  refine AW.iload dX6_seatingsAfterQuarrel_58 4 rfl ?_
  refine AW.iload dX6_seatingsAfterQuarrel_60 5 rfl ?_
  refine AW.callVV [.int a3, .int a4, .int r2] (C_X1_tie h) ok_X1_tie (id0_2_0) rfl rfl w_256 rfl (Nat.le_of_ble_eq_true rfl) (Nat.le_of_ble_eq_true rfl) rfl dX6_seatingsAfterQuarrel_62 (fun σ8 h => ?_)
  refine AW.iload dX6_seatingsAfterQuarrel_65 6 rfl ?_
  exact AW.iret rfl dX6_seatingsAfterQuarrel_67 h
theorem ok_X6_seatingsAfterQuarrel : OkV M_X6_seatingsAfterQuarrel 4 := ⟨w_551, wp_13, w_1, w_552, by decide +kernel, (Nat.le_of_ble_eq_true rfl)⟩
def M_X6_frees : MT := (yX6_frees, cX6_frees, 8, some .int, 31)
set_option maxRecDepth 100000 in
def f_X6_frees_58 (a1 : Int32) (a2 : Int32) (a5 : Int32) (K : Int32 → Mm → Prop) (k138 : Int32 → Int32 → Mm → Prop) : Nat → Int32 → Int32 → Int32 → Mm → Prop
  | 0, _, _, _, _ => False
  | n + 1, a3, a4, a6, σ => (if (8 : Int32) ≤ a6 then (k138 a3 a4 σ) else (f_X6_has a2 a5 σ (fun b12 σ11 => (if b12 = true then (f_X6_has a2 a6 σ11 (fun b14 σ13 => (if b14 = true then (f_X1_areFriends 0 a5 a6 σ13 (fun b16 σ15 => (if b16 = true then (f_X6_seatingsAfterQuarrel a1 a2 a5 a6 σ15 (fun r18 σ17 => (if r18 ≤ a4 then (f_X6_frees_58 a1 a2 a5 K k138 n a3 a4 (a6 + (1 : Int32)) σ17) else (f_X6_frees_58 a1 a2 a5 K k138 n (((10 : Int32) * a5) + a6) r18 (a6 + (1 : Int32)) σ17)))) else (f_X6_frees_58 a1 a2 a5 K k138 n a3 a4 (a6 + (1 : Int32)) σ15)))) else (f_X6_frees_58 a1 a2 a5 K k138 n a3 a4 (a6 + (1 : Int32)) σ13)))) else (f_X6_frees_58 a1 a2 a5 K k138 n a3 a4 (a6 + (1 : Int32)) σ11)))))
set_option maxRecDepth 100000 in
set_option maxHeartbeats 4000000 in
theorem T_X6_frees_58 {g : GG} {a1 : Int32} {a2 : Int32} {a5 : Int32} {K : Int32 → Mm → Prop} {k138 : Int32 → Int32 → Mm → Prop} (hk138 : ∀ (x3 : Int32) (x4 : Int32) (u : Mm), k138 x3 x4 u → AW g 0 M_X6_frees (QI g 0 K) 138 [(0, .ref (gad g 16 0)), (1, .int a1), (2, .int a2), (3, .int x3), (4, .int x4), (5, .int a5)] [] u) : ∀ (n : Nat) (a3 : Int32) (a4 : Int32) (a6 : Int32) (σ : Mm), f_X6_frees_58 a1 a2 a5 K k138 n a3 a4 a6 σ → AW g 0 M_X6_frees (QI g 0 K) 58 [(0, .ref (gad g 16 0)), (1, .int a1), (2, .int a2), (3, .int a3), (4, .int a4), (5, .int a5), (6, .int a6)] [] σ := by
  intro n
  induction n with
  | zero => intro a3 a4 a6 σ h; exact False.elim h
  | succ n ih =>
    intro a3 a4 a6 σ h
    rw [f_X6_frees_58] at h
    refine AW.iload dX6_frees_58 6 rfl ?_
    refine AW.bipush (v := (8 : Int32)) dX6_frees_60 rfl ?_
    refine AW.icmp_ge (tgt := 138) dX6_frees_62 rfl (fun c => ?_) (fun c => ?_)
    · replace h := ite_t c h
      refine AW.eqL [0, 1, 2, 3, 4, 5] rfl ?_
      exact hk138 _ _ _ h
    · replace h := ite_f c h
      refine AW.iload_n dX6_frees_65 2 rfl ?_
      refine AW.iload dX6_frees_66 5 rfl ?_
      refine AW.callSB [.int a2, .int a5] (C_X6_has h) ok_X6_has w_436 rfl (Nat.le_of_ble_eq_true rfl) (Nat.le_of_ble_eq_true rfl) rfl dX6_frees_68 (fun b12 σ11 h => ?_)
      refine AW.ifb_eq (tgt := 132) dX6_frees_71 rfl (fun c => ?_) (fun c => ?_)
      · replace h := ite_f c h
        refine AW.iinc (v := (a6 + (1 : Int32))) (L' := [(0, .ref (gad g 16 0)), (1, .int a1), (2, .int a2), (3, .int a3), (4, .int a4), (5, .int a5), (6, .int (a6 + (1 : Int32)))]) dX6_frees_132 6 rfl rfl (Nat.le_of_ble_eq_true rfl) rfl ?_
        refine AW.goto (tgt := 58) dX6_frees_135 rfl ?_
        exact ih _ _ _ _ h
      · replace h := ite_t c h
        refine AW.iload_n dX6_frees_74 2 rfl ?_
        refine AW.iload dX6_frees_75 6 rfl ?_
        refine AW.callSB [.int a2, .int a6] (C_X6_has h) ok_X6_has w_436 rfl (Nat.le_of_ble_eq_true rfl) (Nat.le_of_ble_eq_true rfl) rfl dX6_frees_77 (fun b14 σ13 h => ?_)
        refine AW.ifb_eq (tgt := 132) dX6_frees_80 rfl (fun c => ?_) (fun c => ?_)
        · replace h := ite_f c h
          refine AW.iinc (v := (a6 + (1 : Int32))) (L' := [(0, .ref (gad g 16 0)), (1, .int a1), (2, .int a2), (3, .int a3), (4, .int a4), (5, .int a5), (6, .int (a6 + (1 : Int32)))]) dX6_frees_132 6 rfl rfl (Nat.le_of_ble_eq_true rfl) rfl ?_
          refine AW.goto (tgt := 58) dX6_frees_135 rfl ?_
          exact ih _ _ _ _ h
        · replace h := ite_t c h
          refine AW.aload_n dX6_frees_83 0 rfl ?_
          refine AW.get (k := 0) (v := .ref (gad g 5 0)) (id0_16_0) rfl rfl inGX6 (Nat.le_of_ble_eq_true rfl) w_203 rfl dX6_frees_84 ?_
          refine AW.get (k := 0) (v := .ref (gad g 2 0)) (id0_5_0) rfl rfl inGX2 (Nat.le_of_ble_eq_true rfl) w_93 rfl dX6_frees_87 ?_
          refine AW.iload dX6_frees_90 5 rfl ?_
          refine AW.iload dX6_frees_92 6 rfl ?_
          refine AW.callVB [.int a5, .int a6] (C_X1_areFriends h) ok_X1_areFriends (id0_2_0) rfl rfl w_548 rfl (Nat.le_of_ble_eq_true rfl) (Nat.le_of_ble_eq_true rfl) rfl dX6_frees_94 (fun b16 σ15 h => ?_)
          refine AW.ifb_eq (tgt := 132) dX6_frees_97 rfl (fun c => ?_) (fun c => ?_)
          · replace h := ite_f c h
            refine AW.iinc (v := (a6 + (1 : Int32))) (L' := [(0, .ref (gad g 16 0)), (1, .int a1), (2, .int a2), (3, .int a3), (4, .int a4), (5, .int a5), (6, .int (a6 + (1 : Int32)))]) dX6_frees_132 6 rfl rfl (Nat.le_of_ble_eq_true rfl) rfl ?_
            refine AW.goto (tgt := 58) dX6_frees_135 rfl ?_
            exact ih _ _ _ _ h
          · replace h := ite_t c h
            refine AW.aload_n dX6_frees_100 0 rfl ?_
            refine AW.iload_n dX6_frees_101 1 rfl ?_
            refine AW.iload_n dX6_frees_102 2 rfl ?_
            refine AW.iload dX6_frees_103 5 rfl ?_
            refine AW.iload dX6_frees_105 6 rfl ?_
            refine AW.callVI [.int a1, .int a2, .int a5, .int a6] (C_X6_seatingsAfterQuarrel h) ok_X6_seatingsAfterQuarrel (id0_16_0) rfl rfl w_549 rfl (Nat.le_of_ble_eq_true rfl) (Nat.le_of_ble_eq_true rfl) rfl dX6_frees_107 (fun r18 σ17 h => ?_)
            refine AW.istore (L' := [(0, .ref (gad g 16 0)), (1, .int a1), (2, .int a2), (3, .int a3), (4, .int a4), (5, .int a5), (6, .int a6), (7, .int r18)]) dX6_frees_110 (Nat.le_of_ble_eq_true rfl) rfl ?_
            refine AW.iload dX6_frees_112 7 rfl ?_
            refine AW.iload dX6_frees_114 4 rfl ?_
            refine AW.icmp_le (tgt := 132) dX6_frees_116 rfl (fun c => ?_) (fun c => ?_)
            · replace h := ite_t c h
              refine AW.iinc (v := (a6 + (1 : Int32))) (L' := [(0, .ref (gad g 16 0)), (1, .int a1), (2, .int a2), (3, .int a3), (4, .int a4), (5, .int a5), (6, .int (a6 + (1 : Int32))), (7, .int r18)]) dX6_frees_132 6 rfl rfl (Nat.le_of_ble_eq_true rfl) rfl ?_
              refine AW.goto (tgt := 58) dX6_frees_135 rfl ?_
              refine AW.eqL [0, 1, 2, 3, 4, 5, 6] rfl ?_
              exact ih _ _ _ _ h
            · replace h := ite_f c h
              refine AW.bipush (v := (10 : Int32)) dX6_frees_119 rfl ?_
              refine AW.iload dX6_frees_121 5 rfl ?_
              refine AW.imul dX6_frees_123 ?_
              refine AW.iload dX6_frees_124 6 rfl ?_
              refine AW.iadd dX6_frees_126 ?_
              refine AW.istore_n (L' := [(0, .ref (gad g 16 0)), (1, .int a1), (2, .int a2), (3, .int (((10 : Int32) * a5) + a6)), (4, .int a4), (5, .int a5), (6, .int a6), (7, .int r18)]) dX6_frees_127 (Nat.le_of_ble_eq_true rfl) rfl ?_
              refine AW.iload dX6_frees_128 7 rfl ?_
              refine AW.istore (L' := [(0, .ref (gad g 16 0)), (1, .int a1), (2, .int a2), (3, .int (((10 : Int32) * a5) + a6)), (4, .int r18), (5, .int a5), (6, .int a6), (7, .int r18)]) dX6_frees_130 (Nat.le_of_ble_eq_true rfl) rfl ?_
              refine AW.iinc (v := (a6 + (1 : Int32))) (L' := [(0, .ref (gad g 16 0)), (1, .int a1), (2, .int a2), (3, .int (((10 : Int32) * a5) + a6)), (4, .int r18), (5, .int a5), (6, .int (a6 + (1 : Int32))), (7, .int r18)]) dX6_frees_132 6 rfl rfl (Nat.le_of_ble_eq_true rfl) rfl ?_
              refine AW.goto (tgt := 58) dX6_frees_135 rfl ?_
              refine AW.eqL [0, 1, 2, 3, 4, 5, 6] rfl ?_
              exact ih _ _ _ _ h
set_option maxRecDepth 100000 in
def f_X6_frees_45 (a1 : Int32) (a2 : Int32) (K : Int32 → Mm → Prop) : Nat → Int32 → Int32 → Int32 → Mm → Prop
  | 0, _, _, _, _ => False
  | n + 1, a3, a4, a5, σ => (if (8 : Int32) ≤ a5 then (if a3 = (-1 : Int32) then (f_X6_finding (3 : Int32) σ (fun r10 σ9 => (K r10 σ9))) else (K a3 σ)) else (∃ m, f_X6_frees_58 a1 a2 a5 K (fun a3x19 a4x19 σ19 => (f_X6_frees_45 a1 a2 K n a3x19 a4x19 (a5 + (1 : Int32)) σ19)) m a3 a4 (a5 + (1 : Int32)) σ))
set_option maxRecDepth 100000 in
set_option maxHeartbeats 4000000 in
theorem T_X6_frees_45 {g : GG} {a1 : Int32} {a2 : Int32} {K : Int32 → Mm → Prop} : ∀ (n : Nat) (a3 : Int32) (a4 : Int32) (a5 : Int32) (σ : Mm), f_X6_frees_45 a1 a2 K n a3 a4 a5 σ → AW g 0 M_X6_frees (QI g 0 K) 45 [(0, .ref (gad g 16 0)), (1, .int a1), (2, .int a2), (3, .int a3), (4, .int a4), (5, .int a5)] [] σ := by
  intro n
  induction n with
  | zero => intro a3 a4 a5 σ h; exact False.elim h
  | succ n ih =>
    intro a3 a4 a5 σ h
    rw [f_X6_frees_45] at h
    refine AW.iload dX6_frees_45 5 rfl ?_
    refine AW.bipush (v := (8 : Int32)) dX6_frees_47 rfl ?_
    refine AW.icmp_ge (tgt := 144) dX6_frees_49 rfl (fun c => ?_) (fun c => ?_)
    · replace h := ite_t c h
      refine AW.iload_n dX6_frees_144 3 rfl ?_
      refine AW.iconst (v := (-1 : Int32)) dX6_frees_145 rfl ?_
      refine AW.icmp_ne (tgt := 157) dX6_frees_146 rfl (fun c => ?_) (fun c => ?_)
      · replace h := ite_f c h
        refine AW.iload_n dX6_frees_157 3 rfl ?_
        exact AW.iret rfl dX6_frees_158 h
      · replace h := ite_t c h
        refine AW.aload_n dX6_frees_149 0 rfl ?_
        refine AW.iconst (v := (3 : Int32)) dX6_frees_150 rfl ?_
        refine AW.callVI [.int (3 : Int32)] (C_X6_finding h) ok_X6_finding (id0_16_0) rfl rfl w_247 rfl (Nat.le_of_ble_eq_true rfl) (Nat.le_of_ble_eq_true rfl) rfl dX6_frees_151 (fun r10 σ9 h => ?_)
        refine AW.goto (tgt := 158) dX6_frees_154 rfl ?_
        exact AW.iret rfl dX6_frees_158 h
    · replace h := ite_f c h
      refine AW.iload dX6_frees_52 5 rfl ?_
      refine AW.iconst (v := (1 : Int32)) dX6_frees_54 rfl ?_
      refine AW.iadd dX6_frees_55 ?_
      refine AW.istore (L' := [(0, .ref (gad g 16 0)), (1, .int a1), (2, .int a2), (3, .int a3), (4, .int a4), (5, .int a5), (6, .int (a5 + (1 : Int32)))]) dX6_frees_56 (Nat.le_of_ble_eq_true rfl) rfl ?_
      obtain ⟨m, h⟩ := h
      refine T_X6_frees_58 (fun a3x19 a4x19 σ19 h => ?_) m _ _ _ _ h
      refine AW.iinc (v := (a5 + (1 : Int32))) (L' := [(0, .ref (gad g 16 0)), (1, .int a1), (2, .int a2), (3, .int a3x19), (4, .int a4x19), (5, .int (a5 + (1 : Int32)))]) dX6_frees_138 5 rfl rfl (Nat.le_of_ble_eq_true rfl) rfl ?_
      refine AW.goto (tgt := 45) dX6_frees_141 rfl ?_
      exact ih _ _ _ _ h
def f_X6_frees (a1 : Int32) (a2 : Int32) (σ : Mm) (K : Int32 → Mm → Prop) : Prop := (f_X6_isBench a1 σ (fun b2 σ1 => (if b2 = true then (f_X6_isSet a2 σ1 (fun b6 σ5 => (if b6 = true then (f_X6_fitsOn a1 a2 σ5 (fun b8 σ7 => (if b8 = true then (∃ m, f_X6_frees_45 a1 a2 K m (-1 : Int32) (-1 : Int32) (0 : Int32) σ7) else (f_X6_finding (6 : Int32) σ7 (fun r21 σ20 => (K r21 σ20)))))) else (f_X6_finding (0 : Int32) σ5 (fun r23 σ22 => (K r23 σ22)))))) else (f_X6_finding (0 : Int32) σ1 (fun r4 σ3 => (K r4 σ3))))))
set_option maxRecDepth 100000 in
set_option maxHeartbeats 4000000 in
theorem C_X6_frees {g : GG} {a1 : Int32} {a2 : Int32} {σ : Mm} {K : Int32 → Mm → Prop} (h : f_X6_frees a1 a2 σ K) : Ct g 0 M_X6_frees (QI g 0 K) [.ref (gad g 16 0), .int a1, .int a2] σ := by
  unfold f_X6_frees at h
  refine Ct.of (L := [(0, .ref (gad g 16 0)), (1, .int a1), (2, .int a2)]) (show plainName RX6 = true by decide) (Nat.le_of_ble_eq_true rfl) rfl ?_
  refine AW.aload_n dX6_frees_0 0 rfl ?_
  refine AW.iload_n dX6_frees_1 1 rfl ?_
  refine AW.callVB [.int a1] (C_X6_isBench h) ok_X6_isBench (id0_16_0) rfl rfl w_308 rfl (Nat.le_of_ble_eq_true rfl) (Nat.le_of_ble_eq_true rfl) rfl dX6_frees_2 (fun b2 σ1 h => ?_)
  refine AW.ifb_eq (tgt := 15) dX6_frees_5 rfl (fun c => ?_) (fun c => ?_)
  · replace h := ite_f c h
    refine AW.aload_n dX6_frees_15 0 rfl ?_
    refine AW.iconst (v := (0 : Int32)) dX6_frees_16 rfl ?_
    refine AW.callVI [.int (0 : Int32)] (C_X6_finding h) ok_X6_finding (id0_16_0) rfl rfl w_247 rfl (Nat.le_of_ble_eq_true rfl) (Nat.le_of_ble_eq_true rfl) rfl dX6_frees_17 (fun r4 σ3 h => ?_)
    exact AW.iret rfl dX6_frees_20 h
  · replace h := ite_t c h
    refine AW.iload_n dX6_frees_8 2 rfl ?_
    refine AW.callSB [.int a2] (C_X6_isSet h) ok_X6_isSet w_463 rfl (Nat.le_of_ble_eq_true rfl) (Nat.le_of_ble_eq_true rfl) rfl dX6_frees_9 (fun b6 σ5 h => ?_)
    refine AW.ifb_ne (tgt := 21) dX6_frees_12 rfl (fun c => ?_) (fun c => ?_)
    · replace h := ite_t c h
      refine AW.aload_n dX6_frees_21 0 rfl ?_
      refine AW.iload_n dX6_frees_22 1 rfl ?_
      refine AW.iload_n dX6_frees_23 2 rfl ?_
      refine AW.callVB [.int a1, .int a2] (C_X6_fitsOn h) ok_X6_fitsOn (id0_16_0) rfl rfl w_466 rfl (Nat.le_of_ble_eq_true rfl) (Nat.le_of_ble_eq_true rfl) rfl dX6_frees_24 (fun b8 σ7 h => ?_)
      refine AW.ifb_ne (tgt := 37) dX6_frees_27 rfl (fun c => ?_) (fun c => ?_)
      · replace h := ite_t c h
        refine AW.iconst (v := (-1 : Int32)) dX6_frees_37 rfl ?_
        refine AW.istore_n (L' := [(0, .ref (gad g 16 0)), (1, .int a1), (2, .int a2), (3, .int (-1 : Int32))]) dX6_frees_38 (Nat.le_of_ble_eq_true rfl) rfl ?_
        refine AW.iconst (v := (-1 : Int32)) dX6_frees_39 rfl ?_
        refine AW.istore (L' := [(0, .ref (gad g 16 0)), (1, .int a1), (2, .int a2), (3, .int (-1 : Int32)), (4, .int (-1 : Int32))]) dX6_frees_40 (Nat.le_of_ble_eq_true rfl) rfl ?_
        refine AW.iconst (v := (0 : Int32)) dX6_frees_42 rfl ?_
        refine AW.istore (L' := [(0, .ref (gad g 16 0)), (1, .int a1), (2, .int a2), (3, .int (-1 : Int32)), (4, .int (-1 : Int32)), (5, .int (0 : Int32))]) dX6_frees_43 (Nat.le_of_ble_eq_true rfl) rfl ?_
        obtain ⟨m, h⟩ := h
        refine T_X6_frees_45 m _ _ _ _ h
      · replace h := ite_f c h
        refine AW.aload_n dX6_frees_30 0 rfl ?_
        refine AW.bipush (v := (6 : Int32)) dX6_frees_31 rfl ?_
        refine AW.callVI [.int (6 : Int32)] (C_X6_finding h) ok_X6_finding (id0_16_0) rfl rfl w_247 rfl (Nat.le_of_ble_eq_true rfl) (Nat.le_of_ble_eq_true rfl) rfl dX6_frees_33 (fun r21 σ20 h => ?_)
        exact AW.iret rfl dX6_frees_36 h
    · replace h := ite_f c h
      refine AW.aload_n dX6_frees_15 0 rfl ?_
      refine AW.iconst (v := (0 : Int32)) dX6_frees_16 rfl ?_
      refine AW.callVI [.int (0 : Int32)] (C_X6_finding h) ok_X6_finding (id0_16_0) rfl rfl w_247 rfl (Nat.le_of_ble_eq_true rfl) (Nat.le_of_ble_eq_true rfl) rfl dX6_frees_17 (fun r23 σ22 h => ?_)
      exact AW.iret rfl dX6_frees_20 h
theorem ok_X6_frees : OkV M_X6_frees 2 := ⟨w_545, w_546, w_1, w_547, by decide +kernel, (Nat.le_of_ble_eq_true rfl)⟩
def M_X3_countWith : MT := (yX3_countWith, cX3_countWith, 6, some .int, 30)
def f_X3_countWith (a1 : Int32) (a2 : Int32) (i3 : Nat) (a4 : Int32) (σ : Mm) (K : Int32 → Mm → Prop) : Prop := (i3 < 17 ∧ (∃ σ1, σ1 = mset σ 8 0 7 a1 ∧ (∃ σ2, σ2 = mset σ1 8 0 8 a2 ∧ (f_X3_countUpTo (1000000 : Int32) i3 a4 σ2 (fun r4 σ3 => (∃ σ5, σ5 = mset σ3 8 0 8 (-1 : Int32) ∧ (K r4 σ5)))))))
set_option maxRecDepth 100000 in
set_option maxHeartbeats 4000000 in
theorem C_X3_countWith {g : GG} {a1 : Int32} {a2 : Int32} {i3 : Nat} {a4 : Int32} {σ : Mm} {K : Int32 → Mm → Prop} (h : f_X3_countWith a1 a2 i3 a4 σ K) : Ct g 0 M_X3_countWith (QI g 0 K) [.ref (gad g 8 0), .int a1, .int a2, .ref (gad g 0 i3), .int a4] σ := by
  unfold f_X3_countWith at h
  obtain ⟨hi3, h⟩ := h
  refine Ct.of (L := [(0, .ref (gad g 8 0)), (1, .int a1), (2, .int a2), (3, .ref (gad g 0 i3)), (4, .int a4)]) (show plainName RX3 = true by decide) (Nat.le_of_ble_eq_true rfl) rfl ?_
  refine AW.aload_n dX3_countWith_0 0 rfl ?_
  refine AW.iload_n dX3_countWith_1 1 rfl ?_
  refine AW.put (k := 7) (w := a1) (id0_8_0) rfl rfl inGX3 tyX3_ok nmX3 (Nat.le_of_ble_eq_true rfl) w_134 rfl rfl rfl rfl (Nat.le_of_ble_eq_true rfl) rfl dX3_countWith_2 ?_
  obtain ⟨σ1, eσ1, h⟩ := h
  rw [← eσ1]
  refine AW.aload_n dX3_countWith_5 0 rfl ?_
  refine AW.iload_n dX3_countWith_6 2 rfl ?_
  refine AW.put (k := 8) (w := a2) (id0_8_0) rfl rfl inGX3 tyX3_ok nmX3 (Nat.le_of_ble_eq_true rfl) w_135 rfl rfl rfl rfl (Nat.le_of_ble_eq_true rfl) rfl dX3_countWith_7 ?_
  obtain ⟨σ2, eσ2, h⟩ := h
  rw [← eσ2]
  refine AW.aload_n dX3_countWith_10 0 rfl ?_
  refine AW.ldc (v := (1000000 : Int32)) dX3_countWith_11 w_498 ?_
  refine AW.aload_n dX3_countWith_13 3 rfl ?_
  refine AW.iload dX3_countWith_14 4 rfl ?_
  refine AW.callVI [.int (1000000 : Int32), .ref (gad g 0 i3), .int a4] (C_X3_countUpTo h) ok_X3_countUpTo (id0_8_0) rfl rfl w_533 rfl (Nat.le_of_ble_eq_true rfl) (Nat.le_of_ble_eq_true rfl) rfl dX3_countWith_16 (fun r4 σ3 h => ?_)
  refine AW.istore (L' := [(0, .ref (gad g 8 0)), (1, .int a1), (2, .int a2), (3, .ref (gad g 0 i3)), (4, .int a4), (5, .int r4)]) dX3_countWith_19 (Nat.le_of_ble_eq_true rfl) rfl ?_
  refine AW.aload_n dX3_countWith_21 0 rfl ?_
  refine AW.iconst (v := (-1 : Int32)) dX3_countWith_22 rfl ?_
  refine AW.put (k := 8) (w := (-1 : Int32)) (id0_8_0) rfl rfl inGX3 tyX3_ok nmX3 (Nat.le_of_ble_eq_true rfl) w_135 rfl rfl rfl rfl (Nat.le_of_ble_eq_true rfl) rfl dX3_countWith_23 ?_
  obtain ⟨σ5, eσ5, h⟩ := h
  rw [← eσ5]
  refine AW.iload dX3_countWith_26 5 rfl ?_
  exact AW.iret rfl dX3_countWith_28 h
theorem ok_X3_countWith : OkV M_X3_countWith 4 := ⟨w_558, w_559, w_6, w_560, by decide +kernel, (Nat.le_of_ble_eq_true rfl)⟩
def M_X6_often : MT := (yX6_often, cX6_often, 5, some .int, 31)
def f_X6_often (a1 : Int32) (a2 : Int32) (a3 : Int32) (a4 : Int32) (σ : Mm) (K : Int32 → Mm → Prop) : Prop := (f_X6_isSeat a1 a4 σ (fun b2 σ1 => (if b2 = true then (f_X6_isSet a2 σ1 (fun b6 σ5 => (if b6 = true then (f_X6_isPerson a3 σ5 (fun b10 σ9 => (if b10 = true then (f_X6_has a2 a3 σ9 (fun b14 σ13 => (if b14 = true then (f_X6_fitsOn a1 a2 σ13 (fun b16 σ15 => (if b16 = true then (vp_in a1 5 ∧ ((5 * 0 + a1.toNatClampNeg) < 17 ∧ (f_X3_countWith a3 a4 (5 * 0 + a1.toNatClampNeg) a2 σ15 (fun r20 σ19 => (K r20 σ19))))) else (f_X6_finding (6 : Int32) σ15 (fun r22 σ21 => (K r22 σ21)))))) else (f_X6_finding (0 : Int32) σ13 (fun r24 σ23 => (K r24 σ23)))))) else (f_X6_finding (0 : Int32) σ9 (fun r12 σ11 => (K r12 σ11)))))) else (f_X6_finding (0 : Int32) σ5 (fun r8 σ7 => (K r8 σ7)))))) else (f_X6_finding (0 : Int32) σ1 (fun r4 σ3 => (K r4 σ3))))))
set_option maxRecDepth 100000 in
set_option maxHeartbeats 4000000 in
theorem C_X6_often {g : GG} {a1 : Int32} {a2 : Int32} {a3 : Int32} {a4 : Int32} {σ : Mm} {K : Int32 → Mm → Prop} (h : f_X6_often a1 a2 a3 a4 σ K) : Ct g 0 M_X6_often (QI g 0 K) [.ref (gad g 16 0), .int a1, .int a2, .int a3, .int a4] σ := by
  unfold f_X6_often at h
  refine Ct.of (L := [(0, .ref (gad g 16 0)), (1, .int a1), (2, .int a2), (3, .int a3), (4, .int a4)]) (show plainName RX6 = true by decide) (Nat.le_of_ble_eq_true rfl) rfl ?_
  refine AW.aload_n dX6_often_0 0 rfl ?_
  refine AW.iload_n dX6_often_1 1 rfl ?_
  refine AW.iload dX6_often_2 4 rfl ?_
  refine AW.callVB [.int a1, .int a4] (C_X6_isSeat h) ok_X6_isSeat (id0_16_0) rfl rfl w_357 rfl (Nat.le_of_ble_eq_true rfl) (Nat.le_of_ble_eq_true rfl) rfl dX6_often_4 (fun b2 σ1 h => ?_)
  refine AW.ifb_eq (tgt := 32) dX6_often_7 rfl (fun c => ?_) (fun c => ?_)
  · replace h := ite_f c h
    refine AW.aload_n dX6_often_32 0 rfl ?_
    refine AW.iconst (v := (0 : Int32)) dX6_often_33 rfl ?_
    refine AW.callVI [.int (0 : Int32)] (C_X6_finding h) ok_X6_finding (id0_16_0) rfl rfl w_247 rfl (Nat.le_of_ble_eq_true rfl) (Nat.le_of_ble_eq_true rfl) rfl dX6_often_34 (fun r4 σ3 h => ?_)
    exact AW.iret rfl dX6_often_37 h
  · replace h := ite_t c h
    refine AW.iload_n dX6_often_10 2 rfl ?_
    refine AW.callSB [.int a2] (C_X6_isSet h) ok_X6_isSet w_463 rfl (Nat.le_of_ble_eq_true rfl) (Nat.le_of_ble_eq_true rfl) rfl dX6_often_11 (fun b6 σ5 h => ?_)
    refine AW.ifb_eq (tgt := 32) dX6_often_14 rfl (fun c => ?_) (fun c => ?_)
    · replace h := ite_f c h
      refine AW.aload_n dX6_often_32 0 rfl ?_
      refine AW.iconst (v := (0 : Int32)) dX6_often_33 rfl ?_
      refine AW.callVI [.int (0 : Int32)] (C_X6_finding h) ok_X6_finding (id0_16_0) rfl rfl w_247 rfl (Nat.le_of_ble_eq_true rfl) (Nat.le_of_ble_eq_true rfl) rfl dX6_often_34 (fun r8 σ7 h => ?_)
      exact AW.iret rfl dX6_often_37 h
    · replace h := ite_t c h
      refine AW.iload_n dX6_often_17 3 rfl ?_
      refine AW.callSB [.int a3] (C_X6_isPerson h) ok_X6_isPerson w_244 rfl (Nat.le_of_ble_eq_true rfl) (Nat.le_of_ble_eq_true rfl) rfl dX6_often_18 (fun b10 σ9 h => ?_)
      refine AW.ifb_eq (tgt := 32) dX6_often_21 rfl (fun c => ?_) (fun c => ?_)
      · replace h := ite_f c h
        refine AW.aload_n dX6_often_32 0 rfl ?_
        refine AW.iconst (v := (0 : Int32)) dX6_often_33 rfl ?_
        refine AW.callVI [.int (0 : Int32)] (C_X6_finding h) ok_X6_finding (id0_16_0) rfl rfl w_247 rfl (Nat.le_of_ble_eq_true rfl) (Nat.le_of_ble_eq_true rfl) rfl dX6_often_34 (fun r12 σ11 h => ?_)
        exact AW.iret rfl dX6_often_37 h
      · replace h := ite_t c h
        refine AW.iload_n dX6_often_24 2 rfl ?_
        refine AW.iload_n dX6_often_25 3 rfl ?_
        refine AW.callSB [.int a2, .int a3] (C_X6_has h) ok_X6_has w_436 rfl (Nat.le_of_ble_eq_true rfl) (Nat.le_of_ble_eq_true rfl) rfl dX6_often_26 (fun b14 σ13 h => ?_)
        refine AW.ifb_ne (tgt := 38) dX6_often_29 rfl (fun c => ?_) (fun c => ?_)
        · replace h := ite_t c h
          refine AW.aload_n dX6_often_38 0 rfl ?_
          refine AW.iload_n dX6_often_39 1 rfl ?_
          refine AW.iload_n dX6_often_40 2 rfl ?_
          refine AW.callVB [.int a1, .int a2] (C_X6_fitsOn h) ok_X6_fitsOn (id0_16_0) rfl rfl w_466 rfl (Nat.le_of_ble_eq_true rfl) (Nat.le_of_ble_eq_true rfl) rfl dX6_often_41 (fun b16 σ15 h => ?_)
          refine AW.ifb_ne (tgt := 54) dX6_often_44 rfl (fun c => ?_) (fun c => ?_)
          · replace h := ite_t c h
            refine AW.aload_n dX6_often_54 0 rfl ?_
            refine AW.get (k := 5) (v := .ref (gad g 8 0)) (id0_16_0) rfl rfl inGX6 (Nat.le_of_ble_eq_true rfl) w_208 rfl dX6_often_55 ?_
            refine AW.iload_n dX6_often_58 3 rfl ?_
            refine AW.iload dX6_often_59 4 rfl ?_
            refine AW.aload_n dX6_often_61 0 rfl ?_
            refine AW.get (k := 0) (v := .ref (gad g 5 0)) (id0_16_0) rfl rfl inGX6 (Nat.le_of_ble_eq_true rfl) w_203 rfl dX6_often_62 ?_
            refine AW.get (k := 1) (v := .ref (gad g 6 0)) (id0_5_0) rfl rfl inGX2 (Nat.le_of_ble_eq_true rfl) w_96 rfl dX6_often_65 ?_
            refine AW.iload_n dX6_often_68 1 rfl ?_
            obtain ⟨hq17, h⟩ := h
            obtain ⟨hv18, h⟩ := h
            refine AW.aald (a' := gad g 0 (5 * 0 + a1.toNatClampNeg)) (ty := 1) (id0_6_0) rfl rfl rfl hq17 dX6_often_69 ?_
            refine AW.iload_n dX6_often_70 2 rfl ?_
            refine AW.callVI [.int a3, .int a4, .ref (gad g 0 (5 * 0 + a1.toNatClampNeg)), .int a2] (C_X3_countWith h) ok_X3_countWith (id0_8_0) rfl rfl w_557 rfl (Nat.le_of_ble_eq_true rfl) (Nat.le_of_ble_eq_true rfl) rfl dX6_often_71 (fun r20 σ19 h => ?_)
            exact AW.iret rfl dX6_often_74 h
          · replace h := ite_f c h
            refine AW.aload_n dX6_often_47 0 rfl ?_
            refine AW.bipush (v := (6 : Int32)) dX6_often_48 rfl ?_
            refine AW.callVI [.int (6 : Int32)] (C_X6_finding h) ok_X6_finding (id0_16_0) rfl rfl w_247 rfl (Nat.le_of_ble_eq_true rfl) (Nat.le_of_ble_eq_true rfl) rfl dX6_often_50 (fun r22 σ21 h => ?_)
            exact AW.iret rfl dX6_often_53 h
        · replace h := ite_f c h
          refine AW.aload_n dX6_often_32 0 rfl ?_
          refine AW.iconst (v := (0 : Int32)) dX6_often_33 rfl ?_
          refine AW.callVI [.int (0 : Int32)] (C_X6_finding h) ok_X6_finding (id0_16_0) rfl rfl w_247 rfl (Nat.le_of_ble_eq_true rfl) (Nat.le_of_ble_eq_true rfl) rfl dX6_often_34 (fun r24 σ23 h => ?_)
          exact AW.iret rfl dX6_often_37 h
theorem ok_X6_often : OkV M_X6_often 4 := ⟨w_554, w_555, w_1, w_556, by decide +kernel, (Nat.le_of_ble_eq_true rfl)⟩
def M_X6_needs : MT := (yX6_needs, cX6_needs, 4, some .int, 31)
set_option maxRecDepth 100000 in
def f_X6_needs_39 (a1 : Int32) (a2 : Int32) (K : Int32 → Mm → Prop) : Nat → Int32 → Mm → Prop
  | 0, _, _ => False
  | n + 1, a3, σ => (if (8 : Int32) < a3 then (f_X6_finding (3 : Int32) σ (fun r10 σ9 => (K r10 σ9))) else (vp_in a1 5 ∧ ((5 * 0 + a1.toNatClampNeg) < 17 ∧ (f_X0_clear 15 (σ 0 (5 * 0 + a1.toNatClampNeg) 0) a3 σ (fun σ13 => (f_X3_finds (0 : Int32) 15 a2 σ13 (fun b15 σ14 => (if b15 = true then (K a3 σ14) else (f_X6_needs_39 a1 a2 K n (a3 + (1 : Int32)) σ14)))))))))
set_option maxRecDepth 100000 in
set_option maxHeartbeats 4000000 in
theorem T_X6_needs_39 {g : GG} {a1 : Int32} {a2 : Int32} {K : Int32 → Mm → Prop} : ∀ (n : Nat) (a3 : Int32) (σ : Mm), f_X6_needs_39 a1 a2 K n a3 σ → AW g 0 M_X6_needs (QI g 0 K) 39 [(0, .ref (gad g 16 0)), (1, .int a1), (2, .int a2), (3, .int a3)] [] σ := by
  intro n
  induction n with
  | zero => intro a3 σ h; exact False.elim h
  | succ n ih =>
    intro a3 σ h
    rw [f_X6_needs_39] at h
    refine AW.iload_n dX6_needs_39 3 rfl ?_
    refine AW.bipush (v := (8 : Int32)) dX6_needs_40 rfl ?_
    refine AW.icmp_gt (tgt := 89) dX6_needs_42 rfl (fun c => ?_) (fun c => ?_)
    · replace h := ite_t c h
      refine AW.aload_n dX6_needs_89 0 rfl ?_
      refine AW.iconst (v := (3 : Int32)) dX6_needs_90 rfl ?_
      refine AW.callVI [.int (3 : Int32)] (C_X6_finding h) ok_X6_finding (id0_16_0) rfl rfl w_247 rfl (Nat.le_of_ble_eq_true rfl) (Nat.le_of_ble_eq_true rfl) rfl dX6_needs_91 (fun r10 σ9 h => ?_)
      exact AW.iret rfl dX6_needs_94 h
    · replace h := ite_f c h
      refine AW.aload_n dX6_needs_45 0 rfl ?_
      refine AW.get (k := 4) (v := .ref (gad g 0 15)) (id0_16_0) rfl rfl inGX6 (Nat.le_of_ble_eq_true rfl) w_207 rfl dX6_needs_46 ?_
      refine AW.aload_n dX6_needs_49 0 rfl ?_
      refine AW.get (k := 0) (v := .ref (gad g 5 0)) (id0_16_0) rfl rfl inGX6 (Nat.le_of_ble_eq_true rfl) w_203 rfl dX6_needs_50 ?_
      refine AW.get (k := 1) (v := .ref (gad g 6 0)) (id0_5_0) rfl rfl inGX2 (Nat.le_of_ble_eq_true rfl) w_96 rfl dX6_needs_53 ?_
      refine AW.iload_n dX6_needs_56 1 rfl ?_
      obtain ⟨hq11, h⟩ := h
      obtain ⟨hv12, h⟩ := h
      refine AW.aald (a' := gad g 0 (5 * 0 + a1.toNatClampNeg)) (ty := 1) (id0_6_0) rfl rfl rfl hq11 dX6_needs_57 ?_
      refine AW.get (k := 0) (v := .int (σ 0 (5 * 0 + a1.toNatClampNeg) 0)) (ids_in (Nat.le_of_ble_eq_true rfl) hv12) rfl rfl inGX0 (Nat.le_of_ble_eq_true rfl) w_70 rfl dX6_needs_58 ?_
      refine AW.iload_n dX6_needs_61 3 rfl ?_
      refine AW.callVV [.int (σ 0 (5 * 0 + a1.toNatClampNeg) 0), .int a3] (C_X0_clear h) ok_X0_clear (id0_0_15) rfl rfl w_565 rfl (Nat.le_of_ble_eq_true rfl) (Nat.le_of_ble_eq_true rfl) rfl dX6_needs_62 (fun σ13 h => ?_)
      refine AW.aload_n dX6_needs_65 0 rfl ?_
      refine AW.get (k := 5) (v := .ref (gad g 8 0)) (id0_16_0) rfl rfl inGX6 (Nat.le_of_ble_eq_true rfl) w_208 rfl dX6_needs_66 ?_
      refine AW.iconst (v := (0 : Int32)) dX6_needs_69 rfl ?_
      refine AW.aload_n dX6_needs_70 0 rfl ?_
      refine AW.get (k := 4) (v := .ref (gad g 0 15)) (id0_16_0) rfl rfl inGX6 (Nat.le_of_ble_eq_true rfl) w_207 rfl dX6_needs_71 ?_
      refine AW.iload_n dX6_needs_74 2 rfl ?_
      refine AW.callVB [.int (0 : Int32), .ref (gad g 0 15), .int a2] (C_X3_finds h) ok_X3_finds (id0_8_0) rfl rfl w_529 rfl (Nat.le_of_ble_eq_true rfl) (Nat.le_of_ble_eq_true rfl) rfl dX6_needs_75 (fun b15 σ14 h => ?_)
      refine AW.ifb_eq (tgt := 83) dX6_needs_78 rfl (fun c => ?_) (fun c => ?_)
      · replace h := ite_f c h
        refine AW.iinc (v := (a3 + (1 : Int32))) (L' := [(0, .ref (gad g 16 0)), (1, .int a1), (2, .int a2), (3, .int (a3 + (1 : Int32)))]) dX6_needs_83 3 rfl rfl (Nat.le_of_ble_eq_true rfl) rfl ?_
        refine AW.goto (tgt := 39) dX6_needs_86 rfl ?_
        exact ih _ _ h
      · replace h := ite_t c h
        refine AW.iload_n dX6_needs_81 3 rfl ?_
        exact AW.iret rfl dX6_needs_82 h
def f_X6_needs (a1 : Int32) (a2 : Int32) (σ : Mm) (K : Int32 → Mm → Prop) : Prop := (f_X6_isBench a1 σ (fun b2 σ1 => (if b2 = true then (f_X6_isSet a2 σ1 (fun b6 σ5 => (if b6 = true then (f_J6_bitCount_0f7a4 a2 σ5 (fun r8 σ7 => (if r8 ≤ (6 : Int32) then (∃ m, f_X6_needs_39 a1 a2 K m (1 : Int32) σ7) else (f_X6_finding (6 : Int32) σ7 (fun r17 σ16 => (K r17 σ16)))))) else (f_X6_finding (0 : Int32) σ5 (fun r19 σ18 => (K r19 σ18)))))) else (f_X6_finding (0 : Int32) σ1 (fun r4 σ3 => (K r4 σ3))))))
set_option maxRecDepth 100000 in
set_option maxHeartbeats 4000000 in
theorem C_X6_needs {g : GG} {a1 : Int32} {a2 : Int32} {σ : Mm} {K : Int32 → Mm → Prop} (h : f_X6_needs a1 a2 σ K) : Ct g 0 M_X6_needs (QI g 0 K) [.ref (gad g 16 0), .int a1, .int a2] σ := by
  unfold f_X6_needs at h
  refine Ct.of (L := [(0, .ref (gad g 16 0)), (1, .int a1), (2, .int a2)]) (show plainName RX6 = true by decide) (Nat.le_of_ble_eq_true rfl) rfl ?_
  refine AW.aload_n dX6_needs_0 0 rfl ?_
  refine AW.iload_n dX6_needs_1 1 rfl ?_
  refine AW.callVB [.int a1] (C_X6_isBench h) ok_X6_isBench (id0_16_0) rfl rfl w_308 rfl (Nat.le_of_ble_eq_true rfl) (Nat.le_of_ble_eq_true rfl) rfl dX6_needs_2 (fun b2 σ1 h => ?_)
  refine AW.ifb_eq (tgt := 15) dX6_needs_5 rfl (fun c => ?_) (fun c => ?_)
  · replace h := ite_f c h
    refine AW.aload_n dX6_needs_15 0 rfl ?_
    refine AW.iconst (v := (0 : Int32)) dX6_needs_16 rfl ?_
    refine AW.callVI [.int (0 : Int32)] (C_X6_finding h) ok_X6_finding (id0_16_0) rfl rfl w_247 rfl (Nat.le_of_ble_eq_true rfl) (Nat.le_of_ble_eq_true rfl) rfl dX6_needs_17 (fun r4 σ3 h => ?_)
    exact AW.iret rfl dX6_needs_20 h
  · replace h := ite_t c h
    refine AW.iload_n dX6_needs_8 2 rfl ?_
    refine AW.callSB [.int a2] (C_X6_isSet h) ok_X6_isSet w_463 rfl (Nat.le_of_ble_eq_true rfl) (Nat.le_of_ble_eq_true rfl) rfl dX6_needs_9 (fun b6 σ5 h => ?_)
    refine AW.ifb_ne (tgt := 21) dX6_needs_12 rfl (fun c => ?_) (fun c => ?_)
    · replace h := ite_t c h
      refine AW.iload_n dX6_needs_21 2 rfl ?_
      refine AW.callSI [.int a2] (C_J6_bitCount_0f7a4 h) ok_J6_bitCount_0f7a4 w_470 rfl (Nat.le_of_ble_eq_true rfl) (Nat.le_of_ble_eq_true rfl) rfl dX6_needs_22 (fun r8 σ7 h => ?_)
      refine AW.bipush (v := (6 : Int32)) dX6_needs_25 rfl ?_
      refine AW.icmp_le (tgt := 37) dX6_needs_27 rfl (fun c => ?_) (fun c => ?_)
      · replace h := ite_t c h
        refine AW.iconst (v := (1 : Int32)) dX6_needs_37 rfl ?_
        refine AW.istore_n (L' := [(0, .ref (gad g 16 0)), (1, .int a1), (2, .int a2), (3, .int (1 : Int32))]) dX6_needs_38 (Nat.le_of_ble_eq_true rfl) rfl ?_
        obtain ⟨m, h⟩ := h
        refine T_X6_needs_39 m _ _ h
      · replace h := ite_f c h
        refine AW.aload_n dX6_needs_30 0 rfl ?_
        refine AW.bipush (v := (6 : Int32)) dX6_needs_31 rfl ?_
        refine AW.callVI [.int (6 : Int32)] (C_X6_finding h) ok_X6_finding (id0_16_0) rfl rfl w_247 rfl (Nat.le_of_ble_eq_true rfl) (Nat.le_of_ble_eq_true rfl) rfl dX6_needs_33 (fun r17 σ16 h => ?_)
        exact AW.iret rfl dX6_needs_36 h
    · replace h := ite_f c h
      refine AW.aload_n dX6_needs_15 0 rfl ?_
      refine AW.iconst (v := (0 : Int32)) dX6_needs_16 rfl ?_
      refine AW.callVI [.int (0 : Int32)] (C_X6_finding h) ok_X6_finding (id0_16_0) rfl rfl w_247 rfl (Nat.le_of_ble_eq_true rfl) (Nat.le_of_ble_eq_true rfl) rfl dX6_needs_17 (fun r19 σ18 h => ?_)
      exact AW.iret rfl dX6_needs_20 h
theorem ok_X6_needs : OkV M_X6_needs 2 := ⟨w_562, w_563, w_1, w_564, by decide +kernel, (Nat.le_of_ble_eq_true rfl)⟩
def M_X0_nextSeated : MT := (yX0_nextSeated, cX0_nextSeated, 4, some .int, 1)
def f_X0_nextSeated (i0 : Nat) (a1 : Int32) (a2 : Int32) (σ : Mm) (K : Int32 → Mm → Prop) : Prop := (i0 < 17 ∧ (if (a1 + a2) < 0 then (K (-1 : Int32) σ) else (if (a1 + a2) < (σ 0 i0 1) then (vp_in (a1 + a2) 8 ∧ (K (σ 1 i0 ((a1 + a2).toNatClampNeg)) σ)) else (K (-1 : Int32) σ))))
set_option maxRecDepth 100000 in
set_option maxHeartbeats 4000000 in
theorem C_X0_nextSeated {g : GG} {i0 : Nat} {a1 : Int32} {a2 : Int32} {σ : Mm} {K : Int32 → Mm → Prop} (h : f_X0_nextSeated i0 a1 a2 σ K) : Ct g 0 M_X0_nextSeated (QI g 0 K) [.ref (gad g 0 i0), .int a1, .int a2] σ := by
  unfold f_X0_nextSeated at h
  obtain ⟨hi0, h⟩ := h
  refine Ct.of (L := [(0, .ref (gad g 0 i0)), (1, .int a1), (2, .int a2)]) (show plainName RX0 = true by decide) (Nat.le_of_ble_eq_true rfl) rfl ?_
  refine AW.iload_n dX0_nextSeated_0 1 rfl ?_
  refine AW.iload_n dX0_nextSeated_1 2 rfl ?_
  refine AW.iadd dX0_nextSeated_2 ?_
  refine AW.istore_n (L' := [(0, .ref (gad g 0 i0)), (1, .int a1), (2, .int a2), (3, .int (a1 + a2))]) dX0_nextSeated_3 (Nat.le_of_ble_eq_true rfl) rfl ?_
  refine AW.iload_n dX0_nextSeated_4 3 rfl ?_
  refine AW.if_lt (tgt := 16) dX0_nextSeated_5 rfl (fun c => ?_) (fun c => ?_)
  · replace h := ite_t c h
    refine AW.iconst (v := (-1 : Int32)) dX0_nextSeated_16 rfl ?_
    refine AW.goto (tgt := 26) dX0_nextSeated_17 rfl ?_
    exact AW.iret rfl dX0_nextSeated_26 h
  · replace h := ite_f c h
    refine AW.iload_n dX0_nextSeated_8 3 rfl ?_
    refine AW.aload_n dX0_nextSeated_9 0 rfl ?_
    refine AW.get (k := 1) (v := .int (σ 0 i0 1)) (ids_in (Nat.le_of_ble_eq_true rfl) hi0) rfl rfl inGX0 (Nat.le_of_ble_eq_true rfl) w_72 rfl dX0_nextSeated_10 ?_
    refine AW.icmp_lt (tgt := 20) dX0_nextSeated_13 rfl (fun c => ?_) (fun c => ?_)
    · replace h := ite_t c h
      refine AW.aload_n dX0_nextSeated_20 0 rfl ?_
      refine AW.get (k := 2) (v := .ref (gad g 1 i0)) (ids_in (Nat.le_of_ble_eq_true rfl) hi0) rfl rfl inGX0 (Nat.le_of_ble_eq_true rfl) w_78 rfl dX0_nextSeated_21 ?_
      refine AW.iload_n dX0_nextSeated_24 3 rfl ?_
      obtain ⟨hq1, h⟩ := h
      refine AW.iald (jn := ((a1 + a2).toNatClampNeg)) (ids_in (Nat.le_of_ble_eq_true rfl) hi0) rfl hq1 rfl dX0_nextSeated_25 ?_
      exact AW.iret rfl dX0_nextSeated_26 h
    · replace h := ite_f c h
      refine AW.iconst (v := (-1 : Int32)) dX0_nextSeated_16 rfl ?_
      refine AW.goto (tgt := 26) dX0_nextSeated_17 rfl ?_
      exact AW.iret rfl dX0_nextSeated_26 h
theorem ok_X0_nextSeated : OkV M_X0_nextSeated 2 := ⟨w_576, w_577, w_5, w_578, by decide +kernel, (Nat.le_of_ble_eq_true rfl)⟩
