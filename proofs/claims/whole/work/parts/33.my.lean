def M_X7_isSet : MT := (yX7_isSet, cX7_isSet, 1, some .boolean, 2)
def f_X7_isSet (a0 : Int32) (σ : Mm) (K : Bool → Mm → Prop) : Prop := (f_X7_in ((a0).toInt64) (0 : Int64) (255 : Int64) σ (fun b2 σ1 => (K b2 σ1)))
set_option maxRecDepth 100000 in
set_option maxHeartbeats 4000000 in
theorem C_X7_isSet {g : GG} {a0 : Int32} {σ : Mm} {K : Bool → Mm → Prop} (h : f_X7_isSet a0 σ K) : Ct g 1 M_X7_isSet (QB g 1 K) [.int a0] σ := by
  unfold f_X7_isSet at h
  refine Ct.of (L := [(0, .int a0)]) (show plainName RX7 = true by decide) (Nat.le_of_ble_eq_true rfl) rfl ?_
  refine AW.iload_n dX7_isSet_0 0 rfl ?_
  refine AW.i2l dX7_isSet_1 ?_
  refine AW.lconst (v := (0 : Int64)) dX7_isSet_2 rfl ?_
  refine AW.ldc2 (v := (255 : Int64)) dX7_isSet_3 w_1153 ?_
  refine AW.callSB [.long ((a0).toInt64), .long (0 : Int64), .long (255 : Int64)] (C_X7_in h) ok_X7_in w_947 rfl (Nat.le_of_ble_eq_true rfl) (Nat.le_of_ble_eq_true rfl) rfl dX7_isSet_6 (fun b2 σ1 h => ?_)
  exact AW.bret b2 rfl rfl dX7_isSet_9 h
theorem ok_X7_isSet : OkS M_X7_isSet 1 := ⟨w_1151, w_9, w_1152, by decide +kernel, (Nat.le_of_ble_eq_true rfl)⟩
def M_X7_many : MT := (yX7_many, cX7_many, 3, some .int, 1)
set_option maxRecDepth 100000 in
def f_X7_many_4 (a0 : Int32) (K : Int32 → Mm → Prop) : Nat → Int32 → Int32 → Mm → Prop
  | 0, _, _, _ => False
  | n + 1, a1, a2, σ => (if (8 : Int32) ≤ a2 then (K a1 σ) else (f_X7_many_4 a0 K n (a1 + ((a0 >>> (a2 &&& 31)) &&& (1 : Int32))) (a2 + (1 : Int32)) σ))
set_option maxRecDepth 100000 in
set_option maxHeartbeats 4000000 in
theorem T_X7_many_4 {g : GG} {a0 : Int32} {K : Int32 → Mm → Prop} : ∀ (n : Nat) (a1 : Int32) (a2 : Int32) (σ : Mm), f_X7_many_4 a0 K n a1 a2 σ → AW g 1 M_X7_many (QI g 1 K) 4 [(0, .int a0), (1, .int a1), (2, .int a2)] [] σ := by
  intro n
  induction n with
  | zero => intro a1 a2 σ h; exact False.elim h
  | succ n ih =>
    intro a1 a2 σ h
    rw [f_X7_many_4] at h
    refine AW.iload_n dX7_many_4 2 rfl ?_
    refine AW.bipush (v := (8 : Int32)) dX7_many_5 rfl ?_
    refine AW.icmp_ge (tgt := 24) dX7_many_7 rfl (fun c => ?_) (fun c => ?_)
    · replace h := ite_t c h
      refine AW.iload_n dX7_many_24 1 rfl ?_
      exact AW.iret rfl dX7_many_25 h
    · replace h := ite_f c h
      refine AW.iload_n dX7_many_10 1 rfl ?_
      refine AW.iload_n dX7_many_11 0 rfl ?_
      refine AW.iload_n dX7_many_12 2 rfl ?_
      refine AW.ishr dX7_many_13 ?_
      refine AW.iconst (v := (1 : Int32)) dX7_many_14 rfl ?_
      refine AW.iand dX7_many_15 ?_
      refine AW.iadd dX7_many_16 ?_
      refine AW.istore_n (L' := [(0, .int a0), (1, .int (a1 + ((a0 >>> (a2 &&& 31)) &&& (1 : Int32)))), (2, .int a2)]) dX7_many_17 (Nat.le_of_ble_eq_true rfl) rfl ?_
      refine AW.iinc (v := (a2 + (1 : Int32))) (L' := [(0, .int a0), (1, .int (a1 + ((a0 >>> (a2 &&& 31)) &&& (1 : Int32)))), (2, .int (a2 + (1 : Int32)))]) dX7_many_18 2 rfl rfl (Nat.le_of_ble_eq_true rfl) rfl ?_
      refine AW.goto (tgt := 4) dX7_many_21 rfl ?_
      exact ih _ _ _ h
def f_X7_many (a0 : Int32) (σ : Mm) (K : Int32 → Mm → Prop) : Prop := (∃ m, f_X7_many_4 a0 K m (0 : Int32) (0 : Int32) σ)
set_option maxRecDepth 100000 in
set_option maxHeartbeats 4000000 in
theorem C_X7_many {g : GG} {a0 : Int32} {σ : Mm} {K : Int32 → Mm → Prop} (h : f_X7_many a0 σ K) : Ct g 1 M_X7_many (QI g 1 K) [.int a0] σ := by
  unfold f_X7_many at h
  refine Ct.of (L := [(0, .int a0)]) (show plainName RX7 = true by decide) (Nat.le_of_ble_eq_true rfl) rfl ?_
  refine AW.iconst (v := (0 : Int32)) dX7_many_0 rfl ?_
  refine AW.istore_n (L' := [(0, .int a0), (1, .int (0 : Int32))]) dX7_many_1 (Nat.le_of_ble_eq_true rfl) rfl ?_
  refine AW.iconst (v := (0 : Int32)) dX7_many_2 rfl ?_
  refine AW.istore_n (L' := [(0, .int a0), (1, .int (0 : Int32)), (2, .int (0 : Int32))]) dX7_many_3 (Nat.le_of_ble_eq_true rfl) rfl ?_
  obtain ⟨m, h⟩ := h
  refine T_X7_many_4 m _ _ _ h
theorem ok_X7_many : OkS M_X7_many 1 := ⟨w_1155, w_9, w_1156, by decide +kernel, (Nat.le_of_ble_eq_true rfl)⟩
def M_X7_wrongSet : MT := (yX7_wrongSet, cX7_wrongSet, 4, some .int, 3)
def f_X7_wrongSet (a1 : Int32) (a2 : Int32) (a3 : Int32) (σ : Mm) (K : Int32 → Mm → Prop) : Prop := (f_X7_isBench a1 σ (fun b2 σ1 => (if b2 = true then (f_X7_isSet a2 σ1 (fun b4 σ3 => (if b4 = true then (if a3 = 0 then (K (-1000001 : Int32) σ3) else (f_X7_many a2 σ3 (fun r6 σ5 => (if (6 : Int32) < r6 then (K (-1000007 : Int32) σ5) else (f_X7_many a2 σ5 (fun r8 σ7 => (f_X7_seatsOf a1 σ7 (fun r10 σ9 => (if r8 ≤ r10 then (K (0 : Int32) σ9) else (K (-1000007 : Int32) σ9)))))))))) else (K (-1000001 : Int32) σ3)))) else (K (-1000001 : Int32) σ1))))
set_option maxRecDepth 100000 in
set_option maxHeartbeats 4000000 in
theorem C_X7_wrongSet {g : GG} {a1 : Int32} {a2 : Int32} {a3 : Int32} {σ : Mm} {K : Int32 → Mm → Prop} (h : f_X7_wrongSet a1 a2 a3 σ K) : Ct g 1 M_X7_wrongSet (QI g 1 K) [.ref (gad g 0 0), .int a1, .int a2, .int a3] σ := by
  unfold f_X7_wrongSet at h
  refine Ct.of (L := [(0, .ref (gad g 0 0)), (1, .int a1), (2, .int a2), (3, .int a3)]) (show plainName RX7 = true by decide) (Nat.le_of_ble_eq_true rfl) rfl ?_
  refine AW.aload_n dX7_wrongSet_0 0 rfl ?_
  refine AW.iload_n dX7_wrongSet_1 1 rfl ?_
  refine AW.callVB [.int a1] (C_X7_isBench h) ok_X7_isBench (id1_0_0) rfl rfl w_1015 rfl (Nat.le_of_ble_eq_true rfl) (Nat.le_of_ble_eq_true rfl) rfl dX7_wrongSet_2 (fun b2 σ1 h => ?_)
  refine AW.ifb_eq (tgt := 19) dX7_wrongSet_5 rfl (fun c => ?_) (fun c => ?_)
  · replace h := ite_f c h
    refine AW.ldc (v := (-1000001 : Int32)) dX7_wrongSet_19 w_951 ?_
    refine AW.goto (tgt := 51) dX7_wrongSet_21 rfl ?_
    exact AW.iret rfl dX7_wrongSet_51 h
  · replace h := ite_t c h
    refine AW.iload_n dX7_wrongSet_8 2 rfl ?_
    refine AW.callSB [.int a2] (C_X7_isSet h) ok_X7_isSet w_1150 rfl (Nat.le_of_ble_eq_true rfl) (Nat.le_of_ble_eq_true rfl) rfl dX7_wrongSet_9 (fun b4 σ3 h => ?_)
    refine AW.ifb_eq (tgt := 19) dX7_wrongSet_12 rfl (fun c => ?_) (fun c => ?_)
    · replace h := ite_f c h
      refine AW.ldc (v := (-1000001 : Int32)) dX7_wrongSet_19 w_951 ?_
      refine AW.goto (tgt := 51) dX7_wrongSet_21 rfl ?_
      exact AW.iret rfl dX7_wrongSet_51 h
    · replace h := ite_t c h
      refine AW.iload_n dX7_wrongSet_15 3 rfl ?_
      refine AW.if_ne (tgt := 24) dX7_wrongSet_16 rfl (fun c => ?_) (fun c => ?_)
      · replace h := ite_f c h
        refine AW.iload_n dX7_wrongSet_24 2 rfl ?_
        refine AW.callSI [.int a2] (C_X7_many h) ok_X7_many w_1154 rfl (Nat.le_of_ble_eq_true rfl) (Nat.le_of_ble_eq_true rfl) rfl dX7_wrongSet_25 (fun r6 σ5 h => ?_)
        refine AW.bipush (v := (6 : Int32)) dX7_wrongSet_28 rfl ?_
        refine AW.icmp_gt (tgt := 45) dX7_wrongSet_30 rfl (fun c => ?_) (fun c => ?_)
        · replace h := ite_t c h
          refine AW.ldc (v := (-1000007 : Int32)) dX7_wrongSet_45 w_1157 ?_
          refine AW.goto (tgt := 51) dX7_wrongSet_47 rfl ?_
          exact AW.iret rfl dX7_wrongSet_51 h
        · replace h := ite_f c h
          refine AW.iload_n dX7_wrongSet_33 2 rfl ?_
          refine AW.callSI [.int a2] (C_X7_many h) ok_X7_many w_1154 rfl (Nat.le_of_ble_eq_true rfl) (Nat.le_of_ble_eq_true rfl) rfl dX7_wrongSet_34 (fun r8 σ7 h => ?_)
          refine AW.aload_n dX7_wrongSet_37 0 rfl ?_
          refine AW.iload_n dX7_wrongSet_38 1 rfl ?_
          refine AW.callVI [.int a1] (C_X7_seatsOf h) ok_X7_seatsOf (id1_0_0) rfl rfl w_1028 rfl (Nat.le_of_ble_eq_true rfl) (Nat.le_of_ble_eq_true rfl) rfl dX7_wrongSet_39 (fun r10 σ9 h => ?_)
          refine AW.icmp_le (tgt := 50) dX7_wrongSet_42 rfl (fun c => ?_) (fun c => ?_)
          · replace h := ite_t c h
            refine AW.iconst (v := (0 : Int32)) dX7_wrongSet_50 rfl ?_
            exact AW.iret rfl dX7_wrongSet_51 h
          · replace h := ite_f c h
            refine AW.ldc (v := (-1000007 : Int32)) dX7_wrongSet_45 w_1157 ?_
            refine AW.goto (tgt := 51) dX7_wrongSet_47 rfl ?_
            exact AW.iret rfl dX7_wrongSet_51 h
      · replace h := ite_t c h
        refine AW.ldc (v := (-1000001 : Int32)) dX7_wrongSet_19 w_951 ?_
        refine AW.goto (tgt := 51) dX7_wrongSet_21 rfl ?_
        exact AW.iret rfl dX7_wrongSet_51 h
theorem ok_X7_wrongSet : OkV M_X7_wrongSet 3 := ⟨w_1148, wp_51, w_9, w_1149, by decide +kernel, (Nat.le_of_ble_eq_true rfl)⟩
def M_X7_seatingsOf : MT := (yX7_seatingsOf, cX7_seatingsOf, 12, some .int, 7)
set_option maxRecDepth 100000 in
def f_X7_seatingsOf_2 (a1 : Int32) (a2 : Int32) (K : Int32 → Mm → Prop) (k21 : Mm → Prop) : Nat → Int32 → Mm → Prop
  | 0, _, _ => False
  | n + 1, a3, σ => (if (64 : Int32) ≤ a3 then (k21 σ) else (vp_in a3 64 ∧ (∃ σ2, σ2 = mset σ 6 0 (a3.toNatClampNeg) (0 : Int32) ∧ (f_X7_seatingsOf_2 a1 a2 K k21 n (a3 + (1 : Int32)) σ2))))
set_option maxRecDepth 100000 in
set_option maxHeartbeats 4000000 in
theorem T_X7_seatingsOf_2 {g : GG} {a1 : Int32} {a2 : Int32} {K : Int32 → Mm → Prop} {k21 : Mm → Prop} (hk21 : ∀  (u : Mm), k21  u → AW g 1 M_X7_seatingsOf (QI g 1 K) 21 [(0, .ref (gad g 0 0)), (1, .int a1), (2, .int a2)] [] u) : ∀ (n : Nat) (a3 : Int32) (σ : Mm), f_X7_seatingsOf_2 a1 a2 K k21 n a3 σ → AW g 1 M_X7_seatingsOf (QI g 1 K) 2 [(0, .ref (gad g 0 0)), (1, .int a1), (2, .int a2), (3, .int a3)] [] σ := by
  intro n
  induction n with
  | zero => intro a3 σ h; exact False.elim h
  | succ n ih =>
    intro a3 σ h
    rw [f_X7_seatingsOf_2] at h
    refine AW.iload_n dX7_seatingsOf_2 3 rfl ?_
    refine AW.bipush (v := (64 : Int32)) dX7_seatingsOf_3 rfl ?_
    refine AW.icmp_ge (tgt := 21) dX7_seatingsOf_5 rfl (fun c => ?_) (fun c => ?_)
    · replace h := ite_t c h
      refine AW.eqL [0, 1, 2] rfl ?_
      exact hk21 _ h
    · replace h := ite_f c h
      refine AW.aload_n dX7_seatingsOf_8 0 rfl ?_
      refine AW.get (k := 8) (v := .ref (gad g 6 0)) (id1_0_0) rfl rfl inGX7 (Nat.le_of_ble_eq_true rfl) w_880 rfl dX7_seatingsOf_9 ?_
      refine AW.iload_n dX7_seatingsOf_12 3 rfl ?_
      refine AW.iconst (v := (0 : Int32)) dX7_seatingsOf_13 rfl ?_
      obtain ⟨hq1, h⟩ := h
      refine AW.iast (jn := (a3.toNatClampNeg)) (id1_6_0) (fun _ => rfl) hq1 rfl dX7_seatingsOf_14 ?_
      obtain ⟨σ2, eσ2, h⟩ := h
      rw [← eσ2]
      refine AW.iinc (v := (a3 + (1 : Int32))) (L' := [(0, .ref (gad g 0 0)), (1, .int a1), (2, .int a2), (3, .int (a3 + (1 : Int32)))]) dX7_seatingsOf_15 3 rfl rfl (Nat.le_of_ble_eq_true rfl) rfl ?_
      refine AW.goto (tgt := 2) dX7_seatingsOf_18 rfl ?_
      exact ih _ _ h
set_option maxRecDepth 100000 in
def f_X7_seatingsOf_103 (a2 : Int32) (a5 : Int32) (a6 : Int32) (a7 : Int32) (a8 : Int32) (K : Int32 → Mm → Prop) (k140 : Int32 → Mm → Prop) : Nat → Int32 → Mm → Prop
  | 0, _, _ => False
  | n + 1, a10, σ => (if (8 : Int32) ≤ a10 then (k140 a10 σ) else (if a10 = (-1 : Int32) then (if a8 = 0 then (f_X7_seatingsOf_103 a2 a5 a6 a7 a8 K k140 n (a10 + (1 : Int32)) σ) else (k140 a10 σ)) else (f_X7_has a6 a10 σ (fun b9 σ8 => (if b9 = true then (k140 a10 σ8) else (f_X7_seatingsOf_103 a2 a5 a6 a7 a8 K k140 n (a10 + (1 : Int32)) σ8))))))
set_option maxRecDepth 100000 in
set_option maxHeartbeats 4000000 in
theorem T_X7_seatingsOf_103 {g : GG} {a2 : Int32} {a5 : Int32} {a6 : Int32} {a7 : Int32} {a8 : Int32} {K : Int32 → Mm → Prop} {k140 : Int32 → Mm → Prop} (hk140 : ∀ (x10 : Int32) (u : Mm), k140 x10 u → AW g 1 M_X7_seatingsOf (QI g 1 K) 140 [(0, .ref (gad g 0 0)), (2, .int a2), (4, .ref (gad g 8 0)), (5, .int a5), (6, .int a6), (7, .int a7), (8, .int a8), (10, .int x10)] [] u) : ∀ (n : Nat) (a10 : Int32) (σ : Mm), f_X7_seatingsOf_103 a2 a5 a6 a7 a8 K k140 n a10 σ → AW g 1 M_X7_seatingsOf (QI g 1 K) 103 [(0, .ref (gad g 0 0)), (2, .int a2), (4, .ref (gad g 8 0)), (5, .int a5), (6, .int a6), (7, .int a7), (8, .int a8), (10, .int a10)] [] σ := by
  intro n
  induction n with
  | zero => intro a10 σ h; exact False.elim h
  | succ n ih =>
    intro a10 σ h
    rw [f_X7_seatingsOf_103] at h
    refine AW.iload dX7_seatingsOf_103 7 rfl ?_
    refine AW.bipush (v := (8 : Int32)) dX7_seatingsOf_105 rfl ?_
    refine AW.icmp_ge (tgt := 140) dX7_seatingsOf_107 rfl (fun c => ?_) (fun c => ?_)
    · replace h := ite_t c h
      exact hk140 _ _ h
    · replace h := ite_f c h
      refine AW.iload dX7_seatingsOf_110 7 rfl ?_
      refine AW.iconst (v := (-1 : Int32)) dX7_seatingsOf_112 rfl ?_
      refine AW.icmp_ne (tgt := 124) dX7_seatingsOf_113 rfl (fun c => ?_) (fun c => ?_)
      · replace h := ite_f c h
        refine AW.iload dX7_seatingsOf_124 4 rfl ?_
        refine AW.iload dX7_seatingsOf_126 7 rfl ?_
        refine AW.callSB [.int a6, .int a10] (C_X7_has h) ok_X7_has w_1125 rfl (Nat.le_of_ble_eq_true rfl) (Nat.le_of_ble_eq_true rfl) rfl dX7_seatingsOf_128 (fun b9 σ8 h => ?_)
        refine AW.ifb_ne (tgt := 140) dX7_seatingsOf_131 rfl (fun c => ?_) (fun c => ?_)
        · replace h := ite_t c h
          exact hk140 _ _ h
        · replace h := ite_f c h
          refine AW.iinc (v := (a10 + (1 : Int32))) (L' := [(0, .ref (gad g 0 0)), (2, .int a2), (4, .ref (gad g 8 0)), (5, .int a5), (6, .int a6), (7, .int a7), (8, .int a8), (10, .int (a10 + (1 : Int32)))]) dX7_seatingsOf_134 7 rfl rfl (Nat.le_of_ble_eq_true rfl) rfl ?_
          refine AW.goto (tgt := 103) dX7_seatingsOf_137 rfl ?_
          exact ih _ _ h
      · replace h := ite_t c h
        refine AW.iload dX7_seatingsOf_116 6 rfl ?_
        refine AW.if_ne (tgt := 140) dX7_seatingsOf_118 rfl (fun c => ?_) (fun c => ?_)
        · replace h := ite_f c h
          exact hk140 _ _ h
        · replace h := ite_t c h
          refine AW.goto (tgt := 134) dX7_seatingsOf_121 rfl ?_
          refine AW.iinc (v := (a10 + (1 : Int32))) (L' := [(0, .ref (gad g 0 0)), (2, .int a2), (4, .ref (gad g 8 0)), (5, .int a5), (6, .int a6), (7, .int a7), (8, .int a8), (10, .int (a10 + (1 : Int32)))]) dX7_seatingsOf_134 7 rfl rfl (Nat.le_of_ble_eq_true rfl) rfl ?_
          refine AW.goto (tgt := 103) dX7_seatingsOf_137 rfl ?_
          exact ih _ _ h
def f_X7_seatingsOf_269 (a2 : Int32) (a5 : Int32) (a6 : Int32) (a7 : Int32) (a8 : Int32) (a11 : Int32) (K : Int32 → Mm → Prop) (k228 : Int32 → Mm → Prop) (σ : Mm) : Prop := (if a5 = a2 then (vp_in a11 8 ∧ (vp_in a11 8 ∧ (∃ σ20, σ20 = mset σ 7 0 (a11.toNatClampNeg) (σ 5 0 (a11.toNatClampNeg)) ∧ (k228 (a11 + (1 : Int32)) σ20)))) else (k228 (a11 + (1 : Int32)) σ))
set_option maxRecDepth 100000 in
set_option maxHeartbeats 4000000 in
theorem T_X7_seatingsOf_269 {g : GG} {a2 : Int32} {a5 : Int32} {a6 : Int32} {a7 : Int32} {a8 : Int32} {a11 : Int32} {K : Int32 → Mm → Prop} {k228 : Int32 → Mm → Prop} {σ : Mm} (hk228 : ∀ (x11 : Int32) (u : Mm), k228 x11 u → AW g 1 M_X7_seatingsOf (QI g 1 K) 228 [(0, .ref (gad g 0 0)), (2, .int a2), (4, .ref (gad g 8 0)), (5, .int a5), (6, .int a6), (7, .int a7), (8, .int a8), (11, .int x11)] [] u) (h : f_X7_seatingsOf_269 a2 a5 a6 a7 a8 a11 K k228 σ) : AW g 1 M_X7_seatingsOf (QI g 1 K) 269 [(0, .ref (gad g 0 0)), (2, .int a2), (4, .ref (gad g 8 0)), (5, .int a5), (6, .int a6), (7, .int a7), (8, .int a8), (11, .int a11)] [] σ := by
  unfold f_X7_seatingsOf_269 at h
  refine AW.iload dX7_seatingsOf_269 3 rfl ?_
  refine AW.iload_n dX7_seatingsOf_271 1 rfl ?_
  refine AW.icmp_ne (tgt := 289) dX7_seatingsOf_272 rfl (fun c => ?_) (fun c => ?_)
  · replace h := ite_f c h
    refine AW.iinc (v := (a11 + (1 : Int32))) (L' := [(0, .ref (gad g 0 0)), (2, .int a2), (4, .ref (gad g 8 0)), (5, .int a5), (6, .int a6), (7, .int a7), (8, .int a8), (11, .int (a11 + (1 : Int32)))]) dX7_seatingsOf_289 7 rfl rfl (Nat.le_of_ble_eq_true rfl) rfl ?_
    refine AW.goto (tgt := 228) dX7_seatingsOf_292 rfl ?_
    exact hk228 _ _ h
  · replace h := ite_t c h
    refine AW.aload_n dX7_seatingsOf_275 0 rfl ?_
    refine AW.get (k := 9) (v := .ref (gad g 7 0)) (id1_0_0) rfl rfl inGX7 (Nat.le_of_ble_eq_true rfl) w_881 rfl dX7_seatingsOf_276 ?_
    refine AW.iload dX7_seatingsOf_279 7 rfl ?_
    refine AW.aload_n dX7_seatingsOf_281 0 rfl ?_
    refine AW.get (k := 5) (v := .ref (gad g 5 0)) (id1_0_0) rfl rfl inGX7 (Nat.le_of_ble_eq_true rfl) w_877 rfl dX7_seatingsOf_282 ?_
    refine AW.iload dX7_seatingsOf_285 7 rfl ?_
    obtain ⟨hq18, h⟩ := h
    refine AW.iald (jn := (a11.toNatClampNeg)) (id1_5_0) rfl hq18 rfl dX7_seatingsOf_287 ?_
    obtain ⟨hq19, h⟩ := h
    refine AW.iast (jn := (a11.toNatClampNeg)) (id1_7_0) (fun _ => rfl) hq19 rfl dX7_seatingsOf_288 ?_
    obtain ⟨σ20, eσ20, h⟩ := h
    rw [← eσ20]
    refine AW.iinc (v := (a11 + (1 : Int32))) (L' := [(0, .ref (gad g 0 0)), (2, .int a2), (4, .ref (gad g 8 0)), (5, .int a5), (6, .int a6), (7, .int a7), (8, .int a8), (11, .int (a11 + (1 : Int32)))]) dX7_seatingsOf_289 7 rfl rfl (Nat.le_of_ble_eq_true rfl) rfl ?_
    refine AW.goto (tgt := 228) dX7_seatingsOf_292 rfl ?_
    exact hk228 _ _ h
set_option maxRecDepth 100000 in
def f_X7_seatingsOf_228 (a2 : Int32) (a5 : Int32) (a6 : Int32) (a7 : Int32) (a8 : Int32) (K : Int32 → Mm → Prop) (k295 : Mm → Prop) : Nat → Int32 → Mm → Prop
  | 0, _, _ => False
  | n + 1, a11, σ => (if (σ 0 0 7) ≤ a11 then (k295 σ) else (vp_in a11 8 ∧ (if (σ 5 0 (a11.toNatClampNeg)) < 0 then (f_X7_seatingsOf_269 a2 a5 a6 a7 a8 a11 K (f_X7_seatingsOf_228 a2 a5 a6 a7 a8 K k295 n) σ) else (vp_in a11 8 ∧ (vp_in (((8 : Int32) * (σ 5 0 (a11.toNatClampNeg))) + a11) 64 ∧ (vp_in (((8 : Int32) * (σ 5 0 (a11.toNatClampNeg))) + a11) 64 ∧ (∃ σ24, σ24 = mset σ 6 0 ((((8 : Int32) * (σ 5 0 (a11.toNatClampNeg))) + a11).toNatClampNeg) ((σ 6 0 ((((8 : Int32) * (σ 5 0 (a11.toNatClampNeg))) + a11).toNatClampNeg)) + (1 : Int32)) ∧ (f_X7_seatingsOf_269 a2 a5 a6 a7 a8 a11 K (f_X7_seatingsOf_228 a2 a5 a6 a7 a8 K k295 n) σ24))))))))
set_option maxRecDepth 100000 in
set_option maxHeartbeats 4000000 in
theorem T_X7_seatingsOf_228 {g : GG} {a2 : Int32} {a5 : Int32} {a6 : Int32} {a7 : Int32} {a8 : Int32} {K : Int32 → Mm → Prop} {k295 : Mm → Prop} (hk295 : ∀  (u : Mm), k295  u → AW g 1 M_X7_seatingsOf (QI g 1 K) 295 [(0, .ref (gad g 0 0)), (2, .int a2), (4, .ref (gad g 8 0)), (5, .int a5), (6, .int a6), (7, .int a7), (8, .int a8)] [] u) : ∀ (n : Nat) (a11 : Int32) (σ : Mm), f_X7_seatingsOf_228 a2 a5 a6 a7 a8 K k295 n a11 σ → AW g 1 M_X7_seatingsOf (QI g 1 K) 228 [(0, .ref (gad g 0 0)), (2, .int a2), (4, .ref (gad g 8 0)), (5, .int a5), (6, .int a6), (7, .int a7), (8, .int a8), (11, .int a11)] [] σ := by
  intro n
  induction n with
  | zero => intro a11 σ h; exact False.elim h
  | succ n ih =>
    intro a11 σ h
    rw [f_X7_seatingsOf_228] at h
    refine AW.iload dX7_seatingsOf_228 7 rfl ?_
    refine AW.aload_n dX7_seatingsOf_230 0 rfl ?_
    refine AW.get (k := 7) (v := .int (σ 0 0 7)) (id1_0_0) rfl rfl inGX7 (Nat.le_of_ble_eq_true rfl) w_879 rfl dX7_seatingsOf_231 ?_
    refine AW.icmp_ge (tgt := 295) dX7_seatingsOf_234 rfl (fun c => ?_) (fun c => ?_)
    · replace h := ite_t c h
      refine AW.eqL [0, 1, 2, 3, 4, 5, 6] rfl ?_
      exact hk295 _ h
    · replace h := ite_f c h
      refine AW.aload_n dX7_seatingsOf_237 0 rfl ?_
      refine AW.get (k := 5) (v := .ref (gad g 5 0)) (id1_0_0) rfl rfl inGX7 (Nat.le_of_ble_eq_true rfl) w_877 rfl dX7_seatingsOf_238 ?_
      refine AW.iload dX7_seatingsOf_241 7 rfl ?_
      obtain ⟨hq17, h⟩ := h
      refine AW.iald (jn := (a11.toNatClampNeg)) (id1_5_0) rfl hq17 rfl dX7_seatingsOf_243 ?_
      refine AW.if_lt (tgt := 269) dX7_seatingsOf_244 rfl (fun c => ?_) (fun c => ?_)
      · replace h := ite_t c h
        exact T_X7_seatingsOf_269 ih h
      · replace h := ite_f c h
        refine AW.aload_n dX7_seatingsOf_247 0 rfl ?_
        refine AW.get (k := 8) (v := .ref (gad g 6 0)) (id1_0_0) rfl rfl inGX7 (Nat.le_of_ble_eq_true rfl) w_880 rfl dX7_seatingsOf_248 ?_
        refine AW.bipush (v := (8 : Int32)) dX7_seatingsOf_251 rfl ?_
        refine AW.aload_n dX7_seatingsOf_253 0 rfl ?_
        refine AW.get (k := 5) (v := .ref (gad g 5 0)) (id1_0_0) rfl rfl inGX7 (Nat.le_of_ble_eq_true rfl) w_877 rfl dX7_seatingsOf_254 ?_
        refine AW.iload dX7_seatingsOf_257 7 rfl ?_
        obtain ⟨hq21, h⟩ := h
        refine AW.iald (jn := (a11.toNatClampNeg)) (id1_5_0) rfl hq21 rfl dX7_seatingsOf_259 ?_
        refine AW.imul dX7_seatingsOf_260 ?_
        refine AW.iload dX7_seatingsOf_261 7 rfl ?_
        refine AW.iadd dX7_seatingsOf_263 ?_
        refine AW.dup2 dX7_seatingsOf_264 rfl rfl ?_
        obtain ⟨hq22, h⟩ := h
        refine AW.iald (jn := ((((8 : Int32) * (σ 5 0 (a11.toNatClampNeg))) + a11).toNatClampNeg)) (id1_6_0) rfl hq22 rfl dX7_seatingsOf_265 ?_
        refine AW.iconst (v := (1 : Int32)) dX7_seatingsOf_266 rfl ?_
        refine AW.iadd dX7_seatingsOf_267 ?_
        obtain ⟨hq23, h⟩ := h
        refine AW.iast (jn := ((((8 : Int32) * (σ 5 0 (a11.toNatClampNeg))) + a11).toNatClampNeg)) (id1_6_0) (fun _ => rfl) hq23 rfl dX7_seatingsOf_268 ?_
        obtain ⟨σ24, eσ24, h⟩ := h
        rw [← eσ24]
        exact T_X7_seatingsOf_269 ih h
def f_X7_seatingsOf_191 (a2 : Int32) (a5 : Int32) (a6 : Int32) (a7 : Int32) (a8 : Int32) (K : Int32 → Mm → Prop) (k62 : Int32 → Int32 → Int32 → Int32 → Mm → Prop) (σ : Mm) : Prop := (if ((σ 0 0 7) - (1 : Int32)) ≤ a7 then (f_X7_holdsNow σ (fun b16 σ15 => (if b16 = true then (∃ m, f_X7_seatingsOf_228 a2 a5 a6 a7 a8 K (fun σ25 => (k62 (a5 + (1 : Int32)) a6 a7 a8 σ25)) m (0 : Int32) σ15) else (k62 a5 a6 a7 a8 σ15)))) else (vp_in (a7 + (1 : Int32)) 8 ∧ (∃ σ27, σ27 = mset σ 8 0 ((a7 + (1 : Int32)).toNatClampNeg) (-2 : Int32) ∧ (k62 a5 a6 (a7 + (1 : Int32)) a8 σ27))))
set_option maxRecDepth 100000 in
set_option maxHeartbeats 4000000 in
theorem T_X7_seatingsOf_191 {g : GG} {a2 : Int32} {a5 : Int32} {a6 : Int32} {a7 : Int32} {a8 : Int32} {K : Int32 → Mm → Prop} {k62 : Int32 → Int32 → Int32 → Int32 → Mm → Prop} {σ : Mm} (hk62 : ∀ (x5 : Int32) (x6 : Int32) (x7 : Int32) (x8 : Int32) (u : Mm), k62 x5 x6 x7 x8 u → AW g 1 M_X7_seatingsOf (QI g 1 K) 62 [(0, .ref (gad g 0 0)), (2, .int a2), (4, .ref (gad g 8 0)), (5, .int x5), (6, .int x6), (7, .int x7), (8, .int x8)] [] u) (h : f_X7_seatingsOf_191 a2 a5 a6 a7 a8 K k62 σ) : AW g 1 M_X7_seatingsOf (QI g 1 K) 191 [(0, .ref (gad g 0 0)), (2, .int a2), (4, .ref (gad g 8 0)), (5, .int a5), (6, .int a6), (7, .int a7), (8, .int a8)] [] σ := by
  unfold f_X7_seatingsOf_191 at h
  refine AW.iload dX7_seatingsOf_191 5 rfl ?_
  refine AW.aload_n dX7_seatingsOf_193 0 rfl ?_
  refine AW.get (k := 7) (v := .int (σ 0 0 7)) (id1_0_0) rfl rfl inGX7 (Nat.le_of_ble_eq_true rfl) w_879 rfl dX7_seatingsOf_194 ?_
  refine AW.iconst (v := (1 : Int32)) dX7_seatingsOf_197 rfl ?_
  refine AW.isub dX7_seatingsOf_198 ?_
  refine AW.icmp_ge (tgt := 215) dX7_seatingsOf_199 rfl (fun c => ?_) (fun c => ?_)
  · replace h := ite_t c h
    refine AW.aload_n dX7_seatingsOf_215 0 rfl ?_
    refine AW.callVB [] (C_X7_holdsNow h) ok_X7_holdsNow (id1_0_0) rfl rfl w_1040 rfl (Nat.le_of_ble_eq_true rfl) (Nat.le_of_ble_eq_true rfl) rfl dX7_seatingsOf_216 (fun b16 σ15 h => ?_)
    refine AW.ifb_ne (tgt := 225) dX7_seatingsOf_219 rfl (fun c => ?_) (fun c => ?_)
    · replace h := ite_t c h
      refine AW.iconst (v := (0 : Int32)) dX7_seatingsOf_225 rfl ?_
      refine AW.istore (L' := [(0, .ref (gad g 0 0)), (2, .int a2), (4, .ref (gad g 8 0)), (5, .int a5), (6, .int a6), (7, .int a7), (8, .int a8), (11, .int (0 : Int32))]) dX7_seatingsOf_226 (Nat.le_of_ble_eq_true rfl) rfl ?_
      obtain ⟨m, h⟩ := h
      refine T_X7_seatingsOf_228 (fun σ25 h => ?_) m _ _ h
      refine AW.iinc (v := (a5 + (1 : Int32))) (L' := [(0, .ref (gad g 0 0)), (2, .int a2), (4, .ref (gad g 8 0)), (5, .int (a5 + (1 : Int32))), (6, .int a6), (7, .int a7), (8, .int a8)]) dX7_seatingsOf_295 3 rfl rfl (Nat.le_of_ble_eq_true rfl) rfl ?_
      refine AW.goto (tgt := 62) dX7_seatingsOf_298 rfl ?_
      exact hk62 _ _ _ _ _ h
    · replace h := ite_f c h
      refine AW.goto (tgt := 62) dX7_seatingsOf_222 rfl ?_
      exact hk62 _ _ _ _ _ h
  · replace h := ite_f c h
    refine AW.iinc (v := (a7 + (1 : Int32))) (L' := [(0, .ref (gad g 0 0)), (2, .int a2), (4, .ref (gad g 8 0)), (5, .int a5), (6, .int a6), (7, .int (a7 + (1 : Int32))), (8, .int a8)]) dX7_seatingsOf_202 5 rfl rfl (Nat.le_of_ble_eq_true rfl) rfl ?_
    refine AW.aload dX7_seatingsOf_205 2 rfl ?_
    refine AW.iload dX7_seatingsOf_207 5 rfl ?_
    refine AW.bipush (v := (-2 : Int32)) dX7_seatingsOf_209 rfl ?_
    obtain ⟨hq26, h⟩ := h
    refine AW.iast (jn := ((a7 + (1 : Int32)).toNatClampNeg)) (id1_8_0) (fun _ => rfl) hq26 rfl dX7_seatingsOf_211 ?_
    obtain ⟨σ27, eσ27, h⟩ := h
    rw [← eσ27]
    refine AW.goto (tgt := 62) dX7_seatingsOf_212 rfl ?_
    exact hk62 _ _ _ _ _ h
def f_X7_seatingsOf_140 (a2 : Int32) (a5 : Int32) (a6 : Int32) (a7 : Int32) (a8 : Int32) (a10 : Int32) (K : Int32 → Mm → Prop) (k62 : Int32 → Int32 → Int32 → Int32 → Mm → Prop) (σ : Mm) : Prop := (if a10 = (8 : Int32) then (k62 a5 a6 (a7 + (-1 : Int32)) a8 σ) else (vp_in a7 8 ∧ (∃ σ12, σ12 = mset σ 8 0 (a7.toNatClampNeg) a10 ∧ (vp_in a7 8 ∧ (∃ σ14, σ14 = mset σ12 5 0 (a7.toNatClampNeg) a10 ∧ (if a10 < 0 then (f_X7_seatingsOf_191 a2 a5 a6 a7 (a8 + (-1 : Int32)) K k62 σ14) else (f_X7_seatingsOf_191 a2 a5 (a6 &&& (((1 : Int32) <<< (a10 &&& 31)) ^^^ (-1 : Int32))) a7 a8 K k62 σ14)))))))
set_option maxRecDepth 100000 in
set_option maxHeartbeats 4000000 in
theorem T_X7_seatingsOf_140 {g : GG} {a2 : Int32} {a5 : Int32} {a6 : Int32} {a7 : Int32} {a8 : Int32} {a10 : Int32} {K : Int32 → Mm → Prop} {k62 : Int32 → Int32 → Int32 → Int32 → Mm → Prop} {σ : Mm} (hk62 : ∀ (x5 : Int32) (x6 : Int32) (x7 : Int32) (x8 : Int32) (u : Mm), k62 x5 x6 x7 x8 u → AW g 1 M_X7_seatingsOf (QI g 1 K) 62 [(0, .ref (gad g 0 0)), (2, .int a2), (4, .ref (gad g 8 0)), (5, .int x5), (6, .int x6), (7, .int x7), (8, .int x8)] [] u) (h : f_X7_seatingsOf_140 a2 a5 a6 a7 a8 a10 K k62 σ) : AW g 1 M_X7_seatingsOf (QI g 1 K) 140 [(0, .ref (gad g 0 0)), (2, .int a2), (4, .ref (gad g 8 0)), (5, .int a5), (6, .int a6), (7, .int a7), (8, .int a8), (10, .int a10)] [] σ := by
  unfold f_X7_seatingsOf_140 at h
  refine AW.iload dX7_seatingsOf_140 7 rfl ?_
  refine AW.bipush (v := (8 : Int32)) dX7_seatingsOf_142 rfl ?_
  refine AW.icmp_ne (tgt := 153) dX7_seatingsOf_144 rfl (fun c => ?_) (fun c => ?_)
  · replace h := ite_f c h
    refine AW.aload dX7_seatingsOf_153 2 rfl ?_
    refine AW.iload dX7_seatingsOf_155 5 rfl ?_
    refine AW.iload dX7_seatingsOf_157 7 rfl ?_
    obtain ⟨hq11, h⟩ := h
    refine AW.iast (jn := (a7.toNatClampNeg)) (id1_8_0) (fun _ => rfl) hq11 rfl dX7_seatingsOf_159 ?_
    obtain ⟨σ12, eσ12, h⟩ := h
    rw [← eσ12]
    refine AW.aload_n dX7_seatingsOf_160 0 rfl ?_
    refine AW.get (k := 5) (v := .ref (gad g 5 0)) (id1_0_0) rfl rfl inGX7 (Nat.le_of_ble_eq_true rfl) w_877 rfl dX7_seatingsOf_161 ?_
    refine AW.iload dX7_seatingsOf_164 5 rfl ?_
    refine AW.iload dX7_seatingsOf_166 7 rfl ?_
    obtain ⟨hq13, h⟩ := h
    refine AW.iast (jn := (a7.toNatClampNeg)) (id1_5_0) (fun _ => rfl) hq13 rfl dX7_seatingsOf_168 ?_
    obtain ⟨σ14, eσ14, h⟩ := h
    rw [← eσ14]
    refine AW.iload dX7_seatingsOf_169 7 rfl ?_
    refine AW.if_lt (tgt := 188) dX7_seatingsOf_171 rfl (fun c => ?_) (fun c => ?_)
    · replace h := ite_t c h
      refine AW.iinc (v := (a8 + (-1 : Int32))) (L' := [(0, .ref (gad g 0 0)), (2, .int a2), (4, .ref (gad g 8 0)), (5, .int a5), (6, .int a6), (7, .int a7), (8, .int (a8 + (-1 : Int32))), (10, .int a10)]) dX7_seatingsOf_188 6 rfl rfl (Nat.le_of_ble_eq_true rfl) rfl ?_
      refine AW.eqL [0, 1, 2, 3, 4, 5, 6] rfl ?_
      exact T_X7_seatingsOf_191 hk62 h
    · replace h := ite_f c h
      refine AW.iload dX7_seatingsOf_174 4 rfl ?_
      refine AW.iconst (v := (1 : Int32)) dX7_seatingsOf_176 rfl ?_
      refine AW.iload dX7_seatingsOf_177 7 rfl ?_
      refine AW.ishl dX7_seatingsOf_179 ?_
      refine AW.iconst (v := (-1 : Int32)) dX7_seatingsOf_180 rfl ?_
      refine AW.ixor dX7_seatingsOf_181 ?_
      refine AW.iand dX7_seatingsOf_182 ?_
      refine AW.istore (L' := [(0, .ref (gad g 0 0)), (2, .int a2), (4, .ref (gad g 8 0)), (5, .int a5), (6, .int (a6 &&& (((1 : Int32) <<< (a10 &&& 31)) ^^^ (-1 : Int32)))), (7, .int a7), (8, .int a8), (10, .int a10)]) dX7_seatingsOf_183 (Nat.le_of_ble_eq_true rfl) rfl ?_
      refine AW.goto (tgt := 191) dX7_seatingsOf_185 rfl ?_
      refine AW.eqL [0, 1, 2, 3, 4, 5, 6] rfl ?_
      exact T_X7_seatingsOf_191 hk62 h
  · replace h := ite_t c h
    refine AW.iinc (v := (a7 + (-1 : Int32))) (L' := [(0, .ref (gad g 0 0)), (2, .int a2), (4, .ref (gad g 8 0)), (5, .int a5), (6, .int a6), (7, .int (a7 + (-1 : Int32))), (8, .int a8), (10, .int a10)]) dX7_seatingsOf_147 5 rfl rfl (Nat.le_of_ble_eq_true rfl) rfl ?_
    refine AW.goto (tgt := 62) dX7_seatingsOf_150 rfl ?_
    refine AW.eqL [0, 1, 2, 3, 4, 5, 6] rfl ?_
    exact hk62 _ _ _ _ _ h
def f_X7_seatingsOf_97 (a2 : Int32) (a5 : Int32) (a6 : Int32) (a7 : Int32) (a8 : Int32) (a9 : Int32) (K : Int32 → Mm → Prop) (k62 : Int32 → Int32 → Int32 → Int32 → Mm → Prop) (σ : Mm) : Prop := (∃ m, f_X7_seatingsOf_103 a2 a5 a6 a7 a8 K (fun a10x10 σ10 => (f_X7_seatingsOf_140 a2 a5 a6 a7 a8 a10x10 K k62 σ10)) m (a9 + (1 : Int32)) σ)
set_option maxRecDepth 100000 in
set_option maxHeartbeats 4000000 in
theorem T_X7_seatingsOf_97 {g : GG} {a2 : Int32} {a5 : Int32} {a6 : Int32} {a7 : Int32} {a8 : Int32} {a9 : Int32} {K : Int32 → Mm → Prop} {k62 : Int32 → Int32 → Int32 → Int32 → Mm → Prop} {σ : Mm} (hk62 : ∀ (x5 : Int32) (x6 : Int32) (x7 : Int32) (x8 : Int32) (u : Mm), k62 x5 x6 x7 x8 u → AW g 1 M_X7_seatingsOf (QI g 1 K) 62 [(0, .ref (gad g 0 0)), (2, .int a2), (4, .ref (gad g 8 0)), (5, .int x5), (6, .int x6), (7, .int x7), (8, .int x8)] [] u) (h : f_X7_seatingsOf_97 a2 a5 a6 a7 a8 a9 K k62 σ) : AW g 1 M_X7_seatingsOf (QI g 1 K) 97 [(0, .ref (gad g 0 0)), (2, .int a2), (4, .ref (gad g 8 0)), (5, .int a5), (6, .int a6), (7, .int a7), (8, .int a8), (9, .int a9)] [] σ := by
  unfold f_X7_seatingsOf_97 at h
  refine AW.iload dX7_seatingsOf_97 7 rfl ?_
  refine AW.iconst (v := (1 : Int32)) dX7_seatingsOf_99 rfl ?_
  refine AW.iadd dX7_seatingsOf_100 ?_
  refine AW.istore (L' := [(0, .ref (gad g 0 0)), (2, .int a2), (4, .ref (gad g 8 0)), (5, .int a5), (6, .int a6), (7, .int a7), (8, .int a8), (9, .int a9), (10, .int (a9 + (1 : Int32)))]) dX7_seatingsOf_101 (Nat.le_of_ble_eq_true rfl) rfl ?_
  obtain ⟨m, h⟩ := h
  refine AW.eqL [0, 1, 2, 3, 4, 5, 6, 8] rfl ?_
  refine T_X7_seatingsOf_103 (fun a10x10 σ10 h => ?_) m _ _ h
  exact T_X7_seatingsOf_140 hk62 h
def f_X7_seatingsOf_88 (a2 : Int32) (a5 : Int32) (a6 : Int32) (a7 : Int32) (a8 : Int32) (a9 : Int32) (K : Int32 → Mm → Prop) (k62 : Int32 → Int32 → Int32 → Int32 → Mm → Prop) (σ : Mm) : Prop := (if a9 = (-1 : Int32) then (f_X7_seatingsOf_97 a2 a5 a6 a7 (a8 + (1 : Int32)) a9 K k62 σ) else (f_X7_seatingsOf_97 a2 a5 a6 a7 a8 a9 K k62 σ))
set_option maxRecDepth 100000 in
set_option maxHeartbeats 4000000 in
theorem T_X7_seatingsOf_88 {g : GG} {a2 : Int32} {a5 : Int32} {a6 : Int32} {a7 : Int32} {a8 : Int32} {a9 : Int32} {K : Int32 → Mm → Prop} {k62 : Int32 → Int32 → Int32 → Int32 → Mm → Prop} {σ : Mm} (hk62 : ∀ (x5 : Int32) (x6 : Int32) (x7 : Int32) (x8 : Int32) (u : Mm), k62 x5 x6 x7 x8 u → AW g 1 M_X7_seatingsOf (QI g 1 K) 62 [(0, .ref (gad g 0 0)), (2, .int a2), (4, .ref (gad g 8 0)), (5, .int x5), (6, .int x6), (7, .int x7), (8, .int x8)] [] u) (h : f_X7_seatingsOf_88 a2 a5 a6 a7 a8 a9 K k62 σ) : AW g 1 M_X7_seatingsOf (QI g 1 K) 88 [(0, .ref (gad g 0 0)), (2, .int a2), (4, .ref (gad g 8 0)), (5, .int a5), (6, .int a6), (7, .int a7), (8, .int a8), (9, .int a9)] [] σ := by
  unfold f_X7_seatingsOf_88 at h
  refine AW.iload dX7_seatingsOf_88 7 rfl ?_
  refine AW.iconst (v := (-1 : Int32)) dX7_seatingsOf_90 rfl ?_
  refine AW.icmp_ne (tgt := 97) dX7_seatingsOf_91 rfl (fun c => ?_) (fun c => ?_)
  · replace h := ite_f c h
    exact T_X7_seatingsOf_97 hk62 h
  · replace h := ite_t c h
    refine AW.iinc (v := (a8 + (1 : Int32))) (L' := [(0, .ref (gad g 0 0)), (2, .int a2), (4, .ref (gad g 8 0)), (5, .int a5), (6, .int a6), (7, .int a7), (8, .int (a8 + (1 : Int32))), (9, .int a9)]) dX7_seatingsOf_94 6 rfl rfl (Nat.le_of_ble_eq_true rfl) rfl ?_
    exact T_X7_seatingsOf_97 hk62 h
set_option maxRecDepth 100000 in
def f_X7_seatingsOf_62 (a2 : Int32) (K : Int32 → Mm → Prop) : Nat → Int32 → Int32 → Int32 → Int32 → Mm → Prop
  | 0, _, _, _, _, _ => False
  | n + 1, a5, a6, a7, a8, σ => (if a7 < 0 then (K a5 σ) else (vp_in a7 8 ∧ (if (σ 8 0 (a7.toNatClampNeg)) < 0 then (f_X7_seatingsOf_88 a2 a5 a6 a7 a8 (σ 8 0 (a7.toNatClampNeg)) K (f_X7_seatingsOf_62 a2 K n) σ) else (f_X7_seatingsOf_88 a2 a5 (a6 ||| ((1 : Int32) <<< ((σ 8 0 (a7.toNatClampNeg)) &&& 31))) a7 a8 (σ 8 0 (a7.toNatClampNeg)) K (f_X7_seatingsOf_62 a2 K n) σ))))
set_option maxRecDepth 100000 in
set_option maxHeartbeats 4000000 in
theorem T_X7_seatingsOf_62 {g : GG} {a2 : Int32} {K : Int32 → Mm → Prop} : ∀ (n : Nat) (a5 : Int32) (a6 : Int32) (a7 : Int32) (a8 : Int32) (σ : Mm), f_X7_seatingsOf_62 a2 K n a5 a6 a7 a8 σ → AW g 1 M_X7_seatingsOf (QI g 1 K) 62 [(0, .ref (gad g 0 0)), (2, .int a2), (4, .ref (gad g 8 0)), (5, .int a5), (6, .int a6), (7, .int a7), (8, .int a8)] [] σ := by
  intro n
  induction n with
  | zero => intro a5 a6 a7 a8 σ h; exact False.elim h
  | succ n ih =>
    intro a5 a6 a7 a8 σ h
    rw [f_X7_seatingsOf_62] at h
    refine AW.iload dX7_seatingsOf_62 5 rfl ?_
    refine AW.if_lt (tgt := 301) dX7_seatingsOf_64 rfl (fun c => ?_) (fun c => ?_)
    · replace h := ite_t c h
      refine AW.iload dX7_seatingsOf_301 3 rfl ?_
      exact AW.iret rfl dX7_seatingsOf_303 h
    · replace h := ite_f c h
      refine AW.aload dX7_seatingsOf_67 2 rfl ?_
      refine AW.iload dX7_seatingsOf_69 5 rfl ?_
      obtain ⟨hq7, h⟩ := h
      refine AW.iald (jn := (a7.toNatClampNeg)) (id1_8_0) rfl hq7 rfl dX7_seatingsOf_71 ?_
      refine AW.istore (L' := [(0, .ref (gad g 0 0)), (2, .int a2), (4, .ref (gad g 8 0)), (5, .int a5), (6, .int a6), (7, .int a7), (8, .int a8), (9, .int (σ 8 0 (a7.toNatClampNeg)))]) dX7_seatingsOf_72 (Nat.le_of_ble_eq_true rfl) rfl ?_
      refine AW.iload dX7_seatingsOf_74 7 rfl ?_
      refine AW.if_lt (tgt := 88) dX7_seatingsOf_76 rfl (fun c => ?_) (fun c => ?_)
      · replace h := ite_t c h
        exact T_X7_seatingsOf_88 ih h
      · replace h := ite_f c h
        refine AW.iload dX7_seatingsOf_79 4 rfl ?_
        refine AW.iconst (v := (1 : Int32)) dX7_seatingsOf_81 rfl ?_
        refine AW.iload dX7_seatingsOf_82 7 rfl ?_
        refine AW.ishl dX7_seatingsOf_84 ?_
        refine AW.ior dX7_seatingsOf_85 ?_
        refine AW.istore (L' := [(0, .ref (gad g 0 0)), (2, .int a2), (4, .ref (gad g 8 0)), (5, .int a5), (6, .int (a6 ||| ((1 : Int32) <<< ((σ 8 0 (a7.toNatClampNeg)) &&& 31)))), (7, .int a7), (8, .int a8), (9, .int (σ 8 0 (a7.toNatClampNeg)))]) dX7_seatingsOf_86 (Nat.le_of_ble_eq_true rfl) rfl ?_
        exact T_X7_seatingsOf_88 ih h
def f_X7_seatingsOf (a1 : Int32) (a2 : Int32) (σ : Mm) (K : Int32 → Mm → Prop) : Prop := (∃ m, f_X7_seatingsOf_2 a1 a2 K (fun σ3 => (f_X7_many a1 σ3 (fun r5 σ4 => (if 0 ≤ ((σ4 0 0 7) - r5) then (∃ σ6, σ6 = mset σ4 8 0 0 (-2 : Int32) ∧ (∃ m, f_X7_seatingsOf_62 a2 K m (0 : Int32) a1 (0 : Int32) ((σ4 0 0 7) - r5) σ6)) else (K (0 : Int32) σ4))))) m (0 : Int32) σ)
set_option maxRecDepth 100000 in
set_option maxHeartbeats 4000000 in
theorem C_X7_seatingsOf {g : GG} {a1 : Int32} {a2 : Int32} {σ : Mm} {K : Int32 → Mm → Prop} (h : f_X7_seatingsOf a1 a2 σ K) : Ct g 1 M_X7_seatingsOf (QI g 1 K) [.ref (gad g 0 0), .int a1, .int a2] σ := by
  unfold f_X7_seatingsOf at h
  refine Ct.of (L := [(0, .ref (gad g 0 0)), (1, .int a1), (2, .int a2)]) (show plainName RX7 = true by decide) (Nat.le_of_ble_eq_true rfl) rfl ?_
  refine AW.iconst (v := (0 : Int32)) dX7_seatingsOf_0 rfl ?_
  refine AW.istore_n (L' := [(0, .ref (gad g 0 0)), (1, .int a1), (2, .int a2), (3, .int (0 : Int32))]) dX7_seatingsOf_1 (Nat.le_of_ble_eq_true rfl) rfl ?_
  obtain ⟨m, h⟩ := h
  refine T_X7_seatingsOf_2 (fun σ3 h => ?_) m _ _ h
  refine AW.iload_n dX7_seatingsOf_21 1 rfl ?_
  refine AW.callSI [.int a1] (C_X7_many h) ok_X7_many w_1154 rfl (Nat.le_of_ble_eq_true rfl) (Nat.le_of_ble_eq_true rfl) rfl dX7_seatingsOf_22 (fun r5 σ4 h => ?_)
  refine AW.istore_n (L' := [(0, .ref (gad g 0 0)), (1, .int a1), (2, .int a2), (3, .int r5)]) dX7_seatingsOf_25 (Nat.le_of_ble_eq_true rfl) rfl ?_
  refine AW.aload_n dX7_seatingsOf_26 0 rfl ?_
  refine AW.get (k := 10) (v := .ref (gad g 8 0)) (id1_0_0) rfl rfl inGX7 (Nat.le_of_ble_eq_true rfl) w_882 rfl dX7_seatingsOf_27 ?_
  refine AW.astore (L' := [(0, .ref (gad g 0 0)), (1, .int a1), (2, .int a2), (3, .int r5), (4, .ref (gad g 8 0))]) dX7_seatingsOf_30 (Nat.le_of_ble_eq_true rfl) rfl ?_
  refine AW.iconst (v := (0 : Int32)) dX7_seatingsOf_32 rfl ?_
  refine AW.istore (L' := [(0, .ref (gad g 0 0)), (1, .int a1), (2, .int a2), (3, .int r5), (4, .ref (gad g 8 0)), (5, .int (0 : Int32))]) dX7_seatingsOf_33 (Nat.le_of_ble_eq_true rfl) rfl ?_
  refine AW.iload_n dX7_seatingsOf_35 1 rfl ?_
  refine AW.istore (L' := [(0, .ref (gad g 0 0)), (1, .int a1), (2, .int a2), (3, .int r5), (4, .ref (gad g 8 0)), (5, .int (0 : Int32)), (6, .int a1)]) dX7_seatingsOf_36 (Nat.le_of_ble_eq_true rfl) rfl ?_
  refine AW.iconst (v := (0 : Int32)) dX7_seatingsOf_38 rfl ?_
  refine AW.istore (L' := [(0, .ref (gad g 0 0)), (1, .int a1), (2, .int a2), (3, .int r5), (4, .ref (gad g 8 0)), (5, .int (0 : Int32)), (6, .int a1), (7, .int (0 : Int32))]) dX7_seatingsOf_39 (Nat.le_of_ble_eq_true rfl) rfl ?_
  refine AW.aload_n dX7_seatingsOf_41 0 rfl ?_
  refine AW.get (k := 7) (v := .int (σ4 0 0 7)) (id1_0_0) rfl rfl inGX7 (Nat.le_of_ble_eq_true rfl) w_879 rfl dX7_seatingsOf_42 ?_
  refine AW.iload_n dX7_seatingsOf_45 3 rfl ?_
  refine AW.isub dX7_seatingsOf_46 ?_
  refine AW.istore (L' := [(0, .ref (gad g 0 0)), (1, .int a1), (2, .int a2), (3, .int r5), (4, .ref (gad g 8 0)), (5, .int (0 : Int32)), (6, .int a1), (7, .int (0 : Int32)), (8, .int ((σ4 0 0 7) - r5))]) dX7_seatingsOf_47 (Nat.le_of_ble_eq_true rfl) rfl ?_
  refine AW.iload dX7_seatingsOf_49 8 rfl ?_
  refine AW.if_ge (tgt := 56) dX7_seatingsOf_51 rfl (fun c => ?_) (fun c => ?_)
  · replace h := ite_t c h
    refine AW.aload dX7_seatingsOf_56 4 rfl ?_
    refine AW.iconst (v := (0 : Int32)) dX7_seatingsOf_58 rfl ?_
    refine AW.bipush (v := (-2 : Int32)) dX7_seatingsOf_59 rfl ?_
    refine AW.iast (jn := 0) (id1_8_0) (fun _ => rfl) (by unfold vp_in; decide) rfl dX7_seatingsOf_61 ?_
    obtain ⟨σ6, eσ6, h⟩ := h
    rw [← eσ6]
    obtain ⟨m, h⟩ := h
    refine AW.eqL [0, 2, 4, 5, 6, 7, 8] rfl ?_
    refine T_X7_seatingsOf_62 m _ _ _ _ _ h
  · replace h := ite_f c h
    refine AW.iconst (v := (0 : Int32)) dX7_seatingsOf_54 rfl ?_
    exact AW.iret rfl dX7_seatingsOf_55 h
theorem ok_X7_seatingsOf : OkV M_X7_seatingsOf 2 := ⟨w_1160, wp_52, w_9, w_1161, by decide +kernel, (Nat.le_of_ble_eq_true rfl)⟩
def M_X7_seatings : MT := (yX7_seatings, cX7_seatings, 4, some .int, 8)
def f_X7_seatings (a1 : Int32) (a2 : Int32) (σ : Mm) (K : Int32 → Mm → Prop) : Prop := (f_X7_wrongSet a1 a2 (1 : Int32) σ (fun r2 σ1 => (if 0 ≤ r2 then (f_X7_looksAt a1 σ1 (fun σ3 => (f_X7_seatingsOf a2 (-1 : Int32) σ3 (fun r5 σ4 => (K r5 σ4))))) else (f_X7_finds r2 σ1 (fun r7 σ6 => (K r7 σ6))))))
set_option maxRecDepth 100000 in
set_option maxHeartbeats 4000000 in
theorem C_X7_seatings {g : GG} {a1 : Int32} {a2 : Int32} {σ : Mm} {K : Int32 → Mm → Prop} (h : f_X7_seatings a1 a2 σ K) : Ct g 1 M_X7_seatings (QI g 1 K) [.ref (gad g 0 0), .int a1, .int a2] σ := by
  unfold f_X7_seatings at h
  refine Ct.of (L := [(0, .ref (gad g 0 0)), (1, .int a1), (2, .int a2)]) (show plainName RX7 = true by decide) (Nat.le_of_ble_eq_true rfl) rfl ?_
  refine AW.aload_n dX7_seatings_0 0 rfl ?_
  refine AW.iload_n dX7_seatings_1 1 rfl ?_
  refine AW.iload_n dX7_seatings_2 2 rfl ?_
  refine AW.iconst (v := (1 : Int32)) dX7_seatings_3 rfl ?_
  refine AW.callVI [.int a1, .int a2, .int (1 : Int32)] (C_X7_wrongSet h) ok_X7_wrongSet (id1_0_0) rfl rfl w_1146 rfl (Nat.le_of_ble_eq_true rfl) (Nat.le_of_ble_eq_true rfl) rfl dX7_seatings_4 (fun r2 σ1 h => ?_)
  refine AW.istore_n (L' := [(0, .ref (gad g 0 0)), (1, .int a1), (2, .int a2), (3, .int r2)]) dX7_seatings_7 (Nat.le_of_ble_eq_true rfl) rfl ?_
  refine AW.iload_n dX7_seatings_8 3 rfl ?_
  refine AW.if_ge (tgt := 18) dX7_seatings_9 rfl (fun c => ?_) (fun c => ?_)
  · replace h := ite_t c h
    refine AW.aload_n dX7_seatings_18 0 rfl ?_
    refine AW.iload_n dX7_seatings_19 1 rfl ?_
    refine AW.callVV [.int a1] (C_X7_looksAt h) ok_X7_looksAt (id1_0_0) rfl rfl w_1020 rfl (Nat.le_of_ble_eq_true rfl) (Nat.le_of_ble_eq_true rfl) rfl dX7_seatings_20 (fun σ3 h => ?_)
    refine AW.aload_n dX7_seatings_23 0 rfl ?_
    refine AW.iload_n dX7_seatings_24 2 rfl ?_
    refine AW.iconst (v := (-1 : Int32)) dX7_seatings_25 rfl ?_
    refine AW.callVI [.int a2, .int (-1 : Int32)] (C_X7_seatingsOf h) ok_X7_seatingsOf (id1_0_0) rfl rfl w_1158 rfl (Nat.le_of_ble_eq_true rfl) (Nat.le_of_ble_eq_true rfl) rfl dX7_seatings_26 (fun r5 σ4 h => ?_)
    exact AW.iret rfl dX7_seatings_29 h
  · replace h := ite_f c h
    refine AW.aload_n dX7_seatings_12 0 rfl ?_
    refine AW.iload_n dX7_seatings_13 3 rfl ?_
    refine AW.callVI [.int r2] (C_X7_finds h) ok_X7_finds (id1_0_0) rfl rfl w_952 rfl (Nat.le_of_ble_eq_true rfl) (Nat.le_of_ble_eq_true rfl) rfl dX7_seatings_14 (fun r7 σ6 h => ?_)
    exact AW.iret rfl dX7_seatings_17 h
theorem ok_X7_seatings : OkV M_X7_seatings 2 := ⟨w_1143, w_1144, w_9, w_1145, by decide +kernel, (Nat.le_of_ble_eq_true rfl)⟩
def M_X7_laysDown : MT := (yX7_laysDown, cX7_laysDown, 3, none, 2)
set_option maxRecDepth 100000 in
def f_X7_laysDown_2 (a1 : Int32) (K : Mm → Prop) : Nat → Int32 → Mm → Prop
  | 0, _, _ => False
  | n + 1, a2, σ => (if (σ 0 0 7) ≤ a2 then (K σ) else (f_X7_at a1 a2 σ (fun r2 σ1 => (vp_in a2 8 ∧ (vp_in r2 136 ∧ (∃ σ5, σ5 = mset σ1 1 0 (r2.toNatClampNeg) (σ1 5 0 (a2.toNatClampNeg)) ∧ (f_X7_laysDown_2 a1 K n (a2 + (1 : Int32)) σ5)))))))
set_option maxRecDepth 100000 in
set_option maxHeartbeats 4000000 in
theorem T_X7_laysDown_2 {g : GG} {a1 : Int32} {K : Mm → Prop} : ∀ (n : Nat) (a2 : Int32) (σ : Mm), f_X7_laysDown_2 a1 K n a2 σ → AW g 1 M_X7_laysDown (QV g 1 K) 2 [(0, .ref (gad g 0 0)), (1, .int a1), (2, .int a2)] [] σ := by
  intro n
  induction n with
  | zero => intro a2 σ h; exact False.elim h
  | succ n ih =>
    intro a2 σ h
    rw [f_X7_laysDown_2] at h
    refine AW.iload_n dX7_laysDown_2 2 rfl ?_
    refine AW.aload_n dX7_laysDown_3 0 rfl ?_
    refine AW.get (k := 7) (v := .int (σ 0 0 7)) (id1_0_0) rfl rfl inGX7 (Nat.le_of_ble_eq_true rfl) w_879 rfl dX7_laysDown_4 ?_
    refine AW.icmp_ge (tgt := 32) dX7_laysDown_7 rfl (fun c => ?_) (fun c => ?_)
    · replace h := ite_t c h
      exact AW.vret rfl dX7_laysDown_32 h
    · replace h := ite_f c h
      refine AW.aload_n dX7_laysDown_10 0 rfl ?_
      refine AW.get (k := 0) (v := .ref (gad g 1 0)) (id1_0_0) rfl rfl inGX7 (Nat.le_of_ble_eq_true rfl) w_872 rfl dX7_laysDown_11 ?_
      refine AW.iload_n dX7_laysDown_14 1 rfl ?_
      refine AW.iload_n dX7_laysDown_15 2 rfl ?_
      refine AW.callSI [.int a1, .int a2] (C_X7_at h) ok_X7_at w_1008 rfl (Nat.le_of_ble_eq_true rfl) (Nat.le_of_ble_eq_true rfl) rfl dX7_laysDown_16 (fun r2 σ1 h => ?_)
      refine AW.aload_n dX7_laysDown_19 0 rfl ?_
      refine AW.get (k := 5) (v := .ref (gad g 5 0)) (id1_0_0) rfl rfl inGX7 (Nat.le_of_ble_eq_true rfl) w_877 rfl dX7_laysDown_20 ?_
      refine AW.iload_n dX7_laysDown_23 2 rfl ?_
      obtain ⟨hq3, h⟩ := h
      refine AW.iald (jn := (a2.toNatClampNeg)) (id1_5_0) rfl hq3 rfl dX7_laysDown_24 ?_
      obtain ⟨hq4, h⟩ := h
      refine AW.iast (jn := (r2.toNatClampNeg)) (id1_1_0) (fun _ => rfl) hq4 rfl dX7_laysDown_25 ?_
      obtain ⟨σ5, eσ5, h⟩ := h
      rw [← eσ5]
      refine AW.iinc (v := (a2 + (1 : Int32))) (L' := [(0, .ref (gad g 0 0)), (1, .int a1), (2, .int (a2 + (1 : Int32)))]) dX7_laysDown_26 2 rfl rfl (Nat.le_of_ble_eq_true rfl) rfl ?_
      refine AW.goto (tgt := 2) dX7_laysDown_29 rfl ?_
      exact ih _ _ h
def f_X7_laysDown (a1 : Int32) (σ : Mm) (K : Mm → Prop) : Prop := (∃ m, f_X7_laysDown_2 a1 K m (0 : Int32) σ)
set_option maxRecDepth 100000 in
set_option maxHeartbeats 4000000 in
theorem C_X7_laysDown {g : GG} {a1 : Int32} {σ : Mm} {K : Mm → Prop} (h : f_X7_laysDown a1 σ K) : Ct g 1 M_X7_laysDown (QV g 1 K) [.ref (gad g 0 0), .int a1] σ := by
  unfold f_X7_laysDown at h
  refine Ct.of (L := [(0, .ref (gad g 0 0)), (1, .int a1)]) (show plainName RX7 = true by decide) (Nat.le_of_ble_eq_true rfl) rfl ?_
  refine AW.iconst (v := (0 : Int32)) dX7_laysDown_0 rfl ?_
  refine AW.istore_n (L' := [(0, .ref (gad g 0 0)), (1, .int a1), (2, .int (0 : Int32))]) dX7_laysDown_1 (Nat.le_of_ble_eq_true rfl) rfl ?_
  obtain ⟨m, h⟩ := h
  refine T_X7_laysDown_2 m _ _ h
theorem ok_X7_laysDown : OkV M_X7_laysDown 1 := ⟨w_1168, wp_53, w_9, w_1169, by decide +kernel, (Nat.le_of_ble_eq_true rfl)⟩
def M_X7_lay : MT := (yX7_lay, cX7_lay, 6, some .int, 8)
set_option maxRecDepth 100000 in
def f_X7_lay_54 (a1 : Int32) (a2 : Int32) (K : Int32 → Mm → Prop) (k83 : Mm → Prop) : Nat → Int32 → Mm → Prop
  | 0, _, _ => False
  | n + 1, a5, σ => (if (8 : Int32) ≤ a5 then (k83 σ) else (f_X7_has a2 a5 σ (fun b7 σ6 => (if b7 = true then (f_X7_rises a5 σ6 (fun b9 σ8 => (f_X7_lay_54 a1 a2 K k83 n (a5 + (1 : Int32)) σ8))) else (f_X7_lay_54 a1 a2 K k83 n (a5 + (1 : Int32)) σ6)))))
set_option maxRecDepth 100000 in
set_option maxHeartbeats 4000000 in
theorem T_X7_lay_54 {g : GG} {a1 : Int32} {a2 : Int32} {K : Int32 → Mm → Prop} {k83 : Mm → Prop} (hk83 : ∀  (u : Mm), k83  u → AW g 1 M_X7_lay (QI g 1 K) 83 [(0, .ref (gad g 0 0)), (1, .int a1)] [] u) : ∀ (n : Nat) (a5 : Int32) (σ : Mm), f_X7_lay_54 a1 a2 K k83 n a5 σ → AW g 1 M_X7_lay (QI g 1 K) 54 [(0, .ref (gad g 0 0)), (1, .int a1), (2, .int a2), (5, .int a5)] [] σ := by
  intro n
  induction n with
  | zero => intro a5 σ h; exact False.elim h
  | succ n ih =>
    intro a5 σ h
    rw [f_X7_lay_54] at h
    refine AW.iload dX7_lay_54 3 rfl ?_
    refine AW.bipush (v := (8 : Int32)) dX7_lay_56 rfl ?_
    refine AW.icmp_ge (tgt := 83) dX7_lay_58 rfl (fun c => ?_) (fun c => ?_)
    · replace h := ite_t c h
      refine AW.eqL [0, 1] rfl ?_
      exact hk83 _ h
    · replace h := ite_f c h
      refine AW.iload_n dX7_lay_61 2 rfl ?_
      refine AW.iload dX7_lay_62 3 rfl ?_
      refine AW.callSB [.int a2, .int a5] (C_X7_has h) ok_X7_has w_1125 rfl (Nat.le_of_ble_eq_true rfl) (Nat.le_of_ble_eq_true rfl) rfl dX7_lay_64 (fun b7 σ6 h => ?_)
      refine AW.ifb_eq (tgt := 77) dX7_lay_67 rfl (fun c => ?_) (fun c => ?_)
      · replace h := ite_f c h
        refine AW.iinc (v := (a5 + (1 : Int32))) (L' := [(0, .ref (gad g 0 0)), (1, .int a1), (2, .int a2), (5, .int (a5 + (1 : Int32)))]) dX7_lay_77 3 rfl rfl (Nat.le_of_ble_eq_true rfl) rfl ?_
        refine AW.goto (tgt := 54) dX7_lay_80 rfl ?_
        exact ih _ _ h
      · replace h := ite_t c h
        refine AW.aload_n dX7_lay_70 0 rfl ?_
        refine AW.iload dX7_lay_71 3 rfl ?_
        refine AW.callVB [.int a5] (C_X7_rises h) ok_X7_rises (id1_0_0) rfl rfl w_1090 rfl (Nat.le_of_ble_eq_true rfl) (Nat.le_of_ble_eq_true rfl) rfl dX7_lay_73 (fun b9 σ8 h => ?_)
        refine AW.pop dX7_lay_76 rfl ?_
        refine AW.iinc (v := (a5 + (1 : Int32))) (L' := [(0, .ref (gad g 0 0)), (1, .int a1), (2, .int a2), (5, .int (a5 + (1 : Int32)))]) dX7_lay_77 3 rfl rfl (Nat.le_of_ble_eq_true rfl) rfl ?_
        refine AW.goto (tgt := 54) dX7_lay_80 rfl ?_
        exact ih _ _ h
set_option maxRecDepth 100000 in
def f_X7_lay_86 (a1 : Int32) (K : Int32 → Mm → Prop) : Nat → Int32 → Mm → Prop
  | 0, _, _ => False
  | n + 1, a5, σ => (if (σ 0 0 7) ≤ a5 then (f_X7_laysDown a1 σ (fun σ11 => (K (1 : Int32) σ11))) else (vp_in a5 8 ∧ (vp_in a5 8 ∧ (∃ σ14, σ14 = mset σ 5 0 (a5.toNatClampNeg) (σ 7 0 (a5.toNatClampNeg)) ∧ (f_X7_lay_86 a1 K n (a5 + (1 : Int32)) σ14)))))
set_option maxRecDepth 100000 in
set_option maxHeartbeats 4000000 in
theorem T_X7_lay_86 {g : GG} {a1 : Int32} {K : Int32 → Mm → Prop} : ∀ (n : Nat) (a5 : Int32) (σ : Mm), f_X7_lay_86 a1 K n a5 σ → AW g 1 M_X7_lay (QI g 1 K) 86 [(0, .ref (gad g 0 0)), (1, .int a1), (5, .int a5)] [] σ := by
  intro n
  induction n with
  | zero => intro a5 σ h; exact False.elim h
  | succ n ih =>
    intro a5 σ h
    rw [f_X7_lay_86] at h
    refine AW.iload dX7_lay_86 2 rfl ?_
    refine AW.aload_n dX7_lay_88 0 rfl ?_
    refine AW.get (k := 7) (v := .int (σ 0 0 7)) (id1_0_0) rfl rfl inGX7 (Nat.le_of_ble_eq_true rfl) w_879 rfl dX7_lay_89 ?_
    refine AW.icmp_ge (tgt := 115) dX7_lay_92 rfl (fun c => ?_) (fun c => ?_)
    · replace h := ite_t c h
      refine AW.aload_n dX7_lay_115 0 rfl ?_
      refine AW.iload_n dX7_lay_116 1 rfl ?_
      refine AW.callVV [.int a1] (C_X7_laysDown h) ok_X7_laysDown (id1_0_0) rfl rfl w_1166 rfl (Nat.le_of_ble_eq_true rfl) (Nat.le_of_ble_eq_true rfl) rfl dX7_lay_117 (fun σ11 h => ?_)
      refine AW.iconst (v := (1 : Int32)) dX7_lay_120 rfl ?_
      exact AW.iret rfl dX7_lay_121 h
    · replace h := ite_f c h
      refine AW.aload_n dX7_lay_95 0 rfl ?_
      refine AW.get (k := 5) (v := .ref (gad g 5 0)) (id1_0_0) rfl rfl inGX7 (Nat.le_of_ble_eq_true rfl) w_877 rfl dX7_lay_96 ?_
      refine AW.iload dX7_lay_99 2 rfl ?_
      refine AW.aload_n dX7_lay_101 0 rfl ?_
      refine AW.get (k := 9) (v := .ref (gad g 7 0)) (id1_0_0) rfl rfl inGX7 (Nat.le_of_ble_eq_true rfl) w_881 rfl dX7_lay_102 ?_
      refine AW.iload dX7_lay_105 2 rfl ?_
      obtain ⟨hq12, h⟩ := h
      refine AW.iald (jn := (a5.toNatClampNeg)) (id1_7_0) rfl hq12 rfl dX7_lay_107 ?_
      obtain ⟨hq13, h⟩ := h
      refine AW.iast (jn := (a5.toNatClampNeg)) (id1_5_0) (fun _ => rfl) hq13 rfl dX7_lay_108 ?_
      obtain ⟨σ14, eσ14, h⟩ := h
      rw [← eσ14]
      refine AW.iinc (v := (a5 + (1 : Int32))) (L' := [(0, .ref (gad g 0 0)), (1, .int a1), (5, .int (a5 + (1 : Int32)))]) dX7_lay_109 2 rfl rfl (Nat.le_of_ble_eq_true rfl) rfl ?_
      refine AW.goto (tgt := 86) dX7_lay_112 rfl ?_
      exact ih _ _ h
def f_X7_lay_12 (a1 : Int32) (a2 : Int32) (a3 : Int32) (as3 : Int32) (as2 : Int32) (as1 : Int32) (K : Int32 → Mm → Prop) (σ : Mm) : Prop := (f_X7_wrongSet as1 as2 as3 σ (fun r2 σ1 => (if 0 ≤ r2 then (f_X7_looksAt a1 σ1 (fun σ3 => (f_X7_seatingsOf a2 a3 σ3 (fun r5 σ4 => (if a3 < r5 then (∃ m, f_X7_lay_54 a1 a2 K (fun σ10 => (∃ m, f_X7_lay_86 a1 K m (0 : Int32) σ10)) m (0 : Int32) σ4) else (f_X7_finds (-1000004 : Int32) σ4 (fun r16 σ15 => (K r16 σ15)))))))) else (f_X7_finds r2 σ1 (fun r18 σ17 => (K r18 σ17))))))
set_option maxRecDepth 100000 in
set_option maxHeartbeats 4000000 in
theorem T_X7_lay_12 {g : GG} {a1 : Int32} {a2 : Int32} {a3 : Int32} {as3 : Int32} {as2 : Int32} {as1 : Int32} {K : Int32 → Mm → Prop} {σ : Mm} (h : f_X7_lay_12 a1 a2 a3 as3 as2 as1 K σ) : AW g 1 M_X7_lay (QI g 1 K) 12 [(0, .ref (gad g 0 0)), (1, .int a1), (2, .int a2), (3, .int a3)] [.int as3, .int as2, .int as1, .ref (gad g 0 0)] σ := by
  unfold f_X7_lay_12 at h
  refine AW.callVI [.int as1, .int as2, .int as3] (C_X7_wrongSet h) ok_X7_wrongSet (id1_0_0) rfl rfl w_1146 rfl (Nat.le_of_ble_eq_true rfl) (Nat.le_of_ble_eq_true rfl) rfl dX7_lay_12 (fun r2 σ1 h => ?_)
  refine AW.istore (L' := [(0, .ref (gad g 0 0)), (1, .int a1), (2, .int a2), (3, .int a3), (4, .int r2)]) dX7_lay_15 (Nat.le_of_ble_eq_true rfl) rfl ?_
  refine AW.iload dX7_lay_17 4 rfl ?_
  refine AW.if_ge (tgt := 29) dX7_lay_19 rfl (fun c => ?_) (fun c => ?_)
  · replace h := ite_t c h
    refine AW.aload_n dX7_lay_29 0 rfl ?_
    refine AW.iload_n dX7_lay_30 1 rfl ?_
    refine AW.callVV [.int a1] (C_X7_looksAt h) ok_X7_looksAt (id1_0_0) rfl rfl w_1020 rfl (Nat.le_of_ble_eq_true rfl) (Nat.le_of_ble_eq_true rfl) rfl dX7_lay_31 (fun σ3 h => ?_)
    refine AW.aload_n dX7_lay_34 0 rfl ?_
    refine AW.iload_n dX7_lay_35 2 rfl ?_
    refine AW.iload_n dX7_lay_36 3 rfl ?_
    refine AW.callVI [.int a2, .int a3] (C_X7_seatingsOf h) ok_X7_seatingsOf (id1_0_0) rfl rfl w_1158 rfl (Nat.le_of_ble_eq_true rfl) (Nat.le_of_ble_eq_true rfl) rfl dX7_lay_37 (fun r5 σ4 h => ?_)
    refine AW.iload_n dX7_lay_40 3 rfl ?_
    refine AW.icmp_gt (tgt := 51) dX7_lay_41 rfl (fun c => ?_) (fun c => ?_)
    · replace h := ite_t c h
      refine AW.iconst (v := (0 : Int32)) dX7_lay_51 rfl ?_
      refine AW.istore (L' := [(0, .ref (gad g 0 0)), (1, .int a1), (2, .int a2), (3, .int a3), (4, .int r2), (5, .int (0 : Int32))]) dX7_lay_52 (Nat.le_of_ble_eq_true rfl) rfl ?_
      obtain ⟨m, h⟩ := h
      refine AW.eqL [0, 1, 2, 5] rfl ?_
      refine T_X7_lay_54 (fun σ10 h => ?_) m _ _ h
      refine AW.iconst (v := (0 : Int32)) dX7_lay_83 rfl ?_
      refine AW.istore (L' := [(0, .ref (gad g 0 0)), (1, .int a1), (5, .int (0 : Int32))]) dX7_lay_84 (Nat.le_of_ble_eq_true rfl) rfl ?_
      obtain ⟨m, h⟩ := h
      refine T_X7_lay_86 m _ _ h
    · replace h := ite_f c h
      refine AW.aload_n dX7_lay_44 0 rfl ?_
      refine AW.ldc (v := (-1000004 : Int32)) dX7_lay_45 w_1084 ?_
      refine AW.callVI [.int (-1000004 : Int32)] (C_X7_finds h) ok_X7_finds (id1_0_0) rfl rfl w_952 rfl (Nat.le_of_ble_eq_true rfl) (Nat.le_of_ble_eq_true rfl) rfl dX7_lay_47 (fun r16 σ15 h => ?_)
      exact AW.iret rfl dX7_lay_50 h
  · replace h := ite_f c h
    refine AW.aload_n dX7_lay_22 0 rfl ?_
    refine AW.iload dX7_lay_23 4 rfl ?_
    refine AW.callVI [.int r2] (C_X7_finds h) ok_X7_finds (id1_0_0) rfl rfl w_952 rfl (Nat.le_of_ble_eq_true rfl) (Nat.le_of_ble_eq_true rfl) rfl dX7_lay_25 (fun r18 σ17 h => ?_)
    exact AW.iret rfl dX7_lay_28 h
def f_X7_lay (a1 : Int32) (a2 : Int32) (a3 : Int32) (σ : Mm) (K : Int32 → Mm → Prop) : Prop := (if a3 < 0 then (f_X7_lay_12 a1 a2 a3 (0 : Int32) a2 a1 K σ) else (f_X7_lay_12 a1 a2 a3 (1 : Int32) a2 a1 K σ))
set_option maxRecDepth 100000 in
set_option maxHeartbeats 4000000 in
theorem C_X7_lay {g : GG} {a1 : Int32} {a2 : Int32} {a3 : Int32} {σ : Mm} {K : Int32 → Mm → Prop} (h : f_X7_lay a1 a2 a3 σ K) : Ct g 1 M_X7_lay (QI g 1 K) [.ref (gad g 0 0), .int a1, .int a2, .int a3] σ := by
  unfold f_X7_lay at h
  refine Ct.of (L := [(0, .ref (gad g 0 0)), (1, .int a1), (2, .int a2), (3, .int a3)]) (show plainName RX7 = true by decide) (Nat.le_of_ble_eq_true rfl) rfl ?_
  refine AW.aload_n dX7_lay_0 0 rfl ?_
  refine AW.iload_n dX7_lay_1 1 rfl ?_
  refine AW.iload_n dX7_lay_2 2 rfl ?_
  refine AW.iload_n dX7_lay_3 3 rfl ?_
  refine AW.if_lt (tgt := 11) dX7_lay_4 rfl (fun c => ?_) (fun c => ?_)
  · replace h := ite_t c h
    refine AW.iconst (v := (0 : Int32)) dX7_lay_11 rfl ?_
    exact T_X7_lay_12 h
  · replace h := ite_f c h
    refine AW.iconst (v := (1 : Int32)) dX7_lay_7 rfl ?_
    refine AW.goto (tgt := 12) dX7_lay_8 rfl ?_
    exact T_X7_lay_12 h
theorem ok_X7_lay : OkV M_X7_lay 3 := ⟨w_1163, w_1164, w_9, w_1165, by decide +kernel, (Nat.le_of_ble_eq_true rfl)⟩
def M_X7_most : MT := (yX7_most, cX7_most, 5, some .int, 8)
set_option maxRecDepth 100000 in
def f_X7_most_48 (a2 : Int32) (K : Int32 → Mm → Prop) : Nat → Int32 → Int32 → Mm → Prop
  | 0, _, _, _ => False
  | n + 1, a3, a4, σ => (if a2 < a4 then (K a3 σ) else (if (a4 &&& (a2 ^^^ (-1 : Int32))) = 0 then (f_X7_many a4 σ (fun r11 σ10 => (f_X7_many a3 σ10 (fun r13 σ12 => (if r13 < r11 then (f_X7_seatingsOf a4 (-1 : Int32) σ12 (fun r15 σ14 => (if r15 ≤ 0 then (f_X7_most_48 a2 K n a3 (a4 + (1 : Int32)) σ14) else (f_X7_most_48 a2 K n a4 (a4 + (1 : Int32)) σ14)))) else (f_X7_most_48 a2 K n a3 (a4 + (1 : Int32)) σ12)))))) else (f_X7_most_48 a2 K n a3 (a4 + (1 : Int32)) σ)))
set_option maxRecDepth 100000 in
set_option maxHeartbeats 4000000 in
theorem T_X7_most_48 {g : GG} {a2 : Int32} {K : Int32 → Mm → Prop} : ∀ (n : Nat) (a3 : Int32) (a4 : Int32) (σ : Mm), f_X7_most_48 a2 K n a3 a4 σ → AW g 1 M_X7_most (QI g 1 K) 48 [(0, .ref (gad g 0 0)), (2, .int a2), (3, .int a3), (4, .int a4)] [] σ := by
  intro n
  induction n with
  | zero => intro a3 a4 σ h; exact False.elim h
  | succ n ih =>
    intro a3 a4 σ h
    rw [f_X7_most_48] at h
    refine AW.iload dX7_most_48 3 rfl ?_
    refine AW.iload_n dX7_most_50 1 rfl ?_
    refine AW.icmp_gt (tgt := 97) dX7_most_51 rfl (fun c => ?_) (fun c => ?_)
    · replace h := ite_t c h
      refine AW.iload_n dX7_most_97 2 rfl ?_
      exact AW.iret rfl dX7_most_98 h
    · replace h := ite_f c h
      refine AW.iload dX7_most_54 3 rfl ?_
      refine AW.iload_n dX7_most_56 1 rfl ?_
      refine AW.iconst (v := (-1 : Int32)) dX7_most_57 rfl ?_
      refine AW.ixor dX7_most_58 ?_
      refine AW.iand dX7_most_59 ?_
      refine AW.if_ne (tgt := 91) dX7_most_60 rfl (fun c => ?_) (fun c => ?_)
      · replace h := ite_f c h
        refine AW.iinc (v := (a4 + (1 : Int32))) (L' := [(0, .ref (gad g 0 0)), (2, .int a2), (3, .int a3), (4, .int (a4 + (1 : Int32)))]) dX7_most_91 3 rfl rfl (Nat.le_of_ble_eq_true rfl) rfl ?_
        refine AW.goto (tgt := 48) dX7_most_94 rfl ?_
        exact ih _ _ _ h
      · replace h := ite_t c h
        refine AW.iload dX7_most_63 3 rfl ?_
        refine AW.callSI [.int a4] (C_X7_many h) ok_X7_many w_1154 rfl (Nat.le_of_ble_eq_true rfl) (Nat.le_of_ble_eq_true rfl) rfl dX7_most_65 (fun r11 σ10 h => ?_)
        refine AW.iload_n dX7_most_68 2 rfl ?_
        refine AW.callSI [.int a3] (C_X7_many h) ok_X7_many w_1154 rfl (Nat.le_of_ble_eq_true rfl) (Nat.le_of_ble_eq_true rfl) rfl dX7_most_69 (fun r13 σ12 h => ?_)
        refine AW.icmp_gt (tgt := 78) dX7_most_72 rfl (fun c => ?_) (fun c => ?_)
        · replace h := ite_t c h
          refine AW.aload_n dX7_most_78 0 rfl ?_
          refine AW.iload dX7_most_79 3 rfl ?_
          refine AW.iconst (v := (-1 : Int32)) dX7_most_81 rfl ?_
          refine AW.callVI [.int a4, .int (-1 : Int32)] (C_X7_seatingsOf h) ok_X7_seatingsOf (id1_0_0) rfl rfl w_1158 rfl (Nat.le_of_ble_eq_true rfl) (Nat.le_of_ble_eq_true rfl) rfl dX7_most_82 (fun r15 σ14 h => ?_)
          refine AW.if_le (tgt := 91) dX7_most_85 rfl (fun c => ?_) (fun c => ?_)
          · replace h := ite_t c h
            refine AW.iinc (v := (a4 + (1 : Int32))) (L' := [(0, .ref (gad g 0 0)), (2, .int a2), (3, .int a3), (4, .int (a4 + (1 : Int32)))]) dX7_most_91 3 rfl rfl (Nat.le_of_ble_eq_true rfl) rfl ?_
            refine AW.goto (tgt := 48) dX7_most_94 rfl ?_
            exact ih _ _ _ h
          · replace h := ite_f c h
            refine AW.iload dX7_most_88 3 rfl ?_
            refine AW.istore_n (L' := [(0, .ref (gad g 0 0)), (2, .int a2), (3, .int a4), (4, .int a4)]) dX7_most_90 (Nat.le_of_ble_eq_true rfl) rfl ?_
            refine AW.iinc (v := (a4 + (1 : Int32))) (L' := [(0, .ref (gad g 0 0)), (2, .int a2), (3, .int a4), (4, .int (a4 + (1 : Int32)))]) dX7_most_91 3 rfl rfl (Nat.le_of_ble_eq_true rfl) rfl ?_
            refine AW.goto (tgt := 48) dX7_most_94 rfl ?_
            exact ih _ _ _ h
        · replace h := ite_f c h
          refine AW.goto (tgt := 91) dX7_most_75 rfl ?_
          refine AW.iinc (v := (a4 + (1 : Int32))) (L' := [(0, .ref (gad g 0 0)), (2, .int a2), (3, .int a3), (4, .int (a4 + (1 : Int32)))]) dX7_most_91 3 rfl rfl (Nat.le_of_ble_eq_true rfl) rfl ?_
          refine AW.goto (tgt := 48) dX7_most_94 rfl ?_
          exact ih _ _ _ h
def f_X7_most (a1 : Int32) (a2 : Int32) (σ : Mm) (K : Int32 → Mm → Prop) : Prop := (f_X7_isBench a1 σ (fun b2 σ1 => (if b2 = true then (f_X7_isSet a2 σ1 (fun b6 σ5 => (if b6 = true then (f_X7_many a2 σ5 (fun r8 σ7 => (if r8 ≤ (6 : Int32) then (f_X7_looksAt a1 σ7 (fun σ9 => (∃ m, f_X7_most_48 a2 K m (0 : Int32) (1 : Int32) σ9))) else (f_X7_finds (-1000007 : Int32) σ7 (fun r17 σ16 => (K r17 σ16)))))) else (f_X7_finds (-1000001 : Int32) σ5 (fun r19 σ18 => (K r19 σ18)))))) else (f_X7_finds (-1000001 : Int32) σ1 (fun r4 σ3 => (K r4 σ3))))))
set_option maxRecDepth 100000 in
set_option maxHeartbeats 4000000 in
theorem C_X7_most {g : GG} {a1 : Int32} {a2 : Int32} {σ : Mm} {K : Int32 → Mm → Prop} (h : f_X7_most a1 a2 σ K) : Ct g 1 M_X7_most (QI g 1 K) [.ref (gad g 0 0), .int a1, .int a2] σ := by
  unfold f_X7_most at h
  refine Ct.of (L := [(0, .ref (gad g 0 0)), (1, .int a1), (2, .int a2)]) (show plainName RX7 = true by decide) (Nat.le_of_ble_eq_true rfl) rfl ?_
  refine AW.aload_n dX7_most_0 0 rfl ?_
  refine AW.iload_n dX7_most_1 1 rfl ?_
  refine AW.callVB [.int a1] (C_X7_isBench h) ok_X7_isBench (id1_0_0) rfl rfl w_1015 rfl (Nat.le_of_ble_eq_true rfl) (Nat.le_of_ble_eq_true rfl) rfl dX7_most_2 (fun b2 σ1 h => ?_)
  refine AW.ifb_eq (tgt := 15) dX7_most_5 rfl (fun c => ?_) (fun c => ?_)
  · replace h := ite_f c h
    refine AW.aload_n dX7_most_15 0 rfl ?_
    refine AW.ldc (v := (-1000001 : Int32)) dX7_most_16 w_951 ?_
    refine AW.callVI [.int (-1000001 : Int32)] (C_X7_finds h) ok_X7_finds (id1_0_0) rfl rfl w_952 rfl (Nat.le_of_ble_eq_true rfl) (Nat.le_of_ble_eq_true rfl) rfl dX7_most_18 (fun r4 σ3 h => ?_)
    exact AW.iret rfl dX7_most_21 h
  · replace h := ite_t c h
    refine AW.iload_n dX7_most_8 2 rfl ?_
    refine AW.callSB [.int a2] (C_X7_isSet h) ok_X7_isSet w_1150 rfl (Nat.le_of_ble_eq_true rfl) (Nat.le_of_ble_eq_true rfl) rfl dX7_most_9 (fun b6 σ5 h => ?_)
    refine AW.ifb_ne (tgt := 22) dX7_most_12 rfl (fun c => ?_) (fun c => ?_)
    · replace h := ite_t c h
      refine AW.iload_n dX7_most_22 2 rfl ?_
      refine AW.callSI [.int a2] (C_X7_many h) ok_X7_many w_1154 rfl (Nat.le_of_ble_eq_true rfl) (Nat.le_of_ble_eq_true rfl) rfl dX7_most_23 (fun r8 σ7 h => ?_)
      refine AW.bipush (v := (6 : Int32)) dX7_most_26 rfl ?_
      refine AW.icmp_le (tgt := 38) dX7_most_28 rfl (fun c => ?_) (fun c => ?_)
      · replace h := ite_t c h
        refine AW.aload_n dX7_most_38 0 rfl ?_
        refine AW.iload_n dX7_most_39 1 rfl ?_
        refine AW.callVV [.int a1] (C_X7_looksAt h) ok_X7_looksAt (id1_0_0) rfl rfl w_1020 rfl (Nat.le_of_ble_eq_true rfl) (Nat.le_of_ble_eq_true rfl) rfl dX7_most_40 (fun σ9 h => ?_)
        refine AW.iconst (v := (0 : Int32)) dX7_most_43 rfl ?_
        refine AW.istore_n (L' := [(0, .ref (gad g 0 0)), (1, .int a1), (2, .int a2), (3, .int (0 : Int32))]) dX7_most_44 (Nat.le_of_ble_eq_true rfl) rfl ?_
        refine AW.iconst (v := (1 : Int32)) dX7_most_45 rfl ?_
        refine AW.istore (L' := [(0, .ref (gad g 0 0)), (1, .int a1), (2, .int a2), (3, .int (0 : Int32)), (4, .int (1 : Int32))]) dX7_most_46 (Nat.le_of_ble_eq_true rfl) rfl ?_
        obtain ⟨m, h⟩ := h
        refine AW.eqL [0, 2, 3, 4] rfl ?_
        refine T_X7_most_48 m _ _ _ h
      · replace h := ite_f c h
        refine AW.aload_n dX7_most_31 0 rfl ?_
        refine AW.ldc (v := (-1000007 : Int32)) dX7_most_32 w_1157 ?_
        refine AW.callVI [.int (-1000007 : Int32)] (C_X7_finds h) ok_X7_finds (id1_0_0) rfl rfl w_952 rfl (Nat.le_of_ble_eq_true rfl) (Nat.le_of_ble_eq_true rfl) rfl dX7_most_34 (fun r17 σ16 h => ?_)
        exact AW.iret rfl dX7_most_37 h
    · replace h := ite_f c h
      refine AW.aload_n dX7_most_15 0 rfl ?_
      refine AW.ldc (v := (-1000001 : Int32)) dX7_most_16 w_951 ?_
      refine AW.callVI [.int (-1000001 : Int32)] (C_X7_finds h) ok_X7_finds (id1_0_0) rfl rfl w_952 rfl (Nat.le_of_ble_eq_true rfl) (Nat.le_of_ble_eq_true rfl) rfl dX7_most_18 (fun r19 σ18 h => ?_)
      exact AW.iret rfl dX7_most_21 h
theorem ok_X7_most : OkV M_X7_most 2 := ⟨w_1171, w_1172, w_9, w_1173, by decide +kernel, (Nat.le_of_ble_eq_true rfl)⟩
