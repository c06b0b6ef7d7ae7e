def M_X7_in : MT := (yX7_in, cX7_in, 6, some .boolean, 1)
def f_X7_in (a0 : Int64) (a2 : Int64) (a4 : Int64) (σ : Mm) (K : Bool → Mm → Prop) : Prop := (if (lg_cmp a0 a2) < 0 then (K false σ) else (if 0 < (lg_cmp a0 a4) then (K false σ) else (K true σ)))
set_option maxRecDepth 100000 in
set_option maxHeartbeats 4000000 in
theorem C_X7_in {g : GG} {a0 : Int64} {a2 : Int64} {a4 : Int64} {σ : Mm} {K : Bool → Mm → Prop} (h : f_X7_in a0 a2 a4 σ K) : Ct g 1 M_X7_in (QB g 1 K) [.long a0, .long a2, .long a4] σ := by
  unfold f_X7_in at h
  refine Ct.of (L := [(0, .long a0), (2, .long a2), (4, .long a4)]) (show plainName RX7 = true by decide) (Nat.le_of_ble_eq_true rfl) rfl ?_
  refine AW.lload_n dX7_in_0 0 rfl ?_
  refine AW.lload_n dX7_in_1 1 rfl ?_
  refine AW.lcmp dX7_in_2 ?_
  refine AW.if_lt (tgt := 17) dX7_in_3 rfl (fun c => ?_) (fun c => ?_)
  · replace h := ite_t c h
    refine AW.iconst (v := (0 : Int32)) dX7_in_17 rfl ?_
    exact AW.bret false rfl rfl dX7_in_18 h
  · replace h := ite_f c h
    refine AW.lload_n dX7_in_6 0 rfl ?_
    refine AW.lload dX7_in_7 2 rfl ?_
    refine AW.lcmp dX7_in_9 ?_
    refine AW.if_gt (tgt := 17) dX7_in_10 rfl (fun c => ?_) (fun c => ?_)
    · replace h := ite_t c h
      refine AW.iconst (v := (0 : Int32)) dX7_in_17 rfl ?_
      exact AW.bret false rfl rfl dX7_in_18 h
    · replace h := ite_f c h
      refine AW.iconst (v := (1 : Int32)) dX7_in_13 rfl ?_
      refine AW.goto (tgt := 18) dX7_in_14 rfl ?_
      exact AW.bret true rfl rfl dX7_in_18 h
theorem ok_X7_in : OkS M_X7_in 3 := ⟨w_948, w_9, w_949, by decide +kernel, (Nat.le_of_ble_eq_true rfl)⟩
def M_X7_isPerson : MT := (yX7_isPerson, cX7_isPerson, 1, some .boolean, 2)
def f_X7_isPerson (a0 : Int32) (σ : Mm) (K : Bool → Mm → Prop) : Prop := (f_X7_in ((a0).toInt64) (0 : Int64) (7 : Int64) σ (fun b2 σ1 => (K b2 σ1)))
set_option maxRecDepth 100000 in
set_option maxHeartbeats 4000000 in
theorem C_X7_isPerson {g : GG} {a0 : Int32} {σ : Mm} {K : Bool → Mm → Prop} (h : f_X7_isPerson a0 σ K) : Ct g 1 M_X7_isPerson (QB g 1 K) [.int a0] σ := by
  unfold f_X7_isPerson at h
  refine Ct.of (L := [(0, .int a0)]) (show plainName RX7 = true by decide) (Nat.le_of_ble_eq_true rfl) rfl ?_
  refine AW.iload_n dX7_isPerson_0 0 rfl ?_
  refine AW.i2l dX7_isPerson_1 ?_
  refine AW.lconst (v := (0 : Int64)) dX7_isPerson_2 rfl ?_
  refine AW.ldc2 (v := (7 : Int64)) dX7_isPerson_3 w_946 ?_
  refine AW.callSB [.long ((a0).toInt64), .long (0 : Int64), .long (7 : Int64)] (C_X7_in h) ok_X7_in w_947 rfl (Nat.le_of_ble_eq_true rfl) (Nat.le_of_ble_eq_true rfl) rfl dX7_isPerson_6 (fun b2 σ1 h => ?_)
  exact AW.bret b2 rfl rfl dX7_isPerson_9 h
theorem ok_X7_isPerson : OkS M_X7_isPerson 1 := ⟨w_944, w_9, w_945, by decide +kernel, (Nat.le_of_ble_eq_true rfl)⟩
def M_X7_areTwo : MT := (yX7_areTwo, cX7_areTwo, 2, some .boolean, 3)
def f_X7_areTwo (a0 : Int32) (a1 : Int32) (σ : Mm) (K : Bool → Mm → Prop) : Prop := (f_X7_isPerson a0 σ (fun b2 σ1 => (if b2 = true then (f_X7_isPerson a1 σ1 (fun b4 σ3 => (if b4 = true then (if a0 = a1 then (K false σ3) else (K true σ3)) else (K false σ3)))) else (K false σ1))))
set_option maxRecDepth 100000 in
set_option maxHeartbeats 4000000 in
theorem C_X7_areTwo {g : GG} {a0 : Int32} {a1 : Int32} {σ : Mm} {K : Bool → Mm → Prop} (h : f_X7_areTwo a0 a1 σ K) : Ct g 1 M_X7_areTwo (QB g 1 K) [.int a0, .int a1] σ := by
  unfold f_X7_areTwo at h
  refine Ct.of (L := [(0, .int a0), (1, .int a1)]) (show plainName RX7 = true by decide) (Nat.le_of_ble_eq_true rfl) rfl ?_
  refine AW.iload_n dX7_areTwo_0 0 rfl ?_
  refine AW.callSB [.int a0] (C_X7_isPerson h) ok_X7_isPerson w_943 rfl (Nat.le_of_ble_eq_true rfl) (Nat.le_of_ble_eq_true rfl) rfl dX7_areTwo_1 (fun b2 σ1 h => ?_)
  refine AW.ifb_eq (tgt := 23) dX7_areTwo_4 rfl (fun c => ?_) (fun c => ?_)
  · replace h := ite_f c h
    refine AW.iconst (v := (0 : Int32)) dX7_areTwo_23 rfl ?_
    exact AW.bret false rfl rfl dX7_areTwo_24 h
  · replace h := ite_t c h
    refine AW.iload_n dX7_areTwo_7 1 rfl ?_
    refine AW.callSB [.int a1] (C_X7_isPerson h) ok_X7_isPerson w_943 rfl (Nat.le_of_ble_eq_true rfl) (Nat.le_of_ble_eq_true rfl) rfl dX7_areTwo_8 (fun b4 σ3 h => ?_)
    refine AW.ifb_eq (tgt := 23) dX7_areTwo_11 rfl (fun c => ?_) (fun c => ?_)
    · replace h := ite_f c h
      refine AW.iconst (v := (0 : Int32)) dX7_areTwo_23 rfl ?_
      exact AW.bret false rfl rfl dX7_areTwo_24 h
    · replace h := ite_t c h
      refine AW.iload_n dX7_areTwo_14 0 rfl ?_
      refine AW.iload_n dX7_areTwo_15 1 rfl ?_
      refine AW.icmp_eq (tgt := 23) dX7_areTwo_16 rfl (fun c => ?_) (fun c => ?_)
      · replace h := ite_t c h
        refine AW.iconst (v := (0 : Int32)) dX7_areTwo_23 rfl ?_
        exact AW.bret false rfl rfl dX7_areTwo_24 h
      · replace h := ite_f c h
        refine AW.iconst (v := (1 : Int32)) dX7_areTwo_19 rfl ?_
        refine AW.goto (tgt := 24) dX7_areTwo_20 rfl ?_
        exact AW.bret true rfl rfl dX7_areTwo_24 h
theorem ok_X7_areTwo : OkS M_X7_areTwo 2 := ⟨w_941, w_9, w_942, by decide +kernel, (Nat.le_of_ble_eq_true rfl)⟩
def M_X7_finds : MT := (yX7_finds, cX7_finds, 2, some .int, 1)
def f_X7_finds (a1 : Int32) (σ : Mm) (K : Int32 → Mm → Prop) : Prop := (vp_in ((-1000001 : Int32) - a1) 7 ∧ (vp_in ((-1000001 : Int32) - a1) 7 ∧ (∃ σ3, σ3 = mset σ 4 0 (((-1000001 : Int32) - a1).toNatClampNeg) ((σ 4 0 (((-1000001 : Int32) - a1).toNatClampNeg)) + (1 : Int32)) ∧ (K a1 σ3))))
set_option maxRecDepth 100000 in
set_option maxHeartbeats 4000000 in
theorem C_X7_finds {g : GG} {a1 : Int32} {σ : Mm} {K : Int32 → Mm → Prop} (h : f_X7_finds a1 σ K) : Ct g 1 M_X7_finds (QI g 1 K) [.ref (gad g 0 0), .int a1] σ := by
  unfold f_X7_finds at h
  refine Ct.of (L := [(0, .ref (gad g 0 0)), (1, .int a1)]) (show plainName RX7 = true by decide) (Nat.le_of_ble_eq_true rfl) rfl ?_
  refine AW.aload_n dX7_finds_0 0 rfl ?_
  refine AW.get (k := 4) (v := .ref (gad g 4 0)) (id1_0_0) rfl rfl inGX7 (Nat.le_of_ble_eq_true rfl) w_876 rfl dX7_finds_1 ?_
  refine AW.ldc (v := (-1000001 : Int32)) dX7_finds_4 w_951 ?_
  refine AW.iload_n dX7_finds_6 1 rfl ?_
  refine AW.isub dX7_finds_7 ?_
  refine AW.dup2 dX7_finds_8 rfl rfl ?_
  obtain ⟨hq1, h⟩ := h
  refine AW.iald (jn := (((-1000001 : Int32) - a1).toNatClampNeg)) (id1_4_0) rfl hq1 rfl dX7_finds_9 ?_
  refine AW.iconst (v := (1 : Int32)) dX7_finds_10 rfl ?_
  refine AW.iadd dX7_finds_11 ?_
  obtain ⟨hq2, h⟩ := h
  refine AW.iast (jn := (((-1000001 : Int32) - a1).toNatClampNeg)) (id1_4_0) (fun _ => rfl) hq2 rfl dX7_finds_12 ?_
  obtain ⟨σ3, eσ3, h⟩ := h
  rw [← eσ3]
  refine AW.iload_n dX7_finds_13 1 rfl ?_
  exact AW.iret rfl dX7_finds_14 h
theorem ok_X7_finds : OkV M_X7_finds 1 := ⟨w_954, wp_26, w_9, w_955, by decide +kernel, (Nat.le_of_ble_eq_true rfl)⟩
def M_X7_how : MT := (yX7_how, cX7_how, 3, some .int, 1)
def f_X7_how (a1 : Int32) (a2 : Int32) (σ : Mm) (K : Int32 → Mm → Prop) : Prop := (vp_in (((4 : Int32) + ((8 : Int32) * a1)) + a2) 136 ∧ (K (σ 1 0 ((((4 : Int32) + ((8 : Int32) * a1)) + a2).toNatClampNeg)) σ))
set_option maxRecDepth 100000 in
set_option maxHeartbeats 4000000 in
theorem C_X7_how {g : GG} {a1 : Int32} {a2 : Int32} {σ : Mm} {K : Int32 → Mm → Prop} (h : f_X7_how a1 a2 σ K) : Ct g 1 M_X7_how (QI g 1 K) [.ref (gad g 0 0), .int a1, .int a2] σ := by
  unfold f_X7_how at h
  refine Ct.of (L := [(0, .ref (gad g 0 0)), (1, .int a1), (2, .int a2)]) (show plainName RX7 = true by decide) (Nat.le_of_ble_eq_true rfl) rfl ?_
  refine AW.aload_n dX7_how_0 0 rfl ?_
  refine AW.get (k := 0) (v := .ref (gad g 1 0)) (id1_0_0) rfl rfl inGX7 (Nat.le_of_ble_eq_true rfl) w_872 rfl dX7_how_1 ?_
  refine AW.iconst (v := (4 : Int32)) dX7_how_4 rfl ?_
  refine AW.bipush (v := (8 : Int32)) dX7_how_5 rfl ?_
  refine AW.iload_n dX7_how_7 1 rfl ?_
  refine AW.imul dX7_how_8 ?_
  refine AW.iadd dX7_how_9 ?_
  refine AW.iload_n dX7_how_10 2 rfl ?_
  refine AW.iadd dX7_how_11 ?_
  obtain ⟨hq1, h⟩ := h
  refine AW.iald (jn := ((((4 : Int32) + ((8 : Int32) * a1)) + a2).toNatClampNeg)) (id1_1_0) rfl hq1 rfl dX7_how_12 ?_
  exact AW.iret rfl dX7_how_13 h
theorem ok_X7_how : OkV M_X7_how 2 := ⟨w_958, wp_27, w_9, w_959, by decide +kernel, (Nat.le_of_ble_eq_true rfl)⟩
def M_X7_befriends : MT := (yX7_befriends, cX7_befriends, 4, none, 1)
def f_X7_befriends (a1 : Int32) (a2 : Int32) (a3 : Int32) (σ : Mm) (K : Mm → Prop) : Prop := (vp_in (((4 : Int32) + ((8 : Int32) * a1)) + a2) 136 ∧ (∃ σ2, σ2 = mset σ 1 0 ((((4 : Int32) + ((8 : Int32) * a1)) + a2).toNatClampNeg) a3 ∧ (vp_in (((4 : Int32) + ((8 : Int32) * a2)) + a1) 136 ∧ (∃ σ4, σ4 = mset σ2 1 0 ((((4 : Int32) + ((8 : Int32) * a2)) + a1).toNatClampNeg) a3 ∧ (K σ4)))))
set_option maxRecDepth 100000 in
set_option maxHeartbeats 4000000 in
theorem C_X7_befriends {g : GG} {a1 : Int32} {a2 : Int32} {a3 : Int32} {σ : Mm} {K : Mm → Prop} (h : f_X7_befriends a1 a2 a3 σ K) : Ct g 1 M_X7_befriends (QV g 1 K) [.ref (gad g 0 0), .int a1, .int a2, .int a3] σ := by
  unfold f_X7_befriends at h
  refine Ct.of (L := [(0, .ref (gad g 0 0)), (1, .int a1), (2, .int a2), (3, .int a3)]) (show plainName RX7 = true by decide) (Nat.le_of_ble_eq_true rfl) rfl ?_
  refine AW.aload_n dX7_befriends_0 0 rfl ?_
  refine AW.get (k := 0) (v := .ref (gad g 1 0)) (id1_0_0) rfl rfl inGX7 (Nat.le_of_ble_eq_true rfl) w_872 rfl dX7_befriends_1 ?_
  refine AW.iconst (v := (4 : Int32)) dX7_befriends_4 rfl ?_
  refine AW.bipush (v := (8 : Int32)) dX7_befriends_5 rfl ?_
  refine AW.iload_n dX7_befriends_7 1 rfl ?_
  refine AW.imul dX7_befriends_8 ?_
  refine AW.iadd dX7_befriends_9 ?_
  refine AW.iload_n dX7_befriends_10 2 rfl ?_
  refine AW.iadd dX7_befriends_11 ?_
  refine AW.iload_n dX7_befriends_12 3 rfl ?_
  obtain ⟨hq1, h⟩ := h
  refine AW.iast (jn := ((((4 : Int32) + ((8 : Int32) * a1)) + a2).toNatClampNeg)) (id1_1_0) (fun _ => rfl) hq1 rfl dX7_befriends_13 ?_
  obtain ⟨σ2, eσ2, h⟩ := h
  rw [← eσ2]
  refine AW.aload_n dX7_befriends_14 0 rfl ?_
  refine AW.get (k := 0) (v := .ref (gad g 1 0)) (id1_0_0) rfl rfl inGX7 (Nat.le_of_ble_eq_true rfl) w_872 rfl dX7_befriends_15 ?_
  refine AW.iconst (v := (4 : Int32)) dX7_befriends_18 rfl ?_
  refine AW.bipush (v := (8 : Int32)) dX7_befriends_19 rfl ?_
  refine AW.iload_n dX7_befriends_21 2 rfl ?_
  refine AW.imul dX7_befriends_22 ?_
  refine AW.iadd dX7_befriends_23 ?_
  refine AW.iload_n dX7_befriends_24 1 rfl ?_
  refine AW.iadd dX7_befriends_25 ?_
  refine AW.iload_n dX7_befriends_26 3 rfl ?_
  obtain ⟨hq3, h⟩ := h
  refine AW.iast (jn := ((((4 : Int32) + ((8 : Int32) * a2)) + a1).toNatClampNeg)) (id1_1_0) (fun _ => rfl) hq3 rfl dX7_befriends_27 ?_
  obtain ⟨σ4, eσ4, h⟩ := h
  rw [← eσ4]
  exact AW.vret rfl dX7_befriends_28 h
theorem ok_X7_befriends : OkV M_X7_befriends 3 := ⟨w_962, wp_28, w_9, w_963, by decide +kernel, (Nat.le_of_ble_eq_true rfl)⟩
def M_X7_friends : MT := (yX7_friends, cX7_friends, 5, some .int, 4)
def f_X7_friends (a1 : Int32) (a2 : Int32) (a3 : Int32) (σ : Mm) (K : Int32 → Mm → Prop) : Prop := (f_X7_areTwo a1 a2 σ (fun b2 σ1 => (if b2 = true then (f_X7_in ((a3).toInt64) (0 : Int64) (2 : Int64) σ1 (fun b6 σ5 => (if b6 = true then (f_X7_how a1 a2 σ5 (fun r8 σ7 => (f_X7_befriends a1 a2 a3 σ7 (fun σ9 => (K r8 σ9))))) else (f_X7_finds (-1000001 : Int32) σ5 (fun r11 σ10 => (K r11 σ10)))))) else (f_X7_finds (-1000001 : Int32) σ1 (fun r4 σ3 => (K r4 σ3))))))
set_option maxRecDepth 100000 in
set_option maxHeartbeats 4000000 in
theorem C_X7_friends {g : GG} {a1 : Int32} {a2 : Int32} {a3 : Int32} {σ : Mm} {K : Int32 → Mm → Prop} (h : f_X7_friends a1 a2 a3 σ K) : Ct g 1 M_X7_friends (QI g 1 K) [.ref (gad g 0 0), .int a1, .int a2, .int a3] σ := by
  unfold f_X7_friends at h
  refine Ct.of (L := [(0, .ref (gad g 0 0)), (1, .int a1), (2, .int a2), (3, .int a3)]) (show plainName RX7 = true by decide) (Nat.le_of_ble_eq_true rfl) rfl ?_
  refine AW.iload_n dX7_friends_0 1 rfl ?_
  refine AW.iload_n dX7_friends_1 2 rfl ?_
  refine AW.callSB [.int a1, .int a2] (C_X7_areTwo h) ok_X7_areTwo w_940 rfl (Nat.le_of_ble_eq_true rfl) (Nat.le_of_ble_eq_true rfl) rfl dX7_friends_2 (fun b2 σ1 h => ?_)
  refine AW.ifb_eq (tgt := 20) dX7_friends_5 rfl (fun c => ?_) (fun c => ?_)
  · replace h := ite_f c h
    refine AW.aload_n dX7_friends_20 0 rfl ?_
    refine AW.ldc (v := (-1000001 : Int32)) dX7_friends_21 w_951 ?_
    refine AW.callVI [.int (-1000001 : Int32)] (C_X7_finds h) ok_X7_finds (id1_0_0) rfl rfl w_952 rfl (Nat.le_of_ble_eq_true rfl) (Nat.le_of_ble_eq_true rfl) rfl dX7_friends_23 (fun r4 σ3 h => ?_)
    exact AW.iret rfl dX7_friends_26 h
  · replace h := ite_t c h
    refine AW.iload_n dX7_friends_8 3 rfl ?_
    refine AW.i2l dX7_friends_9 ?_
    refine AW.lconst (v := (0 : Int64)) dX7_friends_10 rfl ?_
    refine AW.ldc2 (v := (2 : Int64)) dX7_friends_11 w_950 ?_
    refine AW.callSB [.long ((a3).toInt64), .long (0 : Int64), .long (2 : Int64)] (C_X7_in h) ok_X7_in w_947 rfl (Nat.le_of_ble_eq_true rfl) (Nat.le_of_ble_eq_true rfl) rfl dX7_friends_14 (fun b6 σ5 h => ?_)
    refine AW.ifb_ne (tgt := 27) dX7_friends_17 rfl (fun c => ?_) (fun c => ?_)
    · replace h := ite_t c h
      refine AW.aload_n dX7_friends_27 0 rfl ?_
      refine AW.iload_n dX7_friends_28 1 rfl ?_
      refine AW.iload_n dX7_friends_29 2 rfl ?_
      refine AW.callVI [.int a1, .int a2] (C_X7_how h) ok_X7_how (id1_0_0) rfl rfl w_956 rfl (Nat.le_of_ble_eq_true rfl) (Nat.le_of_ble_eq_true rfl) rfl dX7_friends_30 (fun r8 σ7 h => ?_)
      refine AW.istore (L' := [(0, .ref (gad g 0 0)), (1, .int a1), (2, .int a2), (3, .int a3), (4, .int r8)]) dX7_friends_33 (Nat.le_of_ble_eq_true rfl) rfl ?_
      refine AW.aload_n dX7_friends_35 0 rfl ?_
      refine AW.iload_n dX7_friends_36 1 rfl ?_
      refine AW.iload_n dX7_friends_37 2 rfl ?_
      refine AW.iload_n dX7_friends_38 3 rfl ?_
      refine AW.callVV [.int a1, .int a2, .int a3] (C_X7_befriends h) ok_X7_befriends (id1_0_0) rfl rfl w_960 rfl (Nat.le_of_ble_eq_true rfl) (Nat.le_of_ble_eq_true rfl) rfl dX7_friends_39 (fun σ9 h => ?_)
      refine AW.iload dX7_friends_42 4 rfl ?_
      exact AW.iret rfl dX7_friends_44 h
    · replace h := ite_f c h
      refine AW.aload_n dX7_friends_20 0 rfl ?_
      refine AW.ldc (v := (-1000001 : Int32)) dX7_friends_21 w_951 ?_
      refine AW.callVI [.int (-1000001 : Int32)] (C_X7_finds h) ok_X7_finds (id1_0_0) rfl rfl w_952 rfl (Nat.le_of_ble_eq_true rfl) (Nat.le_of_ble_eq_true rfl) rfl dX7_friends_23 (fun r11 σ10 h => ?_)
      exact AW.iret rfl dX7_friends_26 h
theorem ok_X7_friends : OkV M_X7_friends 3 := ⟨w_937, w_938, w_9, w_939, by decide +kernel, (Nat.le_of_ble_eq_true rfl)⟩
def M_X7_are : MT := (yX7_are, cX7_are, 3, some .int, 4)
def f_X7_are (a1 : Int32) (a2 : Int32) (σ : Mm) (K : Int32 → Mm → Prop) : Prop := (f_X7_areTwo a1 a2 σ (fun b2 σ1 => (if b2 = true then (f_X7_how a1 a2 σ1 (fun r6 σ5 => (K r6 σ5))) else (f_X7_finds (-1000001 : Int32) σ1 (fun r4 σ3 => (K r4 σ3))))))
set_option maxRecDepth 100000 in
set_option maxHeartbeats 4000000 in
theorem C_X7_are {g : GG} {a1 : Int32} {a2 : Int32} {σ : Mm} {K : Int32 → Mm → Prop} (h : f_X7_are a1 a2 σ K) : Ct g 1 M_X7_are (QI g 1 K) [.ref (gad g 0 0), .int a1, .int a2] σ := by
  unfold f_X7_are at h
  refine Ct.of (L := [(0, .ref (gad g 0 0)), (1, .int a1), (2, .int a2)]) (show plainName RX7 = true by decide) (Nat.le_of_ble_eq_true rfl) rfl ?_
  refine AW.iload_n dX7_are_0 1 rfl ?_
  refine AW.iload_n dX7_are_1 2 rfl ?_
  refine AW.callSB [.int a1, .int a2] (C_X7_areTwo h) ok_X7_areTwo w_940 rfl (Nat.le_of_ble_eq_true rfl) (Nat.le_of_ble_eq_true rfl) rfl dX7_are_2 (fun b2 σ1 h => ?_)
  refine AW.ifb_eq (tgt := 17) dX7_are_5 rfl (fun c => ?_) (fun c => ?_)
  · replace h := ite_f c h
    refine AW.aload_n dX7_are_17 0 rfl ?_
    refine AW.ldc (v := (-1000001 : Int32)) dX7_are_18 w_951 ?_
    refine AW.callVI [.int (-1000001 : Int32)] (C_X7_finds h) ok_X7_finds (id1_0_0) rfl rfl w_952 rfl (Nat.le_of_ble_eq_true rfl) (Nat.le_of_ble_eq_true rfl) rfl dX7_are_20 (fun r4 σ3 h => ?_)
    exact AW.iret rfl dX7_are_23 h
  · replace h := ite_t c h
    refine AW.aload_n dX7_are_8 0 rfl ?_
    refine AW.iload_n dX7_are_9 1 rfl ?_
    refine AW.iload_n dX7_are_10 2 rfl ?_
    refine AW.callVI [.int a1, .int a2] (C_X7_how h) ok_X7_how (id1_0_0) rfl rfl w_956 rfl (Nat.le_of_ble_eq_true rfl) (Nat.le_of_ble_eq_true rfl) rfl dX7_are_11 (fun r6 σ5 h => ?_)
    refine AW.goto (tgt := 23) dX7_are_14 rfl ?_
    exact AW.iret rfl dX7_are_23 h
theorem ok_X7_are : OkV M_X7_are 2 := ⟨w_965, w_966, w_9, w_967, by decide +kernel, (Nat.le_of_ble_eq_true rfl)⟩
def M_X7_becomes : MT := (yX7_becomes, cX7_becomes, 4, some .int, 1)
def f_X7_becomes (a1 : Int32) (a2 : Int32) (σ : Mm) (K : Int32 → Mm → Prop) : Prop := (vp_in a1 136 ∧ (vp_in a1 136 ∧ (∃ σ3, σ3 = mset σ 1 0 (a1.toNatClampNeg) a2 ∧ (K (σ 1 0 (a1.toNatClampNeg)) σ3))))
set_option maxRecDepth 100000 in
set_option maxHeartbeats 4000000 in
theorem C_X7_becomes {g : GG} {a1 : Int32} {a2 : Int32} {σ : Mm} {K : Int32 → Mm → Prop} (h : f_X7_becomes a1 a2 σ K) : Ct g 1 M_X7_becomes (QI g 1 K) [.ref (gad g 0 0), .int a1, .int a2] σ := by
  unfold f_X7_becomes at h
  refine Ct.of (L := [(0, .ref (gad g 0 0)), (1, .int a1), (2, .int a2)]) (show plainName RX7 = true by decide) (Nat.le_of_ble_eq_true rfl) rfl ?_
  refine AW.aload_n dX7_becomes_0 0 rfl ?_
  refine AW.get (k := 0) (v := .ref (gad g 1 0)) (id1_0_0) rfl rfl inGX7 (Nat.le_of_ble_eq_true rfl) w_872 rfl dX7_becomes_1 ?_
  refine AW.iload_n dX7_becomes_4 1 rfl ?_
  obtain ⟨hq1, h⟩ := h
  refine AW.iald (jn := (a1.toNatClampNeg)) (id1_1_0) rfl hq1 rfl dX7_becomes_5 ?_
  refine AW.istore_n (L' := [(0, .ref (gad g 0 0)), (1, .int a1), (2, .int a2), (3, .int (σ 1 0 (a1.toNatClampNeg)))]) dX7_becomes_6 (Nat.le_of_ble_eq_true rfl) rfl ?_
  refine AW.aload_n dX7_becomes_7 0 rfl ?_
  refine AW.get (k := 0) (v := .ref (gad g 1 0)) (id1_0_0) rfl rfl inGX7 (Nat.le_of_ble_eq_true rfl) w_872 rfl dX7_becomes_8 ?_
  refine AW.iload_n dX7_becomes_11 1 rfl ?_
  refine AW.iload_n dX7_becomes_12 2 rfl ?_
  obtain ⟨hq2, h⟩ := h
  refine AW.iast (jn := (a1.toNatClampNeg)) (id1_1_0) (fun _ => rfl) hq2 rfl dX7_becomes_13 ?_
  obtain ⟨σ3, eσ3, h⟩ := h
  rw [← eσ3]
  refine AW.iload_n dX7_becomes_14 3 rfl ?_
  exact AW.iret rfl dX7_becomes_15 h
theorem ok_X7_becomes : OkV M_X7_becomes 2 := ⟨w_975, wp_29, w_9, w_976, by decide +kernel, (Nat.le_of_ble_eq_true rfl)⟩
def M_X7_weight : MT := (yX7_weight, cX7_weight, 3, some .int, 3)
def f_X7_weight (a1 : Int32) (a2 : Int32) (σ : Mm) (K : Int32 → Mm → Prop) : Prop := (f_X7_isPerson a1 σ (fun b2 σ1 => (if b2 = true then (f_X7_in ((a2).toInt64) (1 : Int64) (99 : Int64) σ1 (fun b6 σ5 => (if b6 = true then (f_X7_becomes ((68 : Int32) + a1) a2 σ5 (fun r10 σ9 => (K r10 σ9))) else (f_X7_finds (-1000001 : Int32) σ5 (fun r8 σ7 => (K r8 σ7)))))) else (f_X7_finds (-1000001 : Int32) σ1 (fun r4 σ3 => (K r4 σ3))))))
set_option maxRecDepth 100000 in
set_option maxHeartbeats 4000000 in
theorem C_X7_weight {g : GG} {a1 : Int32} {a2 : Int32} {σ : Mm} {K : Int32 → Mm → Prop} (h : f_X7_weight a1 a2 σ K) : Ct g 1 M_X7_weight (QI g 1 K) [.ref (gad g 0 0), .int a1, .int a2] σ := by
  unfold f_X7_weight at h
  refine Ct.of (L := [(0, .ref (gad g 0 0)), (1, .int a1), (2, .int a2)]) (show plainName RX7 = true by decide) (Nat.le_of_ble_eq_true rfl) rfl ?_
  refine AW.iload_n dX7_weight_0 1 rfl ?_
  refine AW.callSB [.int a1] (C_X7_isPerson h) ok_X7_isPerson w_943 rfl (Nat.le_of_ble_eq_true rfl) (Nat.le_of_ble_eq_true rfl) rfl dX7_weight_1 (fun b2 σ1 h => ?_)
  refine AW.ifb_eq (tgt := 31) dX7_weight_4 rfl (fun c => ?_) (fun c => ?_)
  · replace h := ite_f c h
    refine AW.aload_n dX7_weight_31 0 rfl ?_
    refine AW.ldc (v := (-1000001 : Int32)) dX7_weight_32 w_951 ?_
    refine AW.callVI [.int (-1000001 : Int32)] (C_X7_finds h) ok_X7_finds (id1_0_0) rfl rfl w_952 rfl (Nat.le_of_ble_eq_true rfl) (Nat.le_of_ble_eq_true rfl) rfl dX7_weight_34 (fun r4 σ3 h => ?_)
    exact AW.iret rfl dX7_weight_37 h
  · replace h := ite_t c h
    refine AW.iload_n dX7_weight_7 2 rfl ?_
    refine AW.i2l dX7_weight_8 ?_
    refine AW.lconst (v := (1 : Int64)) dX7_weight_9 rfl ?_
    refine AW.ldc2 (v := (99 : Int64)) dX7_weight_10 w_972 ?_
    refine AW.callSB [.long ((a2).toInt64), .long (1 : Int64), .long (99 : Int64)] (C_X7_in h) ok_X7_in w_947 rfl (Nat.le_of_ble_eq_true rfl) (Nat.le_of_ble_eq_true rfl) rfl dX7_weight_13 (fun b6 σ5 h => ?_)
    refine AW.ifb_eq (tgt := 31) dX7_weight_16 rfl (fun c => ?_) (fun c => ?_)
    · replace h := ite_f c h
      refine AW.aload_n dX7_weight_31 0 rfl ?_
      refine AW.ldc (v := (-1000001 : Int32)) dX7_weight_32 w_951 ?_
      refine AW.callVI [.int (-1000001 : Int32)] (C_X7_finds h) ok_X7_finds (id1_0_0) rfl rfl w_952 rfl (Nat.le_of_ble_eq_true rfl) (Nat.le_of_ble_eq_true rfl) rfl dX7_weight_34 (fun r8 σ7 h => ?_)
      exact AW.iret rfl dX7_weight_37 h
    · replace h := ite_t c h
      refine AW.aload_n dX7_weight_19 0 rfl ?_
      refine AW.bipush (v := (68 : Int32)) dX7_weight_20 rfl ?_
      refine AW.iload_n dX7_weight_22 1 rfl ?_
      refine AW.iadd dX7_weight_23 ?_
      refine AW.iload_n dX7_weight_24 2 rfl ?_
      refine AW.callVI [.int ((68 : Int32) + a1), .int a2] (C_X7_becomes h) ok_X7_becomes (id1_0_0) rfl rfl w_973 rfl (Nat.le_of_ble_eq_true rfl) (Nat.le_of_ble_eq_true rfl) rfl dX7_weight_25 (fun r10 σ9 h => ?_)
      refine AW.goto (tgt := 37) dX7_weight_28 rfl ?_
      exact AW.iret rfl dX7_weight_37 h
theorem ok_X7_weight : OkV M_X7_weight 2 := ⟨w_969, w_970, w_9, w_971, by decide +kernel, (Nat.le_of_ble_eq_true rfl)⟩
def M_X7_over : MT := (yX7_over, cX7_over, 2, some .int, 2)
def f_X7_over (a1 : Int32) (σ : Mm) (K : Int32 → Mm → Prop) : Prop := (if a1 = 0 then (f_X7_becomes (0 : Int32) (0 : Int32) σ (fun r2 σ1 => (K r2 σ1))) else (f_X7_becomes (0 : Int32) (1 : Int32) σ (fun r4 σ3 => (K r4 σ3))))
set_option maxRecDepth 100000 in
set_option maxHeartbeats 4000000 in
theorem C_X7_over {g : GG} {a1 : Int32} {σ : Mm} {K : Int32 → Mm → Prop} (h : f_X7_over a1 σ K) : Ct g 1 M_X7_over (QI g 1 K) [.ref (gad g 0 0), .int a1] σ := by
  unfold f_X7_over at h
  refine Ct.of (L := [(0, .ref (gad g 0 0)), (1, .int a1)]) (show plainName RX7 = true by decide) (Nat.le_of_ble_eq_true rfl) rfl ?_
  refine AW.aload_n dX7_over_0 0 rfl ?_
  refine AW.iconst (v := (0 : Int32)) dX7_over_1 rfl ?_
  refine AW.iload_n dX7_over_2 1 rfl ?_
  refine AW.if_eq (tgt := 10) dX7_over_3 rfl (fun c => ?_) (fun c => ?_)
  · replace h := ite_t c h
    refine AW.iconst (v := (0 : Int32)) dX7_over_10 rfl ?_
    refine AW.callVI [.int (0 : Int32), .int (0 : Int32)] (C_X7_becomes h) ok_X7_becomes (id1_0_0) rfl rfl w_973 rfl (Nat.le_of_ble_eq_true rfl) (Nat.le_of_ble_eq_true rfl) rfl dX7_over_11 (fun r2 σ1 h => ?_)
    exact AW.iret rfl dX7_over_14 h
  · replace h := ite_f c h
    refine AW.iconst (v := (1 : Int32)) dX7_over_6 rfl ?_
    refine AW.goto (tgt := 11) dX7_over_7 rfl ?_
    refine AW.callVI [.int (0 : Int32), .int (1 : Int32)] (C_X7_becomes h) ok_X7_becomes (id1_0_0) rfl rfl w_973 rfl (Nat.le_of_ble_eq_true rfl) (Nat.le_of_ble_eq_true rfl) rfl dX7_over_11 (fun r4 σ3 h => ?_)
    exact AW.iret rfl dX7_over_14 h
theorem ok_X7_over : OkV M_X7_over 1 := ⟨w_978, w_979, w_9, w_980, by decide +kernel, (Nat.le_of_ble_eq_true rfl)⟩
def M_X7_held : MT := (yX7_held, cX7_held, 2, some .int, 2)
def f_X7_held (a1 : Int32) (σ : Mm) (K : Int32 → Mm → Prop) : Prop := (f_X7_in ((a1).toInt64) (0 : Int64) (999 : Int64) σ (fun b2 σ1 => (if b2 = true then (f_X7_becomes (1 : Int32) a1 σ1 (fun r6 σ5 => (K r6 σ5))) else (f_X7_finds (-1000001 : Int32) σ1 (fun r4 σ3 => (K r4 σ3))))))
set_option maxRecDepth 100000 in
set_option maxHeartbeats 4000000 in
theorem C_X7_held {g : GG} {a1 : Int32} {σ : Mm} {K : Int32 → Mm → Prop} (h : f_X7_held a1 σ K) : Ct g 1 M_X7_held (QI g 1 K) [.ref (gad g 0 0), .int a1] σ := by
  unfold f_X7_held at h
  refine Ct.of (L := [(0, .ref (gad g 0 0)), (1, .int a1)]) (show plainName RX7 = true by decide) (Nat.le_of_ble_eq_true rfl) rfl ?_
  refine AW.iload_n dX7_held_0 1 rfl ?_
  refine AW.i2l dX7_held_1 ?_
  refine AW.lconst (v := (0 : Int64)) dX7_held_2 rfl ?_
  refine AW.ldc2 (v := (999 : Int64)) dX7_held_3 w_985 ?_
  refine AW.callSB [.long ((a1).toInt64), .long (0 : Int64), .long (999 : Int64)] (C_X7_in h) ok_X7_in w_947 rfl (Nat.le_of_ble_eq_true rfl) (Nat.le_of_ble_eq_true rfl) rfl dX7_held_6 (fun b2 σ1 h => ?_)
  refine AW.ifb_eq (tgt := 21) dX7_held_9 rfl (fun c => ?_) (fun c => ?_)
  · replace h := ite_f c h
    refine AW.aload_n dX7_held_21 0 rfl ?_
    refine AW.ldc (v := (-1000001 : Int32)) dX7_held_22 w_951 ?_
    refine AW.callVI [.int (-1000001 : Int32)] (C_X7_finds h) ok_X7_finds (id1_0_0) rfl rfl w_952 rfl (Nat.le_of_ble_eq_true rfl) (Nat.le_of_ble_eq_true rfl) rfl dX7_held_24 (fun r4 σ3 h => ?_)
    exact AW.iret rfl dX7_held_27 h
  · replace h := ite_t c h
    refine AW.aload_n dX7_held_12 0 rfl ?_
    refine AW.iconst (v := (1 : Int32)) dX7_held_13 rfl ?_
    refine AW.iload_n dX7_held_14 1 rfl ?_
    refine AW.callVI [.int (1 : Int32), .int a1] (C_X7_becomes h) ok_X7_becomes (id1_0_0) rfl rfl w_973 rfl (Nat.le_of_ble_eq_true rfl) (Nat.le_of_ble_eq_true rfl) rfl dX7_held_15 (fun r6 σ5 h => ?_)
    refine AW.goto (tgt := 27) dX7_held_18 rfl ?_
    exact AW.iret rfl dX7_held_27 h
theorem ok_X7_held : OkV M_X7_held 1 := ⟨w_982, w_983, w_9, w_984, by decide +kernel, (Nat.le_of_ble_eq_true rfl)⟩
def M_X7_areFriends : MT := (yX7_areFriends, cX7_areFriends, 3, some .boolean, 2)
def f_X7_areFriends (a1 : Int32) (a2 : Int32) (σ : Mm) (K : Bool → Mm → Prop) : Prop := (f_X7_how a1 a2 σ (fun r2 σ1 => (if r2 = (1 : Int32) then (K true σ1) else (f_X7_how a1 a2 σ1 (fun r4 σ3 => (if r4 = (2 : Int32) then (if (σ3 1 0 0) = (1 : Int32) then (K true σ3) else (K false σ3)) else (K false σ3)))))))
set_option maxRecDepth 100000 in
set_option maxHeartbeats 4000000 in
theorem C_X7_areFriends {g : GG} {a1 : Int32} {a2 : Int32} {σ : Mm} {K : Bool → Mm → Prop} (h : f_X7_areFriends a1 a2 σ K) : Ct g 1 M_X7_areFriends (QB g 1 K) [.ref (gad g 0 0), .int a1, .int a2] σ := by
  unfold f_X7_areFriends at h
  refine Ct.of (L := [(0, .ref (gad g 0 0)), (1, .int a1), (2, .int a2)]) (show plainName RX7 = true by decide) (Nat.le_of_ble_eq_true rfl) rfl ?_
  refine AW.aload_n dX7_areFriends_0 0 rfl ?_
  refine AW.iload_n dX7_areFriends_1 1 rfl ?_
  refine AW.iload_n dX7_areFriends_2 2 rfl ?_
  refine AW.callVI [.int a1, .int a2] (C_X7_how h) ok_X7_how (id1_0_0) rfl rfl w_956 rfl (Nat.le_of_ble_eq_true rfl) (Nat.le_of_ble_eq_true rfl) rfl dX7_areFriends_3 (fun r2 σ1 h => ?_)
  refine AW.iconst (v := (1 : Int32)) dX7_areFriends_6 rfl ?_
  refine AW.icmp_eq (tgt := 30) dX7_areFriends_7 rfl (fun c => ?_) (fun c => ?_)
  · replace h := ite_t c h
    refine AW.iconst (v := (1 : Int32)) dX7_areFriends_30 rfl ?_
    refine AW.goto (tgt := 35) dX7_areFriends_31 rfl ?_
    exact AW.bret true rfl rfl dX7_areFriends_35 h
  · replace h := ite_f c h
    refine AW.aload_n dX7_areFriends_10 0 rfl ?_
    refine AW.iload_n dX7_areFriends_11 1 rfl ?_
    refine AW.iload_n dX7_areFriends_12 2 rfl ?_
    refine AW.callVI [.int a1, .int a2] (C_X7_how h) ok_X7_how (id1_0_0) rfl rfl w_956 rfl (Nat.le_of_ble_eq_true rfl) (Nat.le_of_ble_eq_true rfl) rfl dX7_areFriends_13 (fun r4 σ3 h => ?_)
    refine AW.iconst (v := (2 : Int32)) dX7_areFriends_16 rfl ?_
    refine AW.icmp_ne (tgt := 34) dX7_areFriends_17 rfl (fun c => ?_) (fun c => ?_)
    · replace h := ite_f c h
      refine AW.iconst (v := (0 : Int32)) dX7_areFriends_34 rfl ?_
      exact AW.bret false rfl rfl dX7_areFriends_35 h
    · replace h := ite_t c h
      refine AW.aload_n dX7_areFriends_20 0 rfl ?_
      refine AW.get (k := 0) (v := .ref (gad g 1 0)) (id1_0_0) rfl rfl inGX7 (Nat.le_of_ble_eq_true rfl) w_872 rfl dX7_areFriends_21 ?_
      refine AW.iconst (v := (0 : Int32)) dX7_areFriends_24 rfl ?_
      refine AW.iald (jn := 0) (id1_1_0) rfl (by unfold vp_in; decide) rfl dX7_areFriends_25 ?_
      refine AW.iconst (v := (1 : Int32)) dX7_areFriends_26 rfl ?_
      refine AW.icmp_ne (tgt := 34) dX7_areFriends_27 rfl (fun c => ?_) (fun c => ?_)
      · replace h := ite_f c h
        refine AW.iconst (v := (0 : Int32)) dX7_areFriends_34 rfl ?_
        exact AW.bret false rfl rfl dX7_areFriends_35 h
      · replace h := ite_t c h
        refine AW.iconst (v := (1 : Int32)) dX7_areFriends_30 rfl ?_
        refine AW.goto (tgt := 35) dX7_areFriends_31 rfl ?_
        exact AW.bret true rfl rfl dX7_areFriends_35 h
theorem ok_X7_areFriends : OkV M_X7_areFriends 2 := ⟨w_992, wp_30, w_9, w_993, by decide +kernel, (Nat.le_of_ble_eq_true rfl)⟩
def M_X7_circle : MT := (yX7_circle, cX7_circle, 4, some .int, 3)
set_option maxRecDepth 100000 in
def f_X7_circle_18 (a1 : Int32) (K : Int32 → Mm → Prop) : Nat → Int32 → Int32 → Mm → Prop
  | 0, _, _, _ => False
  | n + 1, a2, a3, σ => (if (8 : Int32) ≤ a3 then (K a2 σ) else (f_X7_areFriends a1 a3 σ (fun b4 σ3 => (if b4 = true then (f_X7_circle_18 a1 K n (a2 ||| ((1 : Int32) <<< (a3 &&& 31))) (a3 + (1 : Int32)) σ3) else (f_X7_circle_18 a1 K n (a2 ||| (0 : Int32)) (a3 + (1 : Int32)) σ3)))))
set_option maxRecDepth 100000 in
set_option maxHeartbeats 4000000 in
theorem T_X7_circle_18 {g : GG} {a1 : Int32} {K : Int32 → Mm → Prop} : ∀ (n : Nat) (a2 : Int32) (a3 : Int32) (σ : Mm), f_X7_circle_18 a1 K n a2 a3 σ → AW g 1 M_X7_circle (QI g 1 K) 18 [(0, .ref (gad g 0 0)), (1, .int a1), (2, .int a2), (3, .int a3)] [] σ := by
  intro n
  induction n with
  | zero => intro a2 a3 σ h; exact False.elim h
  | succ n ih =>
    intro a2 a3 σ h
    rw [f_X7_circle_18] at h
    refine AW.iload_n dX7_circle_18 3 rfl ?_
    refine AW.bipush (v := (8 : Int32)) dX7_circle_19 rfl ?_
    refine AW.icmp_ge (tgt := 49) dX7_circle_21 rfl (fun c => ?_) (fun c => ?_)
    · replace h := ite_t c h
      refine AW.iload_n dX7_circle_49 2 rfl ?_
      exact AW.iret rfl dX7_circle_50 h
    · replace h := ite_f c h
      refine AW.iload_n dX7_circle_24 2 rfl ?_
      refine AW.aload_n dX7_circle_25 0 rfl ?_
      refine AW.iload_n dX7_circle_26 1 rfl ?_
      refine AW.iload_n dX7_circle_27 3 rfl ?_
      refine AW.callVB [.int a1, .int a3] (C_X7_areFriends h) ok_X7_areFriends (id1_0_0) rfl rfl w_990 rfl (Nat.le_of_ble_eq_true rfl) (Nat.le_of_ble_eq_true rfl) rfl dX7_circle_28 (fun b4 σ3 h => ?_)
      refine AW.ifb_eq (tgt := 40) dX7_circle_31 rfl (fun c => ?_) (fun c => ?_)
      · replace h := ite_f c h
        refine AW.iconst (v := (0 : Int32)) dX7_circle_40 rfl ?_
        refine AW.ior dX7_circle_41 ?_
        refine AW.istore_n (L' := [(0, .ref (gad g 0 0)), (1, .int a1), (2, .int (a2 ||| (0 : Int32))), (3, .int a3)]) dX7_circle_42 (Nat.le_of_ble_eq_true rfl) rfl ?_
        refine AW.iinc (v := (a3 + (1 : Int32))) (L' := [(0, .ref (gad g 0 0)), (1, .int a1), (2, .int (a2 ||| (0 : Int32))), (3, .int (a3 + (1 : Int32)))]) dX7_circle_43 3 rfl rfl (Nat.le_of_ble_eq_true rfl) rfl ?_
        refine AW.goto (tgt := 18) dX7_circle_46 rfl ?_
        exact ih _ _ _ h
      · replace h := ite_t c h
        refine AW.iconst (v := (1 : Int32)) dX7_circle_34 rfl ?_
        refine AW.iload_n dX7_circle_35 3 rfl ?_
        refine AW.ishl dX7_circle_36 ?_
        refine AW.goto (tgt := 41) dX7_circle_37 rfl ?_
        refine AW.ior dX7_circle_41 ?_
        refine AW.istore_n (L' := [(0, .ref (gad g 0 0)), (1, .int a1), (2, .int (a2 ||| ((1 : Int32) <<< (a3 &&& 31)))), (3, .int a3)]) dX7_circle_42 (Nat.le_of_ble_eq_true rfl) rfl ?_
        refine AW.iinc (v := (a3 + (1 : Int32))) (L' := [(0, .ref (gad g 0 0)), (1, .int a1), (2, .int (a2 ||| ((1 : Int32) <<< (a3 &&& 31)))), (3, .int (a3 + (1 : Int32)))]) dX7_circle_43 3 rfl rfl (Nat.le_of_ble_eq_true rfl) rfl ?_
        refine AW.goto (tgt := 18) dX7_circle_46 rfl ?_
        exact ih _ _ _ h
def f_X7_circle (a1 : Int32) (σ : Mm) (K : Int32 → Mm → Prop) : Prop := (f_X7_isPerson a1 σ (fun b2 σ1 => (if b2 = true then (∃ m, f_X7_circle_18 a1 K m (0 : Int32) (0 : Int32) σ1) else (f_X7_finds (-1000001 : Int32) σ1 (fun r6 σ5 => (K r6 σ5))))))
set_option maxRecDepth 100000 in
set_option maxHeartbeats 4000000 in
theorem C_X7_circle {g : GG} {a1 : Int32} {σ : Mm} {K : Int32 → Mm → Prop} (h : f_X7_circle a1 σ K) : Ct g 1 M_X7_circle (QI g 1 K) [.ref (gad g 0 0), .int a1] σ := by
  unfold f_X7_circle at h
  refine Ct.of (L := [(0, .ref (gad g 0 0)), (1, .int a1)]) (show plainName RX7 = true by decide) (Nat.le_of_ble_eq_true rfl) rfl ?_
  refine AW.iload_n dX7_circle_0 1 rfl ?_
  refine AW.callSB [.int a1] (C_X7_isPerson h) ok_X7_isPerson w_943 rfl (Nat.le_of_ble_eq_true rfl) (Nat.le_of_ble_eq_true rfl) rfl dX7_circle_1 (fun b2 σ1 h => ?_)
  refine AW.ifb_ne (tgt := 14) dX7_circle_4 rfl (fun c => ?_) (fun c => ?_)
  · replace h := ite_t c h
    refine AW.iconst (v := (0 : Int32)) dX7_circle_14 rfl ?_
    refine AW.istore_n (L' := [(0, .ref (gad g 0 0)), (1, .int a1), (2, .int (0 : Int32))]) dX7_circle_15 (Nat.le_of_ble_eq_true rfl) rfl ?_
    refine AW.iconst (v := (0 : Int32)) dX7_circle_16 rfl ?_
    refine AW.istore_n (L' := [(0, .ref (gad g 0 0)), (1, .int a1), (2, .int (0 : Int32)), (3, .int (0 : Int32))]) dX7_circle_17 (Nat.le_of_ble_eq_true rfl) rfl ?_
    obtain ⟨m, h⟩ := h
    refine T_X7_circle_18 m _ _ _ h
  · replace h := ite_f c h
    refine AW.aload_n dX7_circle_7 0 rfl ?_
    refine AW.ldc (v := (-1000001 : Int32)) dX7_circle_8 w_951 ?_
    refine AW.callVI [.int (-1000001 : Int32)] (C_X7_finds h) ok_X7_finds (id1_0_0) rfl rfl w_952 rfl (Nat.le_of_ble_eq_true rfl) (Nat.le_of_ble_eq_true rfl) rfl dX7_circle_10 (fun r6 σ5 h => ?_)
    exact AW.iret rfl dX7_circle_13 h
theorem ok_X7_circle : OkV M_X7_circle 1 := ⟨w_987, w_988, w_9, w_989, by decide +kernel, (Nat.le_of_ble_eq_true rfl)⟩
def M_X7_isKind : MT := (yX7_isKind, cX7_isKind, 1, some .boolean, 2)
def f_X7_isKind (a0 : Int32) (σ : Mm) (K : Bool → Mm → Prop) : Prop := (f_X7_in ((a0).toInt64) (0 : Int64) (6 : Int64) σ (fun b2 σ1 => (K b2 σ1)))
set_option maxRecDepth 100000 in
set_option maxHeartbeats 4000000 in
theorem C_X7_isKind {g : GG} {a0 : Int32} {σ : Mm} {K : Bool → Mm → Prop} (h : f_X7_isKind a0 σ K) : Ct g 1 M_X7_isKind (QB g 1 K) [.int a0] σ := by
  unfold f_X7_isKind at h
  refine Ct.of (L := [(0, .int a0)]) (show plainName RX7 = true by decide) (Nat.le_of_ble_eq_true rfl) rfl ?_
  refine AW.iload_n dX7_isKind_0 0 rfl ?_
  refine AW.i2l dX7_isKind_1 ?_
  refine AW.lconst (v := (0 : Int64)) dX7_isKind_2 rfl ?_
  refine AW.ldc2 (v := (6 : Int64)) dX7_isKind_3 w_1001 ?_
  refine AW.callSB [.long ((a0).toInt64), .long (0 : Int64), .long (6 : Int64)] (C_X7_in h) ok_X7_in w_947 rfl (Nat.le_of_ble_eq_true rfl) (Nat.le_of_ble_eq_true rfl) rfl dX7_isKind_6 (fun b2 σ1 h => ?_)
  exact AW.bret b2 rfl rfl dX7_isKind_9 h
theorem ok_X7_isKind : OkS M_X7_isKind 1 := ⟨w_999, w_9, w_1000, by decide +kernel, (Nat.le_of_ble_eq_true rfl)⟩
def M_X7_at : MT := (yX7_at, cX7_at, 2, some .int, 1)
def f_X7_at (a0 : Int32) (a1 : Int32) (σ : Mm) (K : Int32 → Mm → Prop) : Prop := (K ((((76 : Int32) + ((10 : Int32) * a0)) + (2 : Int32)) + a1) σ)
set_option maxRecDepth 100000 in
set_option maxHeartbeats 4000000 in
theorem C_X7_at {g : GG} {a0 : Int32} {a1 : Int32} {σ : Mm} {K : Int32 → Mm → Prop} (h : f_X7_at a0 a1 σ K) : Ct g 1 M_X7_at (QI g 1 K) [.int a0, .int a1] σ := by
  unfold f_X7_at at h
  refine Ct.of (L := [(0, .int a0), (1, .int a1)]) (show plainName RX7 = true by decide) (Nat.le_of_ble_eq_true rfl) rfl ?_
  refine AW.bipush (v := (76 : Int32)) dX7_at_0 rfl ?_
  refine AW.bipush (v := (10 : Int32)) dX7_at_2 rfl ?_
  refine AW.iload_n dX7_at_4 0 rfl ?_
  refine AW.imul dX7_at_5 ?_
  refine AW.iadd dX7_at_6 ?_
  refine AW.iconst (v := (2 : Int32)) dX7_at_7 rfl ?_
  refine AW.iadd dX7_at_8 ?_
  refine AW.iload_n dX7_at_9 1 rfl ?_
  refine AW.iadd dX7_at_10 ?_
  exact AW.iret rfl dX7_at_11 h
theorem ok_X7_at : OkS M_X7_at 2 := ⟨w_1009, w_9, w_1010, by decide +kernel, (Nat.le_of_ble_eq_true rfl)⟩
def M_X7_comes : MT := (yX7_comes, cX7_comes, 5, none, 2)
set_option maxRecDepth 100000 in
def f_X7_comes_38 (a3 : Int32) (K : Mm → Prop) : Nat → Int32 → Mm → Prop
  | 0, _, _ => False
  | n + 1, a4, σ => (if (8 : Int32) ≤ a4 then (∃ σ5, σ5 = mset σ 1 0 3 ((σ 1 0 3) + (1 : Int32)) ∧ (K σ5)) else (f_X7_at a3 a4 σ (fun r7 σ6 => (vp_in r7 136 ∧ (∃ σ9, σ9 = mset σ6 1 0 (r7.toNatClampNeg) (-1 : Int32) ∧ (f_X7_comes_38 a3 K n (a4 + (1 : Int32)) σ9))))))
set_option maxRecDepth 100000 in
set_option maxHeartbeats 4000000 in
theorem T_X7_comes_38 {g : GG} {a3 : Int32} {K : Mm → Prop} : ∀ (n : Nat) (a4 : Int32) (σ : Mm), f_X7_comes_38 a3 K n a4 σ → AW g 1 M_X7_comes (QV g 1 K) 38 [(0, .ref (gad g 0 0)), (3, .int a3), (4, .int a4)] [] σ := by
  intro n
  induction n with
  | zero => intro a4 σ h; exact False.elim h
  | succ n ih =>
    intro a4 σ h
    rw [f_X7_comes_38] at h
    refine AW.iload dX7_comes_38 2 rfl ?_
    refine AW.bipush (v := (8 : Int32)) dX7_comes_40 rfl ?_
    refine AW.icmp_ge (tgt := 63) dX7_comes_42 rfl (fun c => ?_) (fun c => ?_)
    · replace h := ite_t c h
      refine AW.aload_n dX7_comes_63 0 rfl ?_
      refine AW.get (k := 0) (v := .ref (gad g 1 0)) (id1_0_0) rfl rfl inGX7 (Nat.le_of_ble_eq_true rfl) w_872 rfl dX7_comes_64 ?_
      refine AW.iconst (v := (3 : Int32)) dX7_comes_67 rfl ?_
      refine AW.dup2 dX7_comes_68 rfl rfl ?_
      refine AW.iald (jn := 3) (id1_1_0) rfl (by unfold vp_in; decide) rfl dX7_comes_69 ?_
      refine AW.iconst (v := (1 : Int32)) dX7_comes_70 rfl ?_
      refine AW.iadd dX7_comes_71 ?_
      refine AW.iast (jn := 3) (id1_1_0) (fun _ => rfl) (by unfold vp_in; decide) rfl dX7_comes_72 ?_
      obtain ⟨σ5, eσ5, h⟩ := h
      rw [← eσ5]
      exact AW.vret rfl dX7_comes_73 h
    · replace h := ite_f c h
      refine AW.aload_n dX7_comes_45 0 rfl ?_
      refine AW.get (k := 0) (v := .ref (gad g 1 0)) (id1_0_0) rfl rfl inGX7 (Nat.le_of_ble_eq_true rfl) w_872 rfl dX7_comes_46 ?_
      refine AW.iload_n dX7_comes_49 1 rfl ?_
      refine AW.iload dX7_comes_50 2 rfl ?_
      refine AW.callSI [.int a3, .int a4] (C_X7_at h) ok_X7_at w_1008 rfl (Nat.le_of_ble_eq_true rfl) (Nat.le_of_ble_eq_true rfl) rfl dX7_comes_52 (fun r7 σ6 h => ?_)
      refine AW.iconst (v := (-1 : Int32)) dX7_comes_55 rfl ?_
      obtain ⟨hq8, h⟩ := h
      refine AW.iast (jn := (r7.toNatClampNeg)) (id1_1_0) (fun _ => rfl) hq8 rfl dX7_comes_56 ?_
      obtain ⟨σ9, eσ9, h⟩ := h
      rw [← eσ9]
      refine AW.iinc (v := (a4 + (1 : Int32))) (L' := [(0, .ref (gad g 0 0)), (3, .int a3), (4, .int (a4 + (1 : Int32)))]) dX7_comes_57 2 rfl rfl (Nat.le_of_ble_eq_true rfl) rfl ?_
      refine AW.goto (tgt := 38) dX7_comes_60 rfl ?_
      exact ih _ _ h
def f_X7_comes (a1 : Int32) (a2 : Int32) (σ : Mm) (K : Mm → Prop) : Prop := (vp_in ((76 : Int32) + ((10 : Int32) * (σ 1 0 3))) 136 ∧ (∃ σ2, σ2 = mset σ 1 0 (((76 : Int32) + ((10 : Int32) * (σ 1 0 3))).toNatClampNeg) a1 ∧ (vp_in (((76 : Int32) + ((10 : Int32) * (σ 1 0 3))) + (1 : Int32)) 136 ∧ (∃ σ4, σ4 = mset σ2 1 0 ((((76 : Int32) + ((10 : Int32) * (σ 1 0 3))) + (1 : Int32)).toNatClampNeg) a2 ∧ (∃ m, f_X7_comes_38 (σ 1 0 3) K m (0 : Int32) σ4)))))
set_option maxRecDepth 100000 in
set_option maxHeartbeats 4000000 in
theorem C_X7_comes {g : GG} {a1 : Int32} {a2 : Int32} {σ : Mm} {K : Mm → Prop} (h : f_X7_comes a1 a2 σ K) : Ct g 1 M_X7_comes (QV g 1 K) [.ref (gad g 0 0), .int a1, .int a2] σ := by
  unfold f_X7_comes at h
  refine Ct.of (L := [(0, .ref (gad g 0 0)), (1, .int a1), (2, .int a2)]) (show plainName RX7 = true by decide) (Nat.le_of_ble_eq_true rfl) rfl ?_
  refine AW.aload_n dX7_comes_0 0 rfl ?_
  refine AW.get (k := 0) (v := .ref (gad g 1 0)) (id1_0_0) rfl rfl inGX7 (Nat.le_of_ble_eq_true rfl) w_872 rfl dX7_comes_1 ?_
  refine AW.iconst (v := (3 : Int32)) dX7_comes_4 rfl ?_
  refine AW.iald (jn := 3) (id1_1_0) rfl (by unfold vp_in; decide) rfl dX7_comes_5 ?_
  refine AW.istore_n (L' := [(0, .ref (gad g 0 0)), (1, .int a1), (2, .int a2), (3, .int (σ 1 0 3))]) dX7_comes_6 (Nat.le_of_ble_eq_true rfl) rfl ?_
  refine AW.aload_n dX7_comes_7 0 rfl ?_
  refine AW.get (k := 0) (v := .ref (gad g 1 0)) (id1_0_0) rfl rfl inGX7 (Nat.le_of_ble_eq_true rfl) w_872 rfl dX7_comes_8 ?_
  refine AW.bipush (v := (76 : Int32)) dX7_comes_11 rfl ?_
  refine AW.bipush (v := (10 : Int32)) dX7_comes_13 rfl ?_
  refine AW.iload_n dX7_comes_15 3 rfl ?_
  refine AW.imul dX7_comes_16 ?_
  refine AW.iadd dX7_comes_17 ?_
  refine AW.iload_n dX7_comes_18 1 rfl ?_
  obtain ⟨hq1, h⟩ := h
  refine AW.iast (jn := (((76 : Int32) + ((10 : Int32) * (σ 1 0 3))).toNatClampNeg)) (id1_1_0) (fun _ => rfl) hq1 rfl dX7_comes_19 ?_
  obtain ⟨σ2, eσ2, h⟩ := h
  rw [← eσ2]
  refine AW.aload_n dX7_comes_20 0 rfl ?_
  refine AW.get (k := 0) (v := .ref (gad g 1 0)) (id1_0_0) rfl rfl inGX7 (Nat.le_of_ble_eq_true rfl) w_872 rfl dX7_comes_21 ?_
  refine AW.bipush (v := (76 : Int32)) dX7_comes_24 rfl ?_
  refine AW.bipush (v := (10 : Int32)) dX7_comes_26 rfl ?_
  refine AW.iload_n dX7_comes_28 3 rfl ?_
  refine AW.imul dX7_comes_29 ?_
  refine AW.iadd dX7_comes_30 ?_
  refine AW.iconst (v := (1 : Int32)) dX7_comes_31 rfl ?_
  refine AW.iadd dX7_comes_32 ?_
  refine AW.iload_n dX7_comes_33 2 rfl ?_
  obtain ⟨hq3, h⟩ := h
  refine AW.iast (jn := ((((76 : Int32) + ((10 : Int32) * (σ 1 0 3))) + (1 : Int32)).toNatClampNeg)) (id1_1_0) (fun _ => rfl) hq3 rfl dX7_comes_34 ?_
  obtain ⟨σ4, eσ4, h⟩ := h
  rw [← eσ4]
  refine AW.iconst (v := (0 : Int32)) dX7_comes_35 rfl ?_
  refine AW.istore (L' := [(0, .ref (gad g 0 0)), (1, .int a1), (2, .int a2), (3, .int (σ 1 0 3)), (4, .int (0 : Int32))]) dX7_comes_36 (Nat.le_of_ble_eq_true rfl) rfl ?_
  obtain ⟨m, h⟩ := h
  refine AW.eqL [0, 3, 4] rfl ?_
  refine T_X7_comes_38 m _ _ h
theorem ok_X7_comes : OkV M_X7_comes 2 := ⟨w_1006, wp_31, w_9, w_1007, by decide +kernel, (Nat.le_of_ble_eq_true rfl)⟩
def M_X7_bench : MT := (yX7_bench, cX7_bench, 3, some .int, 3)
def f_X7_bench (a1 : Int32) (a2 : Int32) (σ : Mm) (K : Int32 → Mm → Prop) : Prop := (f_X7_isKind a1 σ (fun b2 σ1 => (if b2 = true then (f_X7_in ((a2).toInt64) (1 : Int64) (8 : Int64) σ1 (fun b6 σ5 => (if b6 = true then (if (σ5 1 0 3) = (5 : Int32) then (f_X7_finds (-1000002 : Int32) σ5 (fun r9 σ8 => (K r9 σ8))) else (f_X7_comes a1 a2 σ5 (fun σ7 => (K ((σ7 1 0 3) - (1 : Int32)) σ7)))) else (f_X7_finds (-1000001 : Int32) σ5 (fun r11 σ10 => (K r11 σ10)))))) else (f_X7_finds (-1000001 : Int32) σ1 (fun r4 σ3 => (K r4 σ3))))))
set_option maxRecDepth 100000 in
set_option maxHeartbeats 4000000 in
theorem C_X7_bench {g : GG} {a1 : Int32} {a2 : Int32} {σ : Mm} {K : Int32 → Mm → Prop} (h : f_X7_bench a1 a2 σ K) : Ct g 1 M_X7_bench (QI g 1 K) [.ref (gad g 0 0), .int a1, .int a2] σ := by
  unfold f_X7_bench at h
  refine Ct.of (L := [(0, .ref (gad g 0 0)), (1, .int a1), (2, .int a2)]) (show plainName RX7 = true by decide) (Nat.le_of_ble_eq_true rfl) rfl ?_
  refine AW.iload_n dX7_bench_0 1 rfl ?_
  refine AW.callSB [.int a1] (C_X7_isKind h) ok_X7_isKind w_998 rfl (Nat.le_of_ble_eq_true rfl) (Nat.le_of_ble_eq_true rfl) rfl dX7_bench_1 (fun b2 σ1 h => ?_)
  refine AW.ifb_eq (tgt := 19) dX7_bench_4 rfl (fun c => ?_) (fun c => ?_)
  · replace h := ite_f c h
    refine AW.aload_n dX7_bench_19 0 rfl ?_
    refine AW.ldc (v := (-1000001 : Int32)) dX7_bench_20 w_951 ?_
    refine AW.callVI [.int (-1000001 : Int32)] (C_X7_finds h) ok_X7_finds (id1_0_0) rfl rfl w_952 rfl (Nat.le_of_ble_eq_true rfl) (Nat.le_of_ble_eq_true rfl) rfl dX7_bench_22 (fun r4 σ3 h => ?_)
    exact AW.iret rfl dX7_bench_25 h
  · replace h := ite_t c h
    refine AW.iload_n dX7_bench_7 2 rfl ?_
    refine AW.i2l dX7_bench_8 ?_
    refine AW.lconst (v := (1 : Int64)) dX7_bench_9 rfl ?_
    refine AW.ldc2 (v := (8 : Int64)) dX7_bench_10 w_1002 ?_
    refine AW.callSB [.long ((a2).toInt64), .long (1 : Int64), .long (8 : Int64)] (C_X7_in h) ok_X7_in w_947 rfl (Nat.le_of_ble_eq_true rfl) (Nat.le_of_ble_eq_true rfl) rfl dX7_bench_13 (fun b6 σ5 h => ?_)
    refine AW.ifb_ne (tgt := 26) dX7_bench_16 rfl (fun c => ?_) (fun c => ?_)
    · replace h := ite_t c h
      refine AW.aload_n dX7_bench_26 0 rfl ?_
      refine AW.get (k := 0) (v := .ref (gad g 1 0)) (id1_0_0) rfl rfl inGX7 (Nat.le_of_ble_eq_true rfl) w_872 rfl dX7_bench_27 ?_
      refine AW.iconst (v := (3 : Int32)) dX7_bench_30 rfl ?_
      refine AW.iald (jn := 3) (id1_1_0) rfl (by unfold vp_in; decide) rfl dX7_bench_31 ?_
      refine AW.iconst (v := (5 : Int32)) dX7_bench_32 rfl ?_
      refine AW.icmp_ne (tgt := 43) dX7_bench_33 rfl (fun c => ?_) (fun c => ?_)
      · replace h := ite_f c h
        refine AW.aload_n dX7_bench_43 0 rfl ?_
        refine AW.iload_n dX7_bench_44 1 rfl ?_
        refine AW.iload_n dX7_bench_45 2 rfl ?_
        refine AW.callVV [.int a1, .int a2] (C_X7_comes h) ok_X7_comes (id1_0_0) rfl rfl w_1004 rfl (Nat.le_of_ble_eq_true rfl) (Nat.le_of_ble_eq_true rfl) rfl dX7_bench_46 (fun σ7 h => ?_)
        refine AW.aload_n dX7_bench_49 0 rfl ?_
        refine AW.get (k := 0) (v := .ref (gad g 1 0)) (id1_0_0) rfl rfl inGX7 (Nat.le_of_ble_eq_true rfl) w_872 rfl dX7_bench_50 ?_
        refine AW.iconst (v := (3 : Int32)) dX7_bench_53 rfl ?_
        refine AW.iald (jn := 3) (id1_1_0) rfl (by unfold vp_in; decide) rfl dX7_bench_54 ?_
        refine AW.iconst (v := (1 : Int32)) dX7_bench_55 rfl ?_
        refine AW.isub dX7_bench_56 ?_
        exact AW.iret rfl dX7_bench_57 h
      · replace h := ite_t c h
        refine AW.aload_n dX7_bench_36 0 rfl ?_
        refine AW.ldc (v := (-1000002 : Int32)) dX7_bench_37 w_1003 ?_
        refine AW.callVI [.int (-1000002 : Int32)] (C_X7_finds h) ok_X7_finds (id1_0_0) rfl rfl w_952 rfl (Nat.le_of_ble_eq_true rfl) (Nat.le_of_ble_eq_true rfl) rfl dX7_bench_39 (fun r9 σ8 h => ?_)
        exact AW.iret rfl dX7_bench_42 h
    · replace h := ite_f c h
      refine AW.aload_n dX7_bench_19 0 rfl ?_
      refine AW.ldc (v := (-1000001 : Int32)) dX7_bench_20 w_951 ?_
      refine AW.callVI [.int (-1000001 : Int32)] (C_X7_finds h) ok_X7_finds (id1_0_0) rfl rfl w_952 rfl (Nat.le_of_ble_eq_true rfl) (Nat.le_of_ble_eq_true rfl) rfl dX7_bench_22 (fun r11 σ10 h => ?_)
      exact AW.iret rfl dX7_bench_25 h
theorem ok_X7_bench : OkV M_X7_bench 2 := ⟨w_995, w_996, w_9, w_997, by decide +kernel, (Nat.le_of_ble_eq_true rfl)⟩
def M_X7_isBench : MT := (yX7_isBench, cX7_isBench, 2, some .boolean, 2)
def f_X7_isBench (a1 : Int32) (σ : Mm) (K : Bool → Mm → Prop) : Prop := (f_X7_in ((a1).toInt64) (0 : Int64) ((((σ 1 0 3) - (1 : Int32))).toInt64) σ (fun b2 σ1 => (K b2 σ1)))
set_option maxRecDepth 100000 in
set_option maxHeartbeats 4000000 in
theorem C_X7_isBench {g : GG} {a1 : Int32} {σ : Mm} {K : Bool → Mm → Prop} (h : f_X7_isBench a1 σ K) : Ct g 1 M_X7_isBench (QB g 1 K) [.ref (gad g 0 0), .int a1] σ := by
  unfold f_X7_isBench at h
  refine Ct.of (L := [(0, .ref (gad g 0 0)), (1, .int a1)]) (show plainName RX7 = true by decide) (Nat.le_of_ble_eq_true rfl) rfl ?_
  refine AW.iload_n dX7_isBench_0 1 rfl ?_
  refine AW.i2l dX7_isBench_1 ?_
  refine AW.lconst (v := (0 : Int64)) dX7_isBench_2 rfl ?_
  refine AW.aload_n dX7_isBench_3 0 rfl ?_
  refine AW.get (k := 0) (v := .ref (gad g 1 0)) (id1_0_0) rfl rfl inGX7 (Nat.le_of_ble_eq_true rfl) w_872 rfl dX7_isBench_4 ?_
  refine AW.iconst (v := (3 : Int32)) dX7_isBench_7 rfl ?_
  refine AW.iald (jn := 3) (id1_1_0) rfl (by unfold vp_in; decide) rfl dX7_isBench_8 ?_
  refine AW.iconst (v := (1 : Int32)) dX7_isBench_9 rfl ?_
  refine AW.isub dX7_isBench_10 ?_
  refine AW.i2l dX7_isBench_11 ?_
  refine AW.callSB [.long ((a1).toInt64), .long (0 : Int64), .long ((((σ 1 0 3) - (1 : Int32))).toInt64)] (C_X7_in h) ok_X7_in w_947 rfl (Nat.le_of_ble_eq_true rfl) (Nat.le_of_ble_eq_true rfl) rfl dX7_isBench_12 (fun b2 σ1 h => ?_)
  exact AW.bret b2 rfl rfl dX7_isBench_15 h
theorem ok_X7_isBench : OkV M_X7_isBench 1 := ⟨w_1017, wp_32, w_9, w_1018, by decide +kernel, (Nat.le_of_ble_eq_true rfl)⟩
def M_X7_kindOf : MT := (yX7_kindOf, cX7_kindOf, 2, some .int, 1)
def f_X7_kindOf (a1 : Int32) (σ : Mm) (K : Int32 → Mm → Prop) : Prop := (vp_in ((76 : Int32) + ((10 : Int32) * a1)) 136 ∧ (K (σ 1 0 (((76 : Int32) + ((10 : Int32) * a1)).toNatClampNeg)) σ))
set_option maxRecDepth 100000 in
set_option maxHeartbeats 4000000 in
theorem C_X7_kindOf {g : GG} {a1 : Int32} {σ : Mm} {K : Int32 → Mm → Prop} (h : f_X7_kindOf a1 σ K) : Ct g 1 M_X7_kindOf (QI g 1 K) [.ref (gad g 0 0), .int a1] σ := by
  unfold f_X7_kindOf at h
  refine Ct.of (L := [(0, .ref (gad g 0 0)), (1, .int a1)]) (show plainName RX7 = true by decide) (Nat.le_of_ble_eq_true rfl) rfl ?_
  refine AW.aload_n dX7_kindOf_0 0 rfl ?_
  refine AW.get (k := 0) (v := .ref (gad g 1 0)) (id1_0_0) rfl rfl inGX7 (Nat.le_of_ble_eq_true rfl) w_872 rfl dX7_kindOf_1 ?_
  refine AW.bipush (v := (76 : Int32)) dX7_kindOf_4 rfl ?_
  refine AW.bipush (v := (10 : Int32)) dX7_kindOf_6 rfl ?_
  refine AW.iload_n dX7_kindOf_8 1 rfl ?_
  refine AW.imul dX7_kindOf_9 ?_
  refine AW.iadd dX7_kindOf_10 ?_
  obtain ⟨hq1, h⟩ := h
  refine AW.iald (jn := (((76 : Int32) + ((10 : Int32) * a1)).toNatClampNeg)) (id1_1_0) rfl hq1 rfl dX7_kindOf_11 ?_
  exact AW.iret rfl dX7_kindOf_12 h
theorem ok_X7_kindOf : OkV M_X7_kindOf 1 := ⟨w_1026, wp_34, w_9, w_1027, by decide +kernel, (Nat.le_of_ble_eq_true rfl)⟩
def M_X7_seatsOf : MT := (yX7_seatsOf, cX7_seatsOf, 2, some .int, 1)
def f_X7_seatsOf (a1 : Int32) (σ : Mm) (K : Int32 → Mm → Prop) : Prop := (vp_in (((76 : Int32) + ((10 : Int32) * a1)) + (1 : Int32)) 136 ∧ (K (σ 1 0 ((((76 : Int32) + ((10 : Int32) * a1)) + (1 : Int32)).toNatClampNeg)) σ))
set_option maxRecDepth 100000 in
set_option maxHeartbeats 4000000 in
theorem C_X7_seatsOf {g : GG} {a1 : Int32} {σ : Mm} {K : Int32 → Mm → Prop} (h : f_X7_seatsOf a1 σ K) : Ct g 1 M_X7_seatsOf (QI g 1 K) [.ref (gad g 0 0), .int a1] σ := by
  unfold f_X7_seatsOf at h
  refine Ct.of (L := [(0, .ref (gad g 0 0)), (1, .int a1)]) (show plainName RX7 = true by decide) (Nat.le_of_ble_eq_true rfl) rfl ?_
  refine AW.aload_n dX7_seatsOf_0 0 rfl ?_
  refine AW.get (k := 0) (v := .ref (gad g 1 0)) (id1_0_0) rfl rfl inGX7 (Nat.le_of_ble_eq_true rfl) w_872 rfl dX7_seatsOf_1 ?_
  refine AW.bipush (v := (76 : Int32)) dX7_seatsOf_4 rfl ?_
  refine AW.bipush (v := (10 : Int32)) dX7_seatsOf_6 rfl ?_
  refine AW.iload_n dX7_seatsOf_8 1 rfl ?_
  refine AW.imul dX7_seatsOf_9 ?_
  refine AW.iadd dX7_seatsOf_10 ?_
  refine AW.iconst (v := (1 : Int32)) dX7_seatsOf_11 rfl ?_
  refine AW.iadd dX7_seatsOf_12 ?_
  obtain ⟨hq1, h⟩ := h
  refine AW.iald (jn := ((((76 : Int32) + ((10 : Int32) * a1)) + (1 : Int32)).toNatClampNeg)) (id1_1_0) rfl hq1 rfl dX7_seatsOf_13 ?_
  exact AW.iret rfl dX7_seatsOf_14 h
theorem ok_X7_seatsOf : OkV M_X7_seatsOf 1 := ⟨w_1030, wp_35, w_9, w_1031, by decide +kernel, (Nat.le_of_ble_eq_true rfl)⟩
def M_X7_looksAt : MT := (yX7_looksAt, cX7_looksAt, 3, none, 2)
set_option maxRecDepth 100000 in
def f_X7_looksAt_20 (a1 : Int32) (K : Mm → Prop) : Nat → Int32 → Mm → Prop
  | 0, _, _ => False
  | n + 1, a2, σ => (if (σ 0 0 7) ≤ a2 then (K σ) else (f_X7_at a1 a2 σ (fun r8 σ7 => (vp_in r8 136 ∧ (vp_in a2 8 ∧ (∃ σ11, σ11 = mset σ7 5 0 (a2.toNatClampNeg) (σ7 1 0 (r8.toNatClampNeg)) ∧ (f_X7_looksAt_20 a1 K n (a2 + (1 : Int32)) σ11)))))))
set_option maxRecDepth 100000 in
set_option maxHeartbeats 4000000 in
theorem T_X7_looksAt_20 {g : GG} {a1 : Int32} {K : Mm → Prop} : ∀ (n : Nat) (a2 : Int32) (σ : Mm), f_X7_looksAt_20 a1 K n a2 σ → AW g 1 M_X7_looksAt (QV g 1 K) 20 [(0, .ref (gad g 0 0)), (1, .int a1), (2, .int a2)] [] σ := by
  intro n
  induction n with
  | zero => intro a2 σ h; exact False.elim h
  | succ n ih =>
    intro a2 σ h
    rw [f_X7_looksAt_20] at h
    refine AW.iload_n dX7_looksAt_20 2 rfl ?_
    refine AW.aload_n dX7_looksAt_21 0 rfl ?_
    refine AW.get (k := 7) (v := .int (σ 0 0 7)) (id1_0_0) rfl rfl inGX7 (Nat.le_of_ble_eq_true rfl) w_879 rfl dX7_looksAt_22 ?_
    refine AW.icmp_ge (tgt := 50) dX7_looksAt_25 rfl (fun c => ?_) (fun c => ?_)
    · replace h := ite_t c h
      exact AW.vret rfl dX7_looksAt_50 h
    · replace h := ite_f c h
      refine AW.aload_n dX7_looksAt_28 0 rfl ?_
      refine AW.get (k := 5) (v := .ref (gad g 5 0)) (id1_0_0) rfl rfl inGX7 (Nat.le_of_ble_eq_true rfl) w_877 rfl dX7_looksAt_29 ?_
      refine AW.iload_n dX7_looksAt_32 2 rfl ?_
      refine AW.aload_n dX7_looksAt_33 0 rfl ?_
      refine AW.get (k := 0) (v := .ref (gad g 1 0)) (id1_0_0) rfl rfl inGX7 (Nat.le_of_ble_eq_true rfl) w_872 rfl dX7_looksAt_34 ?_
      refine AW.iload_n dX7_looksAt_37 1 rfl ?_
      refine AW.iload_n dX7_looksAt_38 2 rfl ?_
      refine AW.callSI [.int a1, .int a2] (C_X7_at h) ok_X7_at w_1008 rfl (Nat.le_of_ble_eq_true rfl) (Nat.le_of_ble_eq_true rfl) rfl dX7_looksAt_39 (fun r8 σ7 h => ?_)
      obtain ⟨hq9, h⟩ := h
      refine AW.iald (jn := (r8.toNatClampNeg)) (id1_1_0) rfl hq9 rfl dX7_looksAt_42 ?_
      obtain ⟨hq10, h⟩ := h
      refine AW.iast (jn := (a2.toNatClampNeg)) (id1_5_0) (fun _ => rfl) hq10 rfl dX7_looksAt_43 ?_
      obtain ⟨σ11, eσ11, h⟩ := h
      rw [← eσ11]
      refine AW.iinc (v := (a2 + (1 : Int32))) (L' := [(0, .ref (gad g 0 0)), (1, .int a1), (2, .int (a2 + (1 : Int32)))]) dX7_looksAt_44 2 rfl rfl (Nat.le_of_ble_eq_true rfl) rfl ?_
      refine AW.goto (tgt := 20) dX7_looksAt_47 rfl ?_
      exact ih _ _ h
def f_X7_looksAt (a1 : Int32) (σ : Mm) (K : Mm → Prop) : Prop := (f_X7_kindOf a1 σ (fun r2 σ1 => (∃ σ3, σ3 = mset σ1 0 0 6 r2 ∧ (f_X7_seatsOf a1 σ3 (fun r5 σ4 => (∃ σ6, σ6 = mset σ4 0 0 7 r5 ∧ (∃ m, f_X7_looksAt_20 a1 K m (0 : Int32) σ6)))))))
set_option maxRecDepth 100000 in
set_option maxHeartbeats 4000000 in
theorem C_X7_looksAt {g : GG} {a1 : Int32} {σ : Mm} {K : Mm → Prop} (h : f_X7_looksAt a1 σ K) : Ct g 1 M_X7_looksAt (QV g 1 K) [.ref (gad g 0 0), .int a1] σ := by
  unfold f_X7_looksAt at h
  refine Ct.of (L := [(0, .ref (gad g 0 0)), (1, .int a1)]) (show plainName RX7 = true by decide) (Nat.le_of_ble_eq_true rfl) rfl ?_
  refine AW.aload_n dX7_looksAt_0 0 rfl ?_
  refine AW.aload_n dX7_looksAt_1 0 rfl ?_
  refine AW.iload_n dX7_looksAt_2 1 rfl ?_
  refine AW.callVI [.int a1] (C_X7_kindOf h) ok_X7_kindOf (id1_0_0) rfl rfl w_1024 rfl (Nat.le_of_ble_eq_true rfl) (Nat.le_of_ble_eq_true rfl) rfl dX7_looksAt_3 (fun r2 σ1 h => ?_)
  refine AW.put (k := 6) (w := r2) (id1_0_0) rfl rfl inGX7 tyX7_ok nmX7 (Nat.le_of_ble_eq_true rfl) w_878 rfl rfl rfl rfl (Nat.le_of_ble_eq_true rfl) rfl dX7_looksAt_6 ?_
  obtain ⟨σ3, eσ3, h⟩ := h
  rw [← eσ3]
  refine AW.aload_n dX7_looksAt_9 0 rfl ?_
  refine AW.aload_n dX7_looksAt_10 0 rfl ?_
  refine AW.iload_n dX7_looksAt_11 1 rfl ?_
  refine AW.callVI [.int a1] (C_X7_seatsOf h) ok_X7_seatsOf (id1_0_0) rfl rfl w_1028 rfl (Nat.le_of_ble_eq_true rfl) (Nat.le_of_ble_eq_true rfl) rfl dX7_looksAt_12 (fun r5 σ4 h => ?_)
  refine AW.put (k := 7) (w := r5) (id1_0_0) rfl rfl inGX7 tyX7_ok nmX7 (Nat.le_of_ble_eq_true rfl) w_879 rfl rfl rfl rfl (Nat.le_of_ble_eq_true rfl) rfl dX7_looksAt_15 ?_
  obtain ⟨σ6, eσ6, h⟩ := h
  rw [← eσ6]
  refine AW.iconst (v := (0 : Int32)) dX7_looksAt_18 rfl ?_
  refine AW.istore_n (L' := [(0, .ref (gad g 0 0)), (1, .int a1), (2, .int (0 : Int32))]) dX7_looksAt_19 (Nat.le_of_ble_eq_true rfl) rfl ?_
  obtain ⟨m, h⟩ := h
  refine T_X7_looksAt_20 m _ _ h
theorem ok_X7_looksAt : OkV M_X7_looksAt 1 := ⟨w_1022, wp_33, w_9, w_1023, by decide +kernel, (Nat.le_of_ble_eq_true rfl)⟩
def M_X7_isThere : MT := (yX7_isThere, cX7_isThere, 2, some .boolean, 2)
def f_X7_isThere (a1 : Int32) (σ : Mm) (K : Bool → Mm → Prop) : Prop := (f_X7_in ((a1).toInt64) (0 : Int64) ((((σ 0 0 7) - (1 : Int32))).toInt64) σ (fun b2 σ1 => (K b2 σ1)))
set_option maxRecDepth 100000 in
set_option maxHeartbeats 4000000 in
theorem C_X7_isThere {g : GG} {a1 : Int32} {σ : Mm} {K : Bool → Mm → Prop} (h : f_X7_isThere a1 σ K) : Ct g 1 M_X7_isThere (QB g 1 K) [.ref (gad g 0 0), .int a1] σ := by
  unfold f_X7_isThere at h
  refine Ct.of (L := [(0, .ref (gad g 0 0)), (1, .int a1)]) (show plainName RX7 = true by decide) (Nat.le_of_ble_eq_true rfl) rfl ?_
  refine AW.iload_n dX7_isThere_0 1 rfl ?_
  refine AW.i2l dX7_isThere_1 ?_
  refine AW.lconst (v := (0 : Int64)) dX7_isThere_2 rfl ?_
  refine AW.aload_n dX7_isThere_3 0 rfl ?_
  refine AW.get (k := 7) (v := .int (σ 0 0 7)) (id1_0_0) rfl rfl inGX7 (Nat.le_of_ble_eq_true rfl) w_879 rfl dX7_isThere_4 ?_
  refine AW.iconst (v := (1 : Int32)) dX7_isThere_7 rfl ?_
  refine AW.isub dX7_isThere_8 ?_
  refine AW.i2l dX7_isThere_9 ?_
  refine AW.callSB [.long ((a1).toInt64), .long (0 : Int64), .long ((((σ 0 0 7) - (1 : Int32))).toInt64)] (C_X7_in h) ok_X7_in w_947 rfl (Nat.le_of_ble_eq_true rfl) (Nat.le_of_ble_eq_true rfl) rfl dX7_isThere_10 (fun b2 σ1 h => ?_)
  exact AW.bret b2 rfl rfl dX7_isThere_13 h
theorem ok_X7_isThere : OkV M_X7_isThere 1 := ⟨w_1054, wp_41, w_9, w_1055, by decide +kernel, (Nat.le_of_ble_eq_true rfl)⟩
def M_X7_whoIsOn : MT := (yX7_whoIsOn, cX7_whoIsOn, 2, some .int, 3)
def f_X7_whoIsOn (a1 : Int32) (σ : Mm) (K : Int32 → Mm → Prop) : Prop := (f_X7_isThere a1 σ (fun b2 σ1 => (if b2 = true then (vp_in a1 8 ∧ (K (σ1 5 0 (a1.toNatClampNeg)) σ1)) else (K (-1 : Int32) σ1))))
set_option maxRecDepth 100000 in
set_option maxHeartbeats 4000000 in
theorem C_X7_whoIsOn {g : GG} {a1 : Int32} {σ : Mm} {K : Int32 → Mm → Prop} (h : f_X7_whoIsOn a1 σ K) : Ct g 1 M_X7_whoIsOn (QI g 1 K) [.ref (gad g 0 0), .int a1] σ := by
  unfold f_X7_whoIsOn at h
  refine Ct.of (L := [(0, .ref (gad g 0 0)), (1, .int a1)]) (show plainName RX7 = true by decide) (Nat.le_of_ble_eq_true rfl) rfl ?_
  refine AW.aload_n dX7_whoIsOn_0 0 rfl ?_
  refine AW.iload_n dX7_whoIsOn_1 1 rfl ?_
  refine AW.callVB [.int a1] (C_X7_isThere h) ok_X7_isThere (id1_0_0) rfl rfl w_1052 rfl (Nat.le_of_ble_eq_true rfl) (Nat.le_of_ble_eq_true rfl) rfl dX7_whoIsOn_2 (fun b2 σ1 h => ?_)
  refine AW.ifb_eq (tgt := 17) dX7_whoIsOn_5 rfl (fun c => ?_) (fun c => ?_)
  · replace h := ite_f c h
    refine AW.iconst (v := (-1 : Int32)) dX7_whoIsOn_17 rfl ?_
    exact AW.iret rfl dX7_whoIsOn_18 h
  · replace h := ite_t c h
    refine AW.aload_n dX7_whoIsOn_8 0 rfl ?_
    refine AW.get (k := 5) (v := .ref (gad g 5 0)) (id1_0_0) rfl rfl inGX7 (Nat.le_of_ble_eq_true rfl) w_877 rfl dX7_whoIsOn_9 ?_
    refine AW.iload_n dX7_whoIsOn_12 1 rfl ?_
    obtain ⟨hq3, h⟩ := h
    refine AW.iald (jn := (a1.toNatClampNeg)) (id1_5_0) rfl hq3 rfl dX7_whoIsOn_13 ?_
    refine AW.goto (tgt := 18) dX7_whoIsOn_14 rfl ?_
    exact AW.iret rfl dX7_whoIsOn_18 h
theorem ok_X7_whoIsOn : OkV M_X7_whoIsOn 1 := ⟨w_1058, wp_42, w_9, w_1059, by decide +kernel, (Nat.le_of_ble_eq_true rfl)⟩
