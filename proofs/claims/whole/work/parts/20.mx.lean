def M_X6_isPerson : MT := (yX6_isPerson, cX6_isPerson, 1, some .boolean, 1)
def f_X6_isPerson (a0 : Int32) (σ : Mm) (K : Bool → Mm → Prop) : Prop := (if a0 < 0 then (K false σ) else (if (8 : Int32) ≤ a0 then (K false σ) else (K true σ)))
set_option maxRecDepth 100000 in
set_option maxHeartbeats 4000000 in
theorem C_X6_isPerson {g : GG} {a0 : Int32} {σ : Mm} {K : Bool → Mm → Prop} (h : f_X6_isPerson a0 σ K) : Ct g 0 M_X6_isPerson (QB g 0 K) [.int a0] σ := by
  unfold f_X6_isPerson at h
  refine Ct.of (L := [(0, .int a0)]) (show plainName RX6 = true by decide) (Nat.le_of_ble_eq_true rfl) rfl ?_
  refine AW.iload_n dX6_isPerson_0 0 rfl ?_
  refine AW.if_lt (tgt := 14) dX6_isPerson_1 rfl (fun c => ?_) (fun c => ?_)
  · replace h := ite_t c h
    refine AW.iconst (v := (0 : Int32)) dX6_isPerson_14 rfl ?_
    exact AW.bret false rfl rfl dX6_isPerson_15 h
  · replace h := ite_f c h
    refine AW.iload_n dX6_isPerson_4 0 rfl ?_
    refine AW.bipush (v := (8 : Int32)) dX6_isPerson_5 rfl ?_
    refine AW.icmp_ge (tgt := 14) dX6_isPerson_7 rfl (fun c => ?_) (fun c => ?_)
    · replace h := ite_t c h
      refine AW.iconst (v := (0 : Int32)) dX6_isPerson_14 rfl ?_
      exact AW.bret false rfl rfl dX6_isPerson_15 h
    · replace h := ite_f c h
      refine AW.iconst (v := (1 : Int32)) dX6_isPerson_10 rfl ?_
      refine AW.goto (tgt := 15) dX6_isPerson_11 rfl ?_
      exact AW.bret true rfl rfl dX6_isPerson_15 h
theorem ok_X6_isPerson : OkS M_X6_isPerson 1 := ⟨w_245, w_1, w_246, by decide +kernel, (Nat.le_of_ble_eq_true rfl)⟩
def M_X6_arePair : MT := (yX6_arePair, cX6_arePair, 2, some .boolean, 2)
def f_X6_arePair (a0 : Int32) (a1 : Int32) (σ : Mm) (K : Bool → Mm → Prop) : Prop := (f_X6_isPerson a0 σ (fun b2 σ1 => (if b2 = true then (f_X6_isPerson a1 σ1 (fun b4 σ3 => (if b4 = true then (if a0 = a1 then (K false σ3) else (K true σ3)) else (K false σ3)))) else (K false σ1))))
set_option maxRecDepth 100000 in
set_option maxHeartbeats 4000000 in
theorem C_X6_arePair {g : GG} {a0 : Int32} {a1 : Int32} {σ : Mm} {K : Bool → Mm → Prop} (h : f_X6_arePair a0 a1 σ K) : Ct g 0 M_X6_arePair (QB g 0 K) [.int a0, .int a1] σ := by
  unfold f_X6_arePair at h
  refine Ct.of (L := [(0, .int a0), (1, .int a1)]) (show plainName RX6 = true by decide) (Nat.le_of_ble_eq_true rfl) rfl ?_
  refine AW.iload_n dX6_arePair_0 0 rfl ?_
  refine AW.callSB [.int a0] (C_X6_isPerson h) ok_X6_isPerson w_244 rfl (Nat.le_of_ble_eq_true rfl) (Nat.le_of_ble_eq_true rfl) rfl dX6_arePair_1 (fun b2 σ1 h => ?_)
  refine AW.ifb_eq (tgt := 23) dX6_arePair_4 rfl (fun c => ?_) (fun c => ?_)
  · replace h := ite_f c h
    refine AW.iconst (v := (0 : Int32)) dX6_arePair_23 rfl ?_
    exact AW.bret false rfl rfl dX6_arePair_24 h
  · replace h := ite_t c h
    refine AW.iload_n dX6_arePair_7 1 rfl ?_
    refine AW.callSB [.int a1] (C_X6_isPerson h) ok_X6_isPerson w_244 rfl (Nat.le_of_ble_eq_true rfl) (Nat.le_of_ble_eq_true rfl) rfl dX6_arePair_8 (fun b4 σ3 h => ?_)
    refine AW.ifb_eq (tgt := 23) dX6_arePair_11 rfl (fun c => ?_) (fun c => ?_)
    · replace h := ite_f c h
      refine AW.iconst (v := (0 : Int32)) dX6_arePair_23 rfl ?_
      exact AW.bret false rfl rfl dX6_arePair_24 h
    · replace h := ite_t c h
      refine AW.iload_n dX6_arePair_14 0 rfl ?_
      refine AW.iload_n dX6_arePair_15 1 rfl ?_
      refine AW.icmp_eq (tgt := 23) dX6_arePair_16 rfl (fun c => ?_) (fun c => ?_)
      · replace h := ite_t c h
        refine AW.iconst (v := (0 : Int32)) dX6_arePair_23 rfl ?_
        exact AW.bret false rfl rfl dX6_arePair_24 h
      · replace h := ite_f c h
        refine AW.iconst (v := (1 : Int32)) dX6_arePair_19 rfl ?_
        refine AW.goto (tgt := 24) dX6_arePair_20 rfl ?_
        exact AW.bret true rfl rfl dX6_arePair_24 h
theorem ok_X6_arePair : OkS M_X6_arePair 2 := ⟨w_242, w_1, w_243, by decide +kernel, (Nat.le_of_ble_eq_true rfl)⟩
def M_X6_finding : MT := (yX6_finding, cX6_finding, 2, some .int, 1)
def f_X6_finding (a1 : Int32) (σ : Mm) (K : Int32 → Mm → Prop) : Prop := (vp_in a1 7 ∧ (vp_in a1 7 ∧ (∃ σ3, σ3 = mset σ 15 0 (a1.toNatClampNeg) ((σ 15 0 (a1.toNatClampNeg)) + (1 : Int32)) ∧ (K ((-1000001 : Int32) - a1) σ3))))
set_option maxRecDepth 100000 in
set_option maxHeartbeats 4000000 in
theorem C_X6_finding {g : GG} {a1 : Int32} {σ : Mm} {K : Int32 → Mm → Prop} (h : f_X6_finding a1 σ K) : Ct g 0 M_X6_finding (QI g 0 K) [.ref (gad g 16 0), .int a1] σ := by
  unfold f_X6_finding at h
  refine Ct.of (L := [(0, .ref (gad g 16 0)), (1, .int a1)]) (show plainName RX6 = true by decide) (Nat.le_of_ble_eq_true rfl) rfl ?_
  refine AW.aload_n dX6_finding_0 0 rfl ?_
  refine AW.get (k := 10) (v := .ref (gad g 15 0)) (id0_16_0) rfl rfl inGX6 (Nat.le_of_ble_eq_true rfl) w_213 rfl dX6_finding_1 ?_
  refine AW.iload_n dX6_finding_4 1 rfl ?_
  refine AW.dup2 dX6_finding_5 rfl rfl ?_
  obtain ⟨hq1, h⟩ := h
  refine AW.iald (jn := (a1.toNatClampNeg)) (id0_15_0) rfl hq1 rfl dX6_finding_6 ?_
  refine AW.iconst (v := (1 : Int32)) dX6_finding_7 rfl ?_
  refine AW.iadd dX6_finding_8 ?_
  obtain ⟨hq2, h⟩ := h
  refine AW.iast (jn := (a1.toNatClampNeg)) (id0_15_0) (fun _ => rfl) hq2 rfl dX6_finding_9 ?_
  obtain ⟨σ3, eσ3, h⟩ := h
  rw [← eσ3]
  refine AW.ldcw (v := (-1000001 : Int32)) dX6_finding_10 w_251 ?_
  refine AW.iload_n dX6_finding_13 1 rfl ?_
  refine AW.isub dX6_finding_14 ?_
  exact AW.iret rfl dX6_finding_15 h
theorem ok_X6_finding : OkV M_X6_finding 1 := ⟨w_249, wp_0, w_1, w_250, by decide +kernel, (Nat.le_of_ble_eq_true rfl)⟩
def M_X1_bondOf : MT := (yX1_bondOf, cX1_bondOf, 3, some .int, 1)
def f_X1_bondOf (i0 : Nat) (a1 : Int32) (a2 : Int32) (σ : Mm) (K : Int32 → Mm → Prop) : Prop := (i0 < 3 ∧ (vp_in (((8 : Int32) * a1) + a2) 64 ∧ (K (σ 3 i0 ((((8 : Int32) * a1) + a2).toNatClampNeg)) σ)))
set_option maxRecDepth 100000 in
set_option maxHeartbeats 4000000 in
theorem C_X1_bondOf {g : GG} {i0 : Nat} {a1 : Int32} {a2 : Int32} {σ : Mm} {K : Int32 → Mm → Prop} (h : f_X1_bondOf i0 a1 a2 σ K) : Ct g 0 M_X1_bondOf (QI g 0 K) [.ref (gad g 2 i0), .int a1, .int a2] σ := by
  unfold f_X1_bondOf at h
  obtain ⟨hi0, h⟩ := h
  refine Ct.of (L := [(0, .ref (gad g 2 i0)), (1, .int a1), (2, .int a2)]) (show plainName RX1 = true by decide) (Nat.le_of_ble_eq_true rfl) rfl ?_
  refine AW.aload_n dX1_bondOf_0 0 rfl ?_
  refine AW.get (k := 0) (v := .ref (gad g 3 i0)) (ids_in (Nat.le_of_ble_eq_true rfl) hi0) rfl rfl inGX1 (Nat.le_of_ble_eq_true rfl) w_40 rfl dX1_bondOf_1 ?_
  refine AW.bipush (v := (8 : Int32)) dX1_bondOf_4 rfl ?_
  refine AW.iload_n dX1_bondOf_6 1 rfl ?_
  refine AW.imul dX1_bondOf_7 ?_
  refine AW.iload_n dX1_bondOf_8 2 rfl ?_
  refine AW.iadd dX1_bondOf_9 ?_
  obtain ⟨hq1, h⟩ := h
  refine AW.iald (jn := ((((8 : Int32) * a1) + a2).toNatClampNeg)) (ids_in (Nat.le_of_ble_eq_true rfl) hi0) rfl hq1 rfl dX1_bondOf_10 ?_
  exact AW.iret rfl dX1_bondOf_11 h
theorem ok_X1_bondOf : OkV M_X1_bondOf 2 := ⟨w_253, w_254, w_3, w_255, by decide +kernel, (Nat.le_of_ble_eq_true rfl)⟩
def M_X1_tie : MT := (yX1_tie, cX1_tie, 4, none, 1)
def f_X1_tie (i0 : Nat) (a1 : Int32) (a2 : Int32) (a3 : Int32) (σ : Mm) (K : Mm → Prop) : Prop := (i0 < 3 ∧ (vp_in (((8 : Int32) * a1) + a2) 64 ∧ (∃ σ2, σ2 = mset σ 3 i0 ((((8 : Int32) * a1) + a2).toNatClampNeg) a3 ∧ (vp_in (((8 : Int32) * a2) + a1) 64 ∧ (∃ σ4, σ4 = mset σ2 3 i0 ((((8 : Int32) * a2) + a1).toNatClampNeg) a3 ∧ (K σ4))))))
set_option maxRecDepth 100000 in
set_option maxHeartbeats 4000000 in
theorem C_X1_tie {g : GG} {i0 : Nat} {a1 : Int32} {a2 : Int32} {a3 : Int32} {σ : Mm} {K : Mm → Prop} (h : f_X1_tie i0 a1 a2 a3 σ K) : Ct g 0 M_X1_tie (QV g 0 K) [.ref (gad g 2 i0), .int a1, .int a2, .int a3] σ := by
  unfold f_X1_tie at h
  obtain ⟨hi0, h⟩ := h
  refine Ct.of (L := [(0, .ref (gad g 2 i0)), (1, .int a1), (2, .int a2), (3, .int a3)]) (show plainName RX1 = true by decide) (Nat.le_of_ble_eq_true rfl) rfl ?_
  refine AW.aload_n dX1_tie_0 0 rfl ?_
  refine AW.get (k := 0) (v := .ref (gad g 3 i0)) (ids_in (Nat.le_of_ble_eq_true rfl) hi0) rfl rfl inGX1 (Nat.le_of_ble_eq_true rfl) w_40 rfl dX1_tie_1 ?_
  refine AW.bipush (v := (8 : Int32)) dX1_tie_4 rfl ?_
  refine AW.iload_n dX1_tie_6 1 rfl ?_
  refine AW.imul dX1_tie_7 ?_
  refine AW.iload_n dX1_tie_8 2 rfl ?_
  refine AW.iadd dX1_tie_9 ?_
  refine AW.iload_n dX1_tie_10 3 rfl ?_
  obtain ⟨hq1, h⟩ := h
  refine AW.iast (jn := ((((8 : Int32) * a1) + a2).toNatClampNeg)) (ids_in (Nat.le_of_ble_eq_true rfl) hi0) (fun _ => rfl) hq1 rfl dX1_tie_11 ?_
  obtain ⟨σ2, eσ2, h⟩ := h
  rw [← eσ2]
  refine AW.aload_n dX1_tie_12 0 rfl ?_
  refine AW.get (k := 0) (v := .ref (gad g 3 i0)) (ids_in (Nat.le_of_ble_eq_true rfl) hi0) rfl rfl inGX1 (Nat.le_of_ble_eq_true rfl) w_40 rfl dX1_tie_13 ?_
  refine AW.bipush (v := (8 : Int32)) dX1_tie_16 rfl ?_
  refine AW.iload_n dX1_tie_18 2 rfl ?_
  refine AW.imul dX1_tie_19 ?_
  refine AW.iload_n dX1_tie_20 1 rfl ?_
  refine AW.iadd dX1_tie_21 ?_
  refine AW.iload_n dX1_tie_22 3 rfl ?_
  obtain ⟨hq3, h⟩ := h
  refine AW.iast (jn := ((((8 : Int32) * a2) + a1).toNatClampNeg)) (ids_in (Nat.le_of_ble_eq_true rfl) hi0) (fun _ => rfl) hq3 rfl dX1_tie_23 ?_
  obtain ⟨σ4, eσ4, h⟩ := h
  rw [← eσ4]
  exact AW.vret rfl dX1_tie_24 h
theorem ok_X1_tie : OkV M_X1_tie 3 := ⟨w_257, w_258, w_3, w_259, by decide +kernel, (Nat.le_of_ble_eq_true rfl)⟩
def M_X6_friends : MT := (yX6_friends, cX6_friends, 5, some .int, 3)
def f_X6_friends (a1 : Int32) (a2 : Int32) (a3 : Int32) (σ : Mm) (K : Int32 → Mm → Prop) : Prop := (f_X6_arePair a1 a2 σ (fun b2 σ1 => (if b2 = true then (if a3 < 0 then (f_X6_finding (0 : Int32) σ1 (fun r6 σ5 => (K r6 σ5))) else (if a3 ≤ (2 : Int32) then (f_X1_bondOf 0 a1 a2 σ1 (fun r8 σ7 => (f_X1_tie 0 a1 a2 a3 σ7 (fun σ9 => (K r8 σ9))))) else (f_X6_finding (0 : Int32) σ1 (fun r11 σ10 => (K r11 σ10))))) else (f_X6_finding (0 : Int32) σ1 (fun r4 σ3 => (K r4 σ3))))))
set_option maxRecDepth 100000 in
set_option maxHeartbeats 4000000 in
theorem C_X6_friends {g : GG} {a1 : Int32} {a2 : Int32} {a3 : Int32} {σ : Mm} {K : Int32 → Mm → Prop} (h : f_X6_friends a1 a2 a3 σ K) : Ct g 0 M_X6_friends (QI g 0 K) [.ref (gad g 16 0), .int a1, .int a2, .int a3] σ := by
  unfold f_X6_friends at h
  refine Ct.of (L := [(0, .ref (gad g 16 0)), (1, .int a1), (2, .int a2), (3, .int a3)]) (show plainName RX6 = true by decide) (Nat.le_of_ble_eq_true rfl) rfl ?_
  refine AW.iload_n dX6_friends_0 1 rfl ?_
  refine AW.iload_n dX6_friends_1 2 rfl ?_
  refine AW.callSB [.int a1, .int a2] (C_X6_arePair h) ok_X6_arePair w_241 rfl (Nat.le_of_ble_eq_true rfl) (Nat.le_of_ble_eq_true rfl) rfl dX6_friends_2 (fun b2 σ1 h => ?_)
  refine AW.ifb_eq (tgt := 17) dX6_friends_5 rfl (fun c => ?_) (fun c => ?_)
  · replace h := ite_f c h
    refine AW.aload_n dX6_friends_17 0 rfl ?_
    refine AW.iconst (v := (0 : Int32)) dX6_friends_18 rfl ?_
    refine AW.callVI [.int (0 : Int32)] (C_X6_finding h) ok_X6_finding (id0_16_0) rfl rfl w_247 rfl (Nat.le_of_ble_eq_true rfl) (Nat.le_of_ble_eq_true rfl) rfl dX6_friends_19 (fun r4 σ3 h => ?_)
    exact AW.iret rfl dX6_friends_22 h
  · replace h := ite_t c h
    refine AW.iload_n dX6_friends_8 3 rfl ?_
    refine AW.if_lt (tgt := 17) dX6_friends_9 rfl (fun c => ?_) (fun c => ?_)
    · replace h := ite_t c h
      refine AW.aload_n dX6_friends_17 0 rfl ?_
      refine AW.iconst (v := (0 : Int32)) dX6_friends_18 rfl ?_
      refine AW.callVI [.int (0 : Int32)] (C_X6_finding h) ok_X6_finding (id0_16_0) rfl rfl w_247 rfl (Nat.le_of_ble_eq_true rfl) (Nat.le_of_ble_eq_true rfl) rfl dX6_friends_19 (fun r6 σ5 h => ?_)
      exact AW.iret rfl dX6_friends_22 h
    · replace h := ite_f c h
      refine AW.iload_n dX6_friends_12 3 rfl ?_
      refine AW.iconst (v := (2 : Int32)) dX6_friends_13 rfl ?_
      refine AW.icmp_le (tgt := 23) dX6_friends_14 rfl (fun c => ?_) (fun c => ?_)
      · replace h := ite_t c h
        refine AW.aload_n dX6_friends_23 0 rfl ?_
        refine AW.get (k := 0) (v := .ref (gad g 5 0)) (id0_16_0) rfl rfl inGX6 (Nat.le_of_ble_eq_true rfl) w_203 rfl dX6_friends_24 ?_
        refine AW.get (k := 0) (v := .ref (gad g 2 0)) (id0_5_0) rfl rfl inGX2 (Nat.le_of_ble_eq_true rfl) w_93 rfl dX6_friends_27 ?_
        refine AW.iload_n dX6_friends_30 1 rfl ?_
        refine AW.iload_n dX6_friends_31 2 rfl ?_
        refine AW.callVI [.int a1, .int a2] (C_X1_bondOf h) ok_X1_bondOf (id0_2_0) rfl rfl w_252 rfl (Nat.le_of_ble_eq_true rfl) (Nat.le_of_ble_eq_true rfl) rfl dX6_friends_32 (fun r8 σ7 h => ?_)
        refine AW.istore (L' := [(0, .ref (gad g 16 0)), (1, .int a1), (2, .int a2), (3, .int a3), (4, .int r8)]) dX6_friends_35 (Nat.le_of_ble_eq_true rfl) rfl ?_
        refine AW.aload_n dX6_friends_37 0 rfl ?_
        refine AW.get (k := 0) (v := .ref (gad g 5 0)) (id0_16_0) rfl rfl inGX6 (Nat.le_of_ble_eq_true rfl) w_203 rfl dX6_friends_38 ?_
        refine AW.get (k := 0) (v := .ref (gad g 2 0)) (id0_5_0) rfl rfl inGX2 (Nat.le_of_ble_eq_true rfl) w_93 rfl dX6_friends_41 ?_
        refine AW.iload_n dX6_friends_44 1 rfl ?_
        refine AW.iload_n dX6_friends_45 2 rfl ?_
        refine AW.iload_n dX6_friends_46 3 rfl ?_
        refine AW.callVV [.int a1, .int a2, .int a3] (C_X1_tie h) ok_X1_tie (id0_2_0) rfl rfl w_256 rfl (Nat.le_of_ble_eq_true rfl) (Nat.le_of_ble_eq_true rfl) rfl dX6_friends_47 (fun σ9 h => ?_)
        refine AW.iload dX6_friends_50 4 rfl ?_
        exact AW.iret rfl dX6_friends_52 h
      · replace h := ite_f c h
        refine AW.aload_n dX6_friends_17 0 rfl ?_
        refine AW.iconst (v := (0 : Int32)) dX6_friends_18 rfl ?_
        refine AW.callVI [.int (0 : Int32)] (C_X6_finding h) ok_X6_finding (id0_16_0) rfl rfl w_247 rfl (Nat.le_of_ble_eq_true rfl) (Nat.le_of_ble_eq_true rfl) rfl dX6_friends_19 (fun r11 σ10 h => ?_)
        exact AW.iret rfl dX6_friends_22 h
theorem ok_X6_friends : OkV M_X6_friends 3 := ⟨w_238, w_239, w_1, w_240, by decide +kernel, (Nat.le_of_ble_eq_true rfl)⟩
def M_X6_are : MT := (yX6_are, cX6_are, 3, some .int, 3)
def f_X6_are (a1 : Int32) (a2 : Int32) (σ : Mm) (K : Int32 → Mm → Prop) : Prop := (f_X6_arePair a1 a2 σ (fun b2 σ1 => (if b2 = true then (f_X1_bondOf 0 a1 a2 σ1 (fun r6 σ5 => (K r6 σ5))) else (f_X6_finding (0 : Int32) σ1 (fun r4 σ3 => (K r4 σ3))))))
set_option maxRecDepth 100000 in
set_option maxHeartbeats 4000000 in
theorem C_X6_are {g : GG} {a1 : Int32} {a2 : Int32} {σ : Mm} {K : Int32 → Mm → Prop} (h : f_X6_are a1 a2 σ K) : Ct g 0 M_X6_are (QI g 0 K) [.ref (gad g 16 0), .int a1, .int a2] σ := by
  unfold f_X6_are at h
  refine Ct.of (L := [(0, .ref (gad g 16 0)), (1, .int a1), (2, .int a2)]) (show plainName RX6 = true by decide) (Nat.le_of_ble_eq_true rfl) rfl ?_
  refine AW.iload_n dX6_are_0 1 rfl ?_
  refine AW.iload_n dX6_are_1 2 rfl ?_
  refine AW.callSB [.int a1, .int a2] (C_X6_arePair h) ok_X6_arePair w_241 rfl (Nat.le_of_ble_eq_true rfl) (Nat.le_of_ble_eq_true rfl) rfl dX6_are_2 (fun b2 σ1 h => ?_)
  refine AW.ifb_eq (tgt := 23) dX6_are_5 rfl (fun c => ?_) (fun c => ?_)
  · replace h := ite_f c h
    refine AW.aload_n dX6_are_23 0 rfl ?_
    refine AW.iconst (v := (0 : Int32)) dX6_are_24 rfl ?_
    refine AW.callVI [.int (0 : Int32)] (C_X6_finding h) ok_X6_finding (id0_16_0) rfl rfl w_247 rfl (Nat.le_of_ble_eq_true rfl) (Nat.le_of_ble_eq_true rfl) rfl dX6_are_25 (fun r4 σ3 h => ?_)
    exact AW.iret rfl dX6_are_28 h
  · replace h := ite_t c h
    refine AW.aload_n dX6_are_8 0 rfl ?_
    refine AW.get (k := 0) (v := .ref (gad g 5 0)) (id0_16_0) rfl rfl inGX6 (Nat.le_of_ble_eq_true rfl) w_203 rfl dX6_are_9 ?_
    refine AW.get (k := 0) (v := .ref (gad g 2 0)) (id0_5_0) rfl rfl inGX2 (Nat.le_of_ble_eq_true rfl) w_93 rfl dX6_are_12 ?_
    refine AW.iload_n dX6_are_15 1 rfl ?_
    refine AW.iload_n dX6_are_16 2 rfl ?_
    refine AW.callVI [.int a1, .int a2] (C_X1_bondOf h) ok_X1_bondOf (id0_2_0) rfl rfl w_252 rfl (Nat.le_of_ble_eq_true rfl) (Nat.le_of_ble_eq_true rfl) rfl dX6_are_17 (fun r6 σ5 h => ?_)
    refine AW.goto (tgt := 28) dX6_are_20 rfl ?_
    exact AW.iret rfl dX6_are_28 h
theorem ok_X6_are : OkV M_X6_are 2 := ⟨w_261, w_262, w_1, w_263, by decide +kernel, (Nat.le_of_ble_eq_true rfl)⟩
def M_X6_weight : MT := (yX6_weight, cX6_weight, 4, some .int, 2)
def f_X6_weight (a1 : Int32) (a2 : Int32) (σ : Mm) (K : Int32 → Mm → Prop) : Prop := (f_X6_isPerson a1 σ (fun b2 σ1 => (if b2 = true then (if a2 < (1 : Int32) then (f_X6_finding (0 : Int32) σ1 (fun r6 σ5 => (K r6 σ5))) else (if a2 ≤ (99 : Int32) then (vp_in a1 8 ∧ (vp_in a1 8 ∧ (∃ σ9, σ9 = mset σ1 4 0 (a1.toNatClampNeg) a2 ∧ (K (σ1 4 0 (a1.toNatClampNeg)) σ9)))) else (f_X6_finding (0 : Int32) σ1 (fun r11 σ10 => (K r11 σ10))))) else (f_X6_finding (0 : Int32) σ1 (fun r4 σ3 => (K r4 σ3))))))
set_option maxRecDepth 100000 in
set_option maxHeartbeats 4000000 in
theorem C_X6_weight {g : GG} {a1 : Int32} {a2 : Int32} {σ : Mm} {K : Int32 → Mm → Prop} (h : f_X6_weight a1 a2 σ K) : Ct g 0 M_X6_weight (QI g 0 K) [.ref (gad g 16 0), .int a1, .int a2] σ := by
  unfold f_X6_weight at h
  refine Ct.of (L := [(0, .ref (gad g 16 0)), (1, .int a1), (2, .int a2)]) (show plainName RX6 = true by decide) (Nat.le_of_ble_eq_true rfl) rfl ?_
  refine AW.iload_n dX6_weight_0 1 rfl ?_
  refine AW.callSB [.int a1] (C_X6_isPerson h) ok_X6_isPerson w_244 rfl (Nat.le_of_ble_eq_true rfl) (Nat.le_of_ble_eq_true rfl) rfl dX6_weight_1 (fun b2 σ1 h => ?_)
  refine AW.ifb_eq (tgt := 18) dX6_weight_4 rfl (fun c => ?_) (fun c => ?_)
  · replace h := ite_f c h
    refine AW.aload_n dX6_weight_18 0 rfl ?_
    refine AW.iconst (v := (0 : Int32)) dX6_weight_19 rfl ?_
    refine AW.callVI [.int (0 : Int32)] (C_X6_finding h) ok_X6_finding (id0_16_0) rfl rfl w_247 rfl (Nat.le_of_ble_eq_true rfl) (Nat.le_of_ble_eq_true rfl) rfl dX6_weight_20 (fun r4 σ3 h => ?_)
    exact AW.iret rfl dX6_weight_23 h
  · replace h := ite_t c h
    refine AW.iload_n dX6_weight_7 2 rfl ?_
    refine AW.iconst (v := (1 : Int32)) dX6_weight_8 rfl ?_
    refine AW.icmp_lt (tgt := 18) dX6_weight_9 rfl (fun c => ?_) (fun c => ?_)
    · replace h := ite_t c h
      refine AW.aload_n dX6_weight_18 0 rfl ?_
      refine AW.iconst (v := (0 : Int32)) dX6_weight_19 rfl ?_
      refine AW.callVI [.int (0 : Int32)] (C_X6_finding h) ok_X6_finding (id0_16_0) rfl rfl w_247 rfl (Nat.le_of_ble_eq_true rfl) (Nat.le_of_ble_eq_true rfl) rfl dX6_weight_20 (fun r6 σ5 h => ?_)
      exact AW.iret rfl dX6_weight_23 h
    · replace h := ite_f c h
      refine AW.iload_n dX6_weight_12 2 rfl ?_
      refine AW.bipush (v := (99 : Int32)) dX6_weight_13 rfl ?_
      refine AW.icmp_le (tgt := 24) dX6_weight_15 rfl (fun c => ?_) (fun c => ?_)
      · replace h := ite_t c h
        refine AW.aload_n dX6_weight_24 0 rfl ?_
        refine AW.get (k := 0) (v := .ref (gad g 5 0)) (id0_16_0) rfl rfl inGX6 (Nat.le_of_ble_eq_true rfl) w_203 rfl dX6_weight_25 ?_
        refine AW.get (k := 0) (v := .ref (gad g 2 0)) (id0_5_0) rfl rfl inGX2 (Nat.le_of_ble_eq_true rfl) w_93 rfl dX6_weight_28 ?_
        refine AW.get (k := 1) (v := .ref (gad g 4 0)) (id0_2_0) rfl rfl inGX1 (Nat.le_of_ble_eq_true rfl) w_42 rfl dX6_weight_31 ?_
        refine AW.iload_n dX6_weight_34 1 rfl ?_
        obtain ⟨hq7, h⟩ := h
        refine AW.iald (jn := (a1.toNatClampNeg)) (id0_4_0) rfl hq7 rfl dX6_weight_35 ?_
        refine AW.istore_n (L' := [(0, .ref (gad g 16 0)), (1, .int a1), (2, .int a2), (3, .int (σ1 4 0 (a1.toNatClampNeg)))]) dX6_weight_36 (Nat.le_of_ble_eq_true rfl) rfl ?_
        refine AW.aload_n dX6_weight_37 0 rfl ?_
        refine AW.get (k := 0) (v := .ref (gad g 5 0)) (id0_16_0) rfl rfl inGX6 (Nat.le_of_ble_eq_true rfl) w_203 rfl dX6_weight_38 ?_
        refine AW.get (k := 0) (v := .ref (gad g 2 0)) (id0_5_0) rfl rfl inGX2 (Nat.le_of_ble_eq_true rfl) w_93 rfl dX6_weight_41 ?_
        refine AW.get (k := 1) (v := .ref (gad g 4 0)) (id0_2_0) rfl rfl inGX1 (Nat.le_of_ble_eq_true rfl) w_42 rfl dX6_weight_44 ?_
        refine AW.iload_n dX6_weight_47 1 rfl ?_
        refine AW.iload_n dX6_weight_48 2 rfl ?_
        obtain ⟨hq8, h⟩ := h
        refine AW.iast (jn := (a1.toNatClampNeg)) (id0_4_0) (fun _ => rfl) hq8 rfl dX6_weight_49 ?_
        obtain ⟨σ9, eσ9, h⟩ := h
        rw [← eσ9]
        refine AW.iload_n dX6_weight_50 3 rfl ?_
        exact AW.iret rfl dX6_weight_51 h
      · replace h := ite_f c h
        refine AW.aload_n dX6_weight_18 0 rfl ?_
        refine AW.iconst (v := (0 : Int32)) dX6_weight_19 rfl ?_
        refine AW.callVI [.int (0 : Int32)] (C_X6_finding h) ok_X6_finding (id0_16_0) rfl rfl w_247 rfl (Nat.le_of_ble_eq_true rfl) (Nat.le_of_ble_eq_true rfl) rfl dX6_weight_20 (fun r11 σ10 h => ?_)
        exact AW.iret rfl dX6_weight_23 h
theorem ok_X6_weight : OkV M_X6_weight 2 := ⟨w_265, w_266, w_1, w_267, by decide +kernel, (Nat.le_of_ble_eq_true rfl)⟩
def M_X6_over : MT := (yX6_over, cX6_over, 3, some .int, 1)
def f_X6_over (a1 : Int32) (σ : Mm) (K : Int32 → Mm → Prop) : Prop := (if (σ 2 0 2) = 0 then (bz a1 ∧ (∃ σ2, σ2 = mset σ 2 0 2 a1 ∧ (K (0 : Int32) σ2))) else (bz a1 ∧ (∃ σ4, σ4 = mset σ 2 0 2 a1 ∧ (K (1 : Int32) σ4))))
set_option maxRecDepth 100000 in
set_option maxHeartbeats 4000000 in
theorem C_X6_over {g : GG} {a1 : Int32} {σ : Mm} {K : Int32 → Mm → Prop} (h : f_X6_over a1 σ K) : Ct g 0 M_X6_over (QI g 0 K) [.ref (gad g 16 0), .int a1] σ := by
  unfold f_X6_over at h
  refine Ct.of (L := [(0, .ref (gad g 16 0)), (1, .int a1)]) (show plainName RX6 = true by decide) (Nat.le_of_ble_eq_true rfl) rfl ?_
  refine AW.aload_n dX6_over_0 0 rfl ?_
  refine AW.get (k := 0) (v := .ref (gad g 5 0)) (id0_16_0) rfl rfl inGX6 (Nat.le_of_ble_eq_true rfl) w_203 rfl dX6_over_1 ?_
  refine AW.get (k := 0) (v := .ref (gad g 2 0)) (id0_5_0) rfl rfl inGX2 (Nat.le_of_ble_eq_true rfl) w_93 rfl dX6_over_4 ?_
  refine AW.get (k := 2) (v := .int (σ 2 0 2)) (id0_2_0) rfl rfl inGX1 (Nat.le_of_ble_eq_true rfl) w_46 rfl dX6_over_7 ?_
  refine AW.if_eq (tgt := 17) dX6_over_10 rfl (fun c => ?_) (fun c => ?_)
  · replace h := ite_t c h
    refine AW.iconst (v := (0 : Int32)) dX6_over_17 rfl ?_
    refine AW.istore_n (L' := [(0, .ref (gad g 16 0)), (1, .int a1), (2, .int (0 : Int32))]) dX6_over_18 (Nat.le_of_ble_eq_true rfl) rfl ?_
    refine AW.aload_n dX6_over_19 0 rfl ?_
    refine AW.get (k := 0) (v := .ref (gad g 5 0)) (id0_16_0) rfl rfl inGX6 (Nat.le_of_ble_eq_true rfl) w_203 rfl dX6_over_20 ?_
    refine AW.get (k := 0) (v := .ref (gad g 2 0)) (id0_5_0) rfl rfl inGX2 (Nat.le_of_ble_eq_true rfl) w_93 rfl dX6_over_23 ?_
    refine AW.iload_n dX6_over_26 1 rfl ?_
    obtain ⟨hb1, h⟩ := h
    refine AW.put (k := 2) (w := a1) (id0_2_0) rfl rfl inGX1 tyX1_ok nmX1 (Nat.le_of_ble_eq_true rfl) w_46 rfl rfl (bz_nar hb1) (bz_fit hb1) (Nat.le_of_ble_eq_true rfl) rfl dX6_over_27 ?_
    obtain ⟨σ2, eσ2, h⟩ := h
    rw [← eσ2]
    refine AW.iload_n dX6_over_30 2 rfl ?_
    exact AW.iret rfl dX6_over_31 h
  · replace h := ite_f c h
    refine AW.iconst (v := (1 : Int32)) dX6_over_13 rfl ?_
    refine AW.goto (tgt := 18) dX6_over_14 rfl ?_
    refine AW.istore_n (L' := [(0, .ref (gad g 16 0)), (1, .int a1), (2, .int (1 : Int32))]) dX6_over_18 (Nat.le_of_ble_eq_true rfl) rfl ?_
    refine AW.aload_n dX6_over_19 0 rfl ?_
    refine AW.get (k := 0) (v := .ref (gad g 5 0)) (id0_16_0) rfl rfl inGX6 (Nat.le_of_ble_eq_true rfl) w_203 rfl dX6_over_20 ?_
    refine AW.get (k := 0) (v := .ref (gad g 2 0)) (id0_5_0) rfl rfl inGX2 (Nat.le_of_ble_eq_true rfl) w_93 rfl dX6_over_23 ?_
    refine AW.iload_n dX6_over_26 1 rfl ?_
    obtain ⟨hb3, h⟩ := h
    refine AW.put (k := 2) (w := a1) (id0_2_0) rfl rfl inGX1 tyX1_ok nmX1 (Nat.le_of_ble_eq_true rfl) w_46 rfl rfl (bz_nar hb3) (bz_fit hb3) (Nat.le_of_ble_eq_true rfl) rfl dX6_over_27 ?_
    obtain ⟨σ4, eσ4, h⟩ := h
    rw [← eσ4]
    refine AW.iload_n dX6_over_30 2 rfl ?_
    exact AW.iret rfl dX6_over_31 h
theorem ok_X6_over : OkV M_X6_over 1 := ⟨w_269, w_270, w_1, w_271, by decide +kernel, (Nat.le_of_ble_eq_true rfl)⟩
def M_X6_held : MT := (yX6_held, cX6_held, 3, some .int, 2)
def f_X6_held (a1 : Int32) (σ : Mm) (K : Int32 → Mm → Prop) : Prop := (if a1 < 0 then (f_X6_finding (0 : Int32) σ (fun r2 σ1 => (K r2 σ1))) else (if a1 ≤ (999 : Int32) then (∃ σ3, σ3 = mset σ 2 0 3 a1 ∧ (K (σ 2 0 3) σ3)) else (f_X6_finding (0 : Int32) σ (fun r5 σ4 => (K r5 σ4)))))
set_option maxRecDepth 100000 in
set_option maxHeartbeats 4000000 in
theorem C_X6_held {g : GG} {a1 : Int32} {σ : Mm} {K : Int32 → Mm → Prop} (h : f_X6_held a1 σ K) : Ct g 0 M_X6_held (QI g 0 K) [.ref (gad g 16 0), .int a1] σ := by
  unfold f_X6_held at h
  refine Ct.of (L := [(0, .ref (gad g 16 0)), (1, .int a1)]) (show plainName RX6 = true by decide) (Nat.le_of_ble_eq_true rfl) rfl ?_
  refine AW.iload_n dX6_held_0 1 rfl ?_
  refine AW.if_lt (tgt := 11) dX6_held_1 rfl (fun c => ?_) (fun c => ?_)
  · replace h := ite_t c h
    refine AW.aload_n dX6_held_11 0 rfl ?_
    refine AW.iconst (v := (0 : Int32)) dX6_held_12 rfl ?_
    refine AW.callVI [.int (0 : Int32)] (C_X6_finding h) ok_X6_finding (id0_16_0) rfl rfl w_247 rfl (Nat.le_of_ble_eq_true rfl) (Nat.le_of_ble_eq_true rfl) rfl dX6_held_13 (fun r2 σ1 h => ?_)
    exact AW.iret rfl dX6_held_16 h
  · replace h := ite_f c h
    refine AW.iload_n dX6_held_4 1 rfl ?_
    refine AW.sipush (v := (999 : Int32)) dX6_held_5 rfl ?_
    refine AW.icmp_le (tgt := 17) dX6_held_8 rfl (fun c => ?_) (fun c => ?_)
    · replace h := ite_t c h
      refine AW.aload_n dX6_held_17 0 rfl ?_
      refine AW.get (k := 0) (v := .ref (gad g 5 0)) (id0_16_0) rfl rfl inGX6 (Nat.le_of_ble_eq_true rfl) w_203 rfl dX6_held_18 ?_
      refine AW.get (k := 0) (v := .ref (gad g 2 0)) (id0_5_0) rfl rfl inGX2 (Nat.le_of_ble_eq_true rfl) w_93 rfl dX6_held_21 ?_
      refine AW.get (k := 3) (v := .int (σ 2 0 3)) (id0_2_0) rfl rfl inGX1 (Nat.le_of_ble_eq_true rfl) w_48 rfl dX6_held_24 ?_
      refine AW.istore_n (L' := [(0, .ref (gad g 16 0)), (1, .int a1), (2, .int (σ 2 0 3))]) dX6_held_27 (Nat.le_of_ble_eq_true rfl) rfl ?_
      refine AW.aload_n dX6_held_28 0 rfl ?_
      refine AW.get (k := 0) (v := .ref (gad g 5 0)) (id0_16_0) rfl rfl inGX6 (Nat.le_of_ble_eq_true rfl) w_203 rfl dX6_held_29 ?_
      refine AW.get (k := 0) (v := .ref (gad g 2 0)) (id0_5_0) rfl rfl inGX2 (Nat.le_of_ble_eq_true rfl) w_93 rfl dX6_held_32 ?_
      refine AW.iload_n dX6_held_35 1 rfl ?_
      refine AW.put (k := 3) (w := a1) (id0_2_0) rfl rfl inGX1 tyX1_ok nmX1 (Nat.le_of_ble_eq_true rfl) w_48 rfl rfl rfl rfl (Nat.le_of_ble_eq_true rfl) rfl dX6_held_36 ?_
      obtain ⟨σ3, eσ3, h⟩ := h
      rw [← eσ3]
      refine AW.iload_n dX6_held_39 2 rfl ?_
      exact AW.iret rfl dX6_held_40 h
    · replace h := ite_f c h
      refine AW.aload_n dX6_held_11 0 rfl ?_
      refine AW.iconst (v := (0 : Int32)) dX6_held_12 rfl ?_
      refine AW.callVI [.int (0 : Int32)] (C_X6_finding h) ok_X6_finding (id0_16_0) rfl rfl w_247 rfl (Nat.le_of_ble_eq_true rfl) (Nat.le_of_ble_eq_true rfl) rfl dX6_held_13 (fun r5 σ4 h => ?_)
      exact AW.iret rfl dX6_held_16 h
theorem ok_X6_held : OkV M_X6_held 1 := ⟨w_273, w_274, w_1, w_275, by decide +kernel, (Nat.le_of_ble_eq_true rfl)⟩
def M_X1_areFriends : MT := (yX1_areFriends, cX1_areFriends, 4, some .boolean, 2)
def f_X1_areFriends (i0 : Nat) (a1 : Int32) (a2 : Int32) (σ : Mm) (K : Bool → Mm → Prop) : Prop := (i0 < 3 ∧ (if a1 = (-1 : Int32) then (K false σ) else (if a2 = (-1 : Int32) then (K false σ) else (f_X1_bondOf i0 a1 a2 σ (fun r2 σ1 => (if r2 = (1 : Int32) then (K true σ1) else (if r2 = (2 : Int32) then (if (σ1 2 i0 2) = 0 then (K false σ1) else (K true σ1)) else (K false σ1))))))))
set_option maxRecDepth 100000 in
set_option maxHeartbeats 4000000 in
theorem C_X1_areFriends {g : GG} {i0 : Nat} {a1 : Int32} {a2 : Int32} {σ : Mm} {K : Bool → Mm → Prop} (h : f_X1_areFriends i0 a1 a2 σ K) : Ct g 0 M_X1_areFriends (QB g 0 K) [.ref (gad g 2 i0), .int a1, .int a2] σ := by
  unfold f_X1_areFriends at h
  obtain ⟨hi0, h⟩ := h
  refine Ct.of (L := [(0, .ref (gad g 2 i0)), (1, .int a1), (2, .int a2)]) (show plainName RX1 = true by decide) (Nat.le_of_ble_eq_true rfl) rfl ?_
  refine AW.iload_n dX1_areFriends_0 1 rfl ?_
  refine AW.iconst (v := (-1 : Int32)) dX1_areFriends_1 rfl ?_
  refine AW.icmp_eq (tgt := 10) dX1_areFriends_2 rfl (fun c => ?_) (fun c => ?_)
  · replace h := ite_t c h
    refine AW.iconst (v := (0 : Int32)) dX1_areFriends_10 rfl ?_
    exact AW.bret false rfl rfl dX1_areFriends_11 h
  · replace h := ite_f c h
    refine AW.iload_n dX1_areFriends_5 2 rfl ?_
    refine AW.iconst (v := (-1 : Int32)) dX1_areFriends_6 rfl ?_
    refine AW.icmp_ne (tgt := 12) dX1_areFriends_7 rfl (fun c => ?_) (fun c => ?_)
    · replace h := ite_f c h
      refine AW.aload_n dX1_areFriends_12 0 rfl ?_
      refine AW.iload_n dX1_areFriends_13 1 rfl ?_
      refine AW.iload_n dX1_areFriends_14 2 rfl ?_
      refine AW.callVI [.int a1, .int a2] (C_X1_bondOf h) ok_X1_bondOf (ids_in (Nat.le_of_ble_eq_true rfl) hi0) rfl rfl w_288 rfl (Nat.le_of_ble_eq_true rfl) (Nat.le_of_ble_eq_true rfl) rfl dX1_areFriends_15 (fun r2 σ1 h => ?_)
      refine AW.istore_n (L' := [(0, .ref (gad g 2 i0)), (1, .int a1), (2, .int a2), (3, .int r2)]) dX1_areFriends_18 (Nat.le_of_ble_eq_true rfl) rfl ?_
      refine AW.iload_n dX1_areFriends_19 3 rfl ?_
      refine AW.iconst (v := (1 : Int32)) dX1_areFriends_20 rfl ?_
      refine AW.icmp_eq (tgt := 36) dX1_areFriends_21 rfl (fun c => ?_) (fun c => ?_)
      · replace h := ite_t c h
        refine AW.iconst (v := (1 : Int32)) dX1_areFriends_36 rfl ?_
        refine AW.goto (tgt := 41) dX1_areFriends_37 rfl ?_
        exact AW.bret true rfl rfl dX1_areFriends_41 h
      · replace h := ite_f c h
        refine AW.iload_n dX1_areFriends_24 3 rfl ?_
        refine AW.iconst (v := (2 : Int32)) dX1_areFriends_25 rfl ?_
        refine AW.icmp_ne (tgt := 40) dX1_areFriends_26 rfl (fun c => ?_) (fun c => ?_)
        · replace h := ite_f c h
          refine AW.iconst (v := (0 : Int32)) dX1_areFriends_40 rfl ?_
          exact AW.bret false rfl rfl dX1_areFriends_41 h
        · replace h := ite_t c h
          refine AW.aload_n dX1_areFriends_29 0 rfl ?_
          refine AW.get (k := 2) (v := .int (σ1 2 i0 2)) (ids_in (Nat.le_of_ble_eq_true rfl) hi0) rfl rfl inGX1 (Nat.le_of_ble_eq_true rfl) w_45 rfl dX1_areFriends_30 ?_
          refine AW.if_eq (tgt := 40) dX1_areFriends_33 rfl (fun c => ?_) (fun c => ?_)
          · replace h := ite_t c h
            refine AW.iconst (v := (0 : Int32)) dX1_areFriends_40 rfl ?_
            exact AW.bret false rfl rfl dX1_areFriends_41 h
          · replace h := ite_f c h
            refine AW.iconst (v := (1 : Int32)) dX1_areFriends_36 rfl ?_
            refine AW.goto (tgt := 41) dX1_areFriends_37 rfl ?_
            exact AW.bret true rfl rfl dX1_areFriends_41 h
    · replace h := ite_t c h
      refine AW.iconst (v := (0 : Int32)) dX1_areFriends_10 rfl ?_
      exact AW.bret false rfl rfl dX1_areFriends_11 h
theorem ok_X1_areFriends : OkV M_X1_areFriends 2 := ⟨w_285, w_286, w_3, w_287, by decide +kernel, (Nat.le_of_ble_eq_true rfl)⟩
def M_X1_friendsOf : MT := (yX1_friendsOf, cX1_friendsOf, 4, some .int, 3)
set_option maxRecDepth 100000 in
def f_X1_friendsOf_4 (i0 : Nat) (a1 : Int32) (K : Int32 → Mm → Prop) : Nat → Int32 → Int32 → Mm → Prop
  | 0, _, _, _ => False
  | n + 1, a2, a3, σ => (if (8 : Int32) ≤ a3 then (K a2 σ) else (f_X1_areFriends i0 a1 a3 σ (fun b2 σ1 => (if b2 = true then (f_X1_friendsOf_4 i0 a1 K n (a2 ||| ((1 : Int32) <<< (a3 &&& 31))) (a3 + (1 : Int32)) σ1) else (f_X1_friendsOf_4 i0 a1 K n a2 (a3 + (1 : Int32)) σ1)))))
set_option maxRecDepth 100000 in
set_option maxHeartbeats 4000000 in
theorem T_X1_friendsOf_4 {g : GG} {i0 : Nat} {a1 : Int32} {K : Int32 → Mm → Prop} (hi0 : i0 < 3) : ∀ (n : Nat) (a2 : Int32) (a3 : Int32) (σ : Mm), f_X1_friendsOf_4 i0 a1 K n a2 a3 σ → AW g 0 M_X1_friendsOf (QI g 0 K) 4 [(0, .ref (gad g 2 i0)), (1, .int a1), (2, .int a2), (3, .int a3)] [] σ := by
  intro n
  induction n with
  | zero => intro a2 a3 σ h; exact False.elim h
  | succ n ih =>
    intro a2 a3 σ h
    rw [f_X1_friendsOf_4] at h
    refine AW.iload_n dX1_friendsOf_4 3 rfl ?_
    refine AW.bipush (v := (8 : Int32)) dX1_friendsOf_5 rfl ?_
    refine AW.icmp_ge (tgt := 31) dX1_friendsOf_7 rfl (fun c => ?_) (fun c => ?_)
    · replace h := ite_t c h
      refine AW.iload_n dX1_friendsOf_31 2 rfl ?_
      exact AW.iret rfl dX1_friendsOf_32 h
    · replace h := ite_f c h
      refine AW.aload_n dX1_friendsOf_10 0 rfl ?_
      refine AW.iload_n dX1_friendsOf_11 1 rfl ?_
      refine AW.iload_n dX1_friendsOf_12 3 rfl ?_
      refine AW.callVB [.int a1, .int a3] (C_X1_areFriends h) ok_X1_areFriends (ids_in (Nat.le_of_ble_eq_true rfl) hi0) rfl rfl w_284 rfl (Nat.le_of_ble_eq_true rfl) (Nat.le_of_ble_eq_true rfl) rfl dX1_friendsOf_13 (fun b2 σ1 h => ?_)
      refine AW.ifb_eq (tgt := 25) dX1_friendsOf_16 rfl (fun c => ?_) (fun c => ?_)
      · replace h := ite_f c h
        refine AW.iinc (v := (a3 + (1 : Int32))) (L' := [(0, .ref (gad g 2 i0)), (1, .int a1), (2, .int a2), (3, .int (a3 + (1 : Int32)))]) dX1_friendsOf_25 3 rfl rfl (Nat.le_of_ble_eq_true rfl) rfl ?_
        refine AW.goto (tgt := 4) dX1_friendsOf_28 rfl ?_
        exact ih _ _ _ h
      · replace h := ite_t c h
        refine AW.iload_n dX1_friendsOf_19 2 rfl ?_
        refine AW.iconst (v := (1 : Int32)) dX1_friendsOf_20 rfl ?_
        refine AW.iload_n dX1_friendsOf_21 3 rfl ?_
        refine AW.ishl dX1_friendsOf_22 ?_
        refine AW.ior dX1_friendsOf_23 ?_
        refine AW.istore_n (L' := [(0, .ref (gad g 2 i0)), (1, .int a1), (2, .int (a2 ||| ((1 : Int32) <<< (a3 &&& 31)))), (3, .int a3)]) dX1_friendsOf_24 (Nat.le_of_ble_eq_true rfl) rfl ?_
        refine AW.iinc (v := (a3 + (1 : Int32))) (L' := [(0, .ref (gad g 2 i0)), (1, .int a1), (2, .int (a2 ||| ((1 : Int32) <<< (a3 &&& 31)))), (3, .int (a3 + (1 : Int32)))]) dX1_friendsOf_25 3 rfl rfl (Nat.le_of_ble_eq_true rfl) rfl ?_
        refine AW.goto (tgt := 4) dX1_friendsOf_28 rfl ?_
        exact ih _ _ _ h
def f_X1_friendsOf (i0 : Nat) (a1 : Int32) (σ : Mm) (K : Int32 → Mm → Prop) : Prop := (i0 < 3 ∧ (∃ m, f_X1_friendsOf_4 i0 a1 K m (0 : Int32) (0 : Int32) σ))
set_option maxRecDepth 100000 in
set_option maxHeartbeats 4000000 in
theorem C_X1_friendsOf {g : GG} {i0 : Nat} {a1 : Int32} {σ : Mm} {K : Int32 → Mm → Prop} (h : f_X1_friendsOf i0 a1 σ K) : Ct g 0 M_X1_friendsOf (QI g 0 K) [.ref (gad g 2 i0), .int a1] σ := by
  unfold f_X1_friendsOf at h
  obtain ⟨hi0, h⟩ := h
  refine Ct.of (L := [(0, .ref (gad g 2 i0)), (1, .int a1)]) (show plainName RX1 = true by decide) (Nat.le_of_ble_eq_true rfl) rfl ?_
  refine AW.iconst (v := (0 : Int32)) dX1_friendsOf_0 rfl ?_
  refine AW.istore_n (L' := [(0, .ref (gad g 2 i0)), (1, .int a1), (2, .int (0 : Int32))]) dX1_friendsOf_1 (Nat.le_of_ble_eq_true rfl) rfl ?_
  refine AW.iconst (v := (0 : Int32)) dX1_friendsOf_2 rfl ?_
  refine AW.istore_n (L' := [(0, .ref (gad g 2 i0)), (1, .int a1), (2, .int (0 : Int32)), (3, .int (0 : Int32))]) dX1_friendsOf_3 (Nat.le_of_ble_eq_true rfl) rfl ?_
  obtain ⟨m, h⟩ := h
  refine T_X1_friendsOf_4 hi0 m _ _ _ h
theorem ok_X1_friendsOf : OkV M_X1_friendsOf 1 := ⟨w_281, w_282, w_3, w_283, by decide +kernel, (Nat.le_of_ble_eq_true rfl)⟩
def M_X6_circle : MT := (yX6_circle, cX6_circle, 2, some .int, 4)
def f_X6_circle (a1 : Int32) (σ : Mm) (K : Int32 → Mm → Prop) : Prop := (f_X6_isPerson a1 σ (fun b2 σ1 => (if b2 = true then (f_X1_friendsOf 0 a1 σ1 (fun r6 σ5 => (K r6 σ5))) else (f_X6_finding (0 : Int32) σ1 (fun r4 σ3 => (K r4 σ3))))))
set_option maxRecDepth 100000 in
set_option maxHeartbeats 4000000 in
theorem C_X6_circle {g : GG} {a1 : Int32} {σ : Mm} {K : Int32 → Mm → Prop} (h : f_X6_circle a1 σ K) : Ct g 0 M_X6_circle (QI g 0 K) [.ref (gad g 16 0), .int a1] σ := by
  unfold f_X6_circle at h
  refine Ct.of (L := [(0, .ref (gad g 16 0)), (1, .int a1)]) (show plainName RX6 = true by decide) (Nat.le_of_ble_eq_true rfl) rfl ?_
  refine AW.iload_n dX6_circle_0 1 rfl ?_
  refine AW.callSB [.int a1] (C_X6_isPerson h) ok_X6_isPerson w_244 rfl (Nat.le_of_ble_eq_true rfl) (Nat.le_of_ble_eq_true rfl) rfl dX6_circle_1 (fun b2 σ1 h => ?_)
  refine AW.ifb_eq (tgt := 21) dX6_circle_4 rfl (fun c => ?_) (fun c => ?_)
  · replace h := ite_f c h
    refine AW.aload_n dX6_circle_21 0 rfl ?_
    refine AW.iconst (v := (0 : Int32)) dX6_circle_22 rfl ?_
    refine AW.callVI [.int (0 : Int32)] (C_X6_finding h) ok_X6_finding (id0_16_0) rfl rfl w_247 rfl (Nat.le_of_ble_eq_true rfl) (Nat.le_of_ble_eq_true rfl) rfl dX6_circle_23 (fun r4 σ3 h => ?_)
    exact AW.iret rfl dX6_circle_26 h
  · replace h := ite_t c h
    refine AW.aload_n dX6_circle_7 0 rfl ?_
    refine AW.get (k := 0) (v := .ref (gad g 5 0)) (id0_16_0) rfl rfl inGX6 (Nat.le_of_ble_eq_true rfl) w_203 rfl dX6_circle_8 ?_
    refine AW.get (k := 0) (v := .ref (gad g 2 0)) (id0_5_0) rfl rfl inGX2 (Nat.le_of_ble_eq_true rfl) w_93 rfl dX6_circle_11 ?_
    refine AW.iload_n dX6_circle_14 1 rfl ?_
    refine AW.callVI [.int a1] (C_X1_friendsOf h) ok_X1_friendsOf (id0_2_0) rfl rfl w_280 rfl (Nat.le_of_ble_eq_true rfl) (Nat.le_of_ble_eq_true rfl) rfl dX6_circle_15 (fun r6 σ5 h => ?_)
    refine AW.goto (tgt := 26) dX6_circle_18 rfl ?_
    exact AW.iret rfl dX6_circle_26 h
theorem ok_X6_circle : OkV M_X6_circle 1 := ⟨w_277, w_278, w_1, w_279, by decide +kernel, (Nat.le_of_ble_eq_true rfl)⟩
def M_X6_isKind : MT := (yX6_isKind, cX6_isKind, 1, some .boolean, 1)
def f_X6_isKind (a0 : Int32) (σ : Mm) (K : Bool → Mm → Prop) : Prop := (if a0 < 0 then (K false σ) else (if (7 : Int32) ≤ a0 then (K false σ) else (K true σ)))
set_option maxRecDepth 100000 in
set_option maxHeartbeats 4000000 in
theorem C_X6_isKind {g : GG} {a0 : Int32} {σ : Mm} {K : Bool → Mm → Prop} (h : f_X6_isKind a0 σ K) : Ct g 0 M_X6_isKind (QB g 0 K) [.int a0] σ := by
  unfold f_X6_isKind at h
  refine Ct.of (L := [(0, .int a0)]) (show plainName RX6 = true by decide) (Nat.le_of_ble_eq_true rfl) rfl ?_
  refine AW.iload_n dX6_isKind_0 0 rfl ?_
  refine AW.if_lt (tgt := 14) dX6_isKind_1 rfl (fun c => ?_) (fun c => ?_)
  · replace h := ite_t c h
    refine AW.iconst (v := (0 : Int32)) dX6_isKind_14 rfl ?_
    exact AW.bret false rfl rfl dX6_isKind_15 h
  · replace h := ite_f c h
    refine AW.iload_n dX6_isKind_4 0 rfl ?_
    refine AW.bipush (v := (7 : Int32)) dX6_isKind_5 rfl ?_
    refine AW.icmp_ge (tgt := 14) dX6_isKind_7 rfl (fun c => ?_) (fun c => ?_)
    · replace h := ite_t c h
      refine AW.iconst (v := (0 : Int32)) dX6_isKind_14 rfl ?_
      exact AW.bret false rfl rfl dX6_isKind_15 h
    · replace h := ite_f c h
      refine AW.iconst (v := (1 : Int32)) dX6_isKind_10 rfl ?_
      refine AW.goto (tgt := 15) dX6_isKind_11 rfl ?_
      exact AW.bret true rfl rfl dX6_isKind_15 h
theorem ok_X6_isKind : OkS M_X6_isKind 1 := ⟨w_294, w_1, w_295, by decide +kernel, (Nat.le_of_ble_eq_true rfl)⟩
def M_J7_fill_53178_1 : MT := (yJ7_fill_53178, cJ7_fill_53178, 4, none, 1)
set_option maxRecDepth 100000 in
def f_J7_fill_53178_1_5 (i0 : Nat) (a1 : Int32) (a3 : Int32) (K : Mm → Prop) : Nat → Int32 → Mm → Prop
  | 0, _, _ => False
  | n + 1, a2, σ => (if a3 ≤ a2 then (K σ) else (vp_in a2 8 ∧ (∃ σ2, σ2 = mset σ 1 i0 (a2.toNatClampNeg) a1 ∧ (f_J7_fill_53178_1_5 i0 a1 a3 K n (a2 + (1 : Int32)) σ2))))
set_option maxRecDepth 100000 in
set_option maxHeartbeats 4000000 in
theorem T_J7_fill_53178_1_5 {g : GG} {i0 : Nat} {a1 : Int32} {a3 : Int32} {K : Mm → Prop} (hi0 : i0 < 17) : ∀ (n : Nat) (a2 : Int32) (σ : Mm), f_J7_fill_53178_1_5 i0 a1 a3 K n a2 σ → AW g 0 M_J7_fill_53178_1 (QV g 0 K) 5 [(0, .ref (gad g 1 i0)), (1, .int a1), (2, .int a2), (3, .int a3)] [] σ := by
  intro n
  induction n with
  | zero => intro a2 σ h; exact False.elim h
  | succ n ih =>
    intro a2 σ h
    rw [f_J7_fill_53178_1_5] at h
    refine AW.iload_n dJ7_fill_53178_5 2 rfl ?_
    refine AW.iload_n dJ7_fill_53178_6 3 rfl ?_
    refine AW.icmp_ge (tgt := 20) dJ7_fill_53178_7 rfl (fun c => ?_) (fun c => ?_)
    · replace h := ite_t c h
      exact AW.vret rfl dJ7_fill_53178_20 h
    · replace h := ite_f c h
      refine AW.aload_n dJ7_fill_53178_10 0 rfl ?_
      refine AW.iload_n dJ7_fill_53178_11 2 rfl ?_
      refine AW.iload_n dJ7_fill_53178_12 1 rfl ?_
      obtain ⟨hq1, h⟩ := h
      refine AW.iast (jn := (a2.toNatClampNeg)) (ids_in (Nat.le_of_ble_eq_true rfl) hi0) (fun _ => rfl) hq1 rfl dJ7_fill_53178_13 ?_
      obtain ⟨σ2, eσ2, h⟩ := h
      rw [← eσ2]
      refine AW.iinc (v := (a2 + (1 : Int32))) (L' := [(0, .ref (gad g 1 i0)), (1, .int a1), (2, .int (a2 + (1 : Int32))), (3, .int a3)]) dJ7_fill_53178_14 2 rfl rfl (Nat.le_of_ble_eq_true rfl) rfl ?_
      refine AW.goto (tgt := 5) dJ7_fill_53178_17 rfl ?_
      exact ih _ _ h
def f_J7_fill_53178_1 (i0 : Nat) (a1 : Int32) (σ : Mm) (K : Mm → Prop) : Prop := (i0 < 17 ∧ (∃ m, f_J7_fill_53178_1_5 i0 a1 (8 : Int32) K m (0 : Int32) σ))
set_option maxRecDepth 100000 in
set_option maxHeartbeats 4000000 in
theorem C_J7_fill_53178_1 {g : GG} {i0 : Nat} {a1 : Int32} {σ : Mm} {K : Mm → Prop} (h : f_J7_fill_53178_1 i0 a1 σ K) : Ct g 0 M_J7_fill_53178_1 (QV g 0 K) [.ref (gad g 1 i0), .int a1] σ := by
  unfold f_J7_fill_53178_1 at h
  obtain ⟨hi0, h⟩ := h
  refine Ct.of (L := [(0, .ref (gad g 1 i0)), (1, .int a1)]) (show plainName RJ7 = true by decide) (Nat.le_of_ble_eq_true rfl) rfl ?_
  refine AW.iconst (v := (0 : Int32)) dJ7_fill_53178_0 rfl ?_
  refine AW.istore_n (L' := [(0, .ref (gad g 1 i0)), (1, .int a1), (2, .int (0 : Int32))]) dJ7_fill_53178_1 (Nat.le_of_ble_eq_true rfl) rfl ?_
  refine AW.aload_n dJ7_fill_53178_2 0 rfl ?_
  refine AW.alen (v := (8 : Int32)) (ids_in (Nat.le_of_ble_eq_true rfl) hi0) rfl rfl dJ7_fill_53178_3 ?_
  refine AW.istore_n (L' := [(0, .ref (gad g 1 i0)), (1, .int a1), (2, .int (0 : Int32)), (3, .int (8 : Int32))]) dJ7_fill_53178_4 (Nat.le_of_ble_eq_true rfl) rfl ?_
  obtain ⟨m, h⟩ := h
  refine T_J7_fill_53178_1_5 hi0 m _ _ h
theorem ok_J7_fill_53178_1 : OkS M_J7_fill_53178_1 2 := ⟨w_38, w_4, w_39, by decide +kernel, (Nat.le_of_ble_eq_true rfl)⟩
def M_X0_clear : MT := (yX0_clear, cX0_clear, 3, none, 2)
def f_X0_clear (i0 : Nat) (a1 : Int32) (a2 : Int32) (σ : Mm) (K : Mm → Prop) : Prop := (i0 < 17 ∧ (∃ σ1, σ1 = mset σ 0 i0 0 a1 ∧ (∃ σ2, σ2 = mset σ1 0 i0 1 a2 ∧ (f_J7_fill_53178_1 i0 (-1 : Int32) σ2 (fun σ3 => (K σ3))))))
set_option maxRecDepth 100000 in
set_option maxHeartbeats 4000000 in
theorem C_X0_clear {g : GG} {i0 : Nat} {a1 : Int32} {a2 : Int32} {σ : Mm} {K : Mm → Prop} (h : f_X0_clear i0 a1 a2 σ K) : Ct g 0 M_X0_clear (QV g 0 K) [.ref (gad g 0 i0), .int a1, .int a2] σ := by
  unfold f_X0_clear at h
  obtain ⟨hi0, h⟩ := h
  refine Ct.of (L := [(0, .ref (gad g 0 i0)), (1, .int a1), (2, .int a2)]) (show plainName RX0 = true by decide) (Nat.le_of_ble_eq_true rfl) rfl ?_
  refine AW.aload_n dX0_clear_0 0 rfl ?_
  refine AW.iload_n dX0_clear_1 1 rfl ?_
  refine AW.put (k := 0) (w := a1) (ids_in (Nat.le_of_ble_eq_true rfl) hi0) rfl rfl inGX0 tyX0_ok nmX0 (Nat.le_of_ble_eq_true rfl) w_68 rfl rfl rfl rfl (Nat.le_of_ble_eq_true rfl) rfl dX0_clear_2 ?_
  obtain ⟨σ1, eσ1, h⟩ := h
  rw [← eσ1]
  refine AW.aload_n dX0_clear_5 0 rfl ?_
  refine AW.iload_n dX0_clear_6 2 rfl ?_
  refine AW.put (k := 1) (w := a2) (ids_in (Nat.le_of_ble_eq_true rfl) hi0) rfl rfl inGX0 tyX0_ok nmX0 (Nat.le_of_ble_eq_true rfl) w_72 rfl rfl rfl rfl (Nat.le_of_ble_eq_true rfl) rfl dX0_clear_7 ?_
  obtain ⟨σ2, eσ2, h⟩ := h
  rw [← eσ2]
  refine AW.aload_n dX0_clear_10 0 rfl ?_
  refine AW.get (k := 2) (v := .ref (gad g 1 i0)) (ids_in (Nat.le_of_ble_eq_true rfl) hi0) rfl rfl inGX0 (Nat.le_of_ble_eq_true rfl) w_78 rfl dX0_clear_11 ?_
  refine AW.iconst (v := (-1 : Int32)) dX0_clear_14 rfl ?_
  refine AW.callSV [.ref (gad g 1 i0), .int (-1 : Int32)] (C_J7_fill_53178_1 h) ok_J7_fill_53178_1 w_67 rfl (Nat.le_of_ble_eq_true rfl) (Nat.le_of_ble_eq_true rfl) rfl dX0_clear_15 (fun σ3 h => ?_)
  exact AW.vret rfl dX0_clear_18 h
theorem ok_X0_clear : OkV M_X0_clear 2 := ⟨w_301, w_302, w_5, w_303, by decide +kernel, (Nat.le_of_ble_eq_true rfl)⟩
def M_X2_addBench : MT := (yX2_addBench, cX2_addBench, 4, some .int, 3)
def f_X2_addBench (i0 : Nat) (a1 : Int32) (a2 : Int32) (σ : Mm) (K : Int32 → Mm → Prop) : Prop := (i0 < 3 ∧ (vp_in (σ 5 i0 2) 5 ∧ ((5 * i0 + (σ 5 i0 2).toNatClampNeg) < 17 ∧ (f_X0_clear (5 * i0 + (σ 5 i0 2).toNatClampNeg) a1 a2 σ (fun σ3 => (∃ σ4, σ4 = mset σ3 5 i0 2 ((σ3 5 i0 2) + (1 : Int32)) ∧ (K (σ 5 i0 2) σ4)))))))
set_option maxRecDepth 100000 in
set_option maxHeartbeats 4000000 in
theorem C_X2_addBench {g : GG} {i0 : Nat} {a1 : Int32} {a2 : Int32} {σ : Mm} {K : Int32 → Mm → Prop} (h : f_X2_addBench i0 a1 a2 σ K) : Ct g 0 M_X2_addBench (QI g 0 K) [.ref (gad g 5 i0), .int a1, .int a2] σ := by
  unfold f_X2_addBench at h
  obtain ⟨hi0, h⟩ := h
  refine Ct.of (L := [(0, .ref (gad g 5 i0)), (1, .int a1), (2, .int a2)]) (show plainName RX2 = true by decide) (Nat.le_of_ble_eq_true rfl) rfl ?_
  refine AW.aload_n dX2_addBench_0 0 rfl ?_
  refine AW.get (k := 2) (v := .int (σ 5 i0 2)) (ids_in (Nat.le_of_ble_eq_true rfl) hi0) rfl rfl inGX2 (Nat.le_of_ble_eq_true rfl) w_98 rfl dX2_addBench_1 ?_
  refine AW.istore_n (L' := [(0, .ref (gad g 5 i0)), (1, .int a1), (2, .int a2), (3, .int (σ 5 i0 2))]) dX2_addBench_4 (Nat.le_of_ble_eq_true rfl) rfl ?_
  refine AW.aload_n dX2_addBench_5 0 rfl ?_
  refine AW.get (k := 1) (v := .ref (gad g 6 i0)) (ids_in (Nat.le_of_ble_eq_true rfl) hi0) rfl rfl inGX2 (Nat.le_of_ble_eq_true rfl) w_95 rfl dX2_addBench_6 ?_
  refine AW.iload_n dX2_addBench_9 3 rfl ?_
  obtain ⟨hq1, h⟩ := h
  obtain ⟨hv2, h⟩ := h
  refine AW.aald (a' := gad g 0 (5 * i0 + (σ 5 i0 2).toNatClampNeg)) (ty := 1) (ids_in (Nat.le_of_ble_eq_true rfl) hi0) rfl rfl rfl hq1 dX2_addBench_10 ?_
  refine AW.iload_n dX2_addBench_11 1 rfl ?_
  refine AW.iload_n dX2_addBench_12 2 rfl ?_
  refine AW.callVV [.int a1, .int a2] (C_X0_clear h) ok_X0_clear (ids_in (Nat.le_of_ble_eq_true rfl) hv2) rfl rfl w_300 rfl (Nat.le_of_ble_eq_true rfl) (Nat.le_of_ble_eq_true rfl) rfl dX2_addBench_13 (fun σ3 h => ?_)
  refine AW.aload_n dX2_addBench_16 0 rfl ?_
  refine AW.dup dX2_addBench_17 rfl ?_
  refine AW.get (k := 2) (v := .int (σ3 5 i0 2)) (ids_in (Nat.le_of_ble_eq_true rfl) hi0) rfl rfl inGX2 (Nat.le_of_ble_eq_true rfl) w_98 rfl dX2_addBench_18 ?_
  refine AW.iconst (v := (1 : Int32)) dX2_addBench_21 rfl ?_
  refine AW.iadd dX2_addBench_22 ?_
  refine AW.put (k := 2) (w := ((σ3 5 i0 2) + (1 : Int32))) (ids_in (Nat.le_of_ble_eq_true rfl) hi0) rfl rfl inGX2 tyX2_ok nmX2 (Nat.le_of_ble_eq_true rfl) w_98 rfl rfl rfl rfl (Nat.le_of_ble_eq_true rfl) rfl dX2_addBench_23 ?_
  obtain ⟨σ4, eσ4, h⟩ := h
  rw [← eσ4]
  refine AW.iload_n dX2_addBench_26 3 rfl ?_
  exact AW.iret rfl dX2_addBench_27 h
theorem ok_X2_addBench : OkV M_X2_addBench 2 := ⟨w_297, w_298, w_2, w_299, by decide +kernel, (Nat.le_of_ble_eq_true rfl)⟩
def M_X6_bench : MT := (yX6_bench, cX6_bench, 3, some .int, 4)
def f_X6_bench (a1 : Int32) (a2 : Int32) (σ : Mm) (K : Int32 → Mm → Prop) : Prop := (f_X6_isKind a1 σ (fun b2 σ1 => (if b2 = true then (if a2 < (1 : Int32) then (f_X6_finding (0 : Int32) σ1 (fun r6 σ5 => (K r6 σ5))) else (if a2 ≤ (8 : Int32) then (if (σ1 5 0 2) < (5 : Int32) then (f_X2_addBench 0 a1 a2 σ1 (fun r8 σ7 => (K r8 σ7))) else (f_X6_finding (1 : Int32) σ1 (fun r10 σ9 => (K r10 σ9)))) else (f_X6_finding (0 : Int32) σ1 (fun r12 σ11 => (K r12 σ11))))) else (f_X6_finding (0 : Int32) σ1 (fun r4 σ3 => (K r4 σ3))))))
set_option maxRecDepth 100000 in
set_option maxHeartbeats 4000000 in
theorem C_X6_bench {g : GG} {a1 : Int32} {a2 : Int32} {σ : Mm} {K : Int32 → Mm → Prop} (h : f_X6_bench a1 a2 σ K) : Ct g 0 M_X6_bench (QI g 0 K) [.ref (gad g 16 0), .int a1, .int a2] σ := by
  unfold f_X6_bench at h
  refine Ct.of (L := [(0, .ref (gad g 16 0)), (1, .int a1), (2, .int a2)]) (show plainName RX6 = true by decide) (Nat.le_of_ble_eq_true rfl) rfl ?_
  refine AW.iload_n dX6_bench_0 1 rfl ?_
  refine AW.callSB [.int a1] (C_X6_isKind h) ok_X6_isKind w_293 rfl (Nat.le_of_ble_eq_true rfl) (Nat.le_of_ble_eq_true rfl) rfl dX6_bench_1 (fun b2 σ1 h => ?_)
  refine AW.ifb_eq (tgt := 18) dX6_bench_4 rfl (fun c => ?_) (fun c => ?_)
  · replace h := ite_f c h
    refine AW.aload_n dX6_bench_18 0 rfl ?_
    refine AW.iconst (v := (0 : Int32)) dX6_bench_19 rfl ?_
    refine AW.callVI [.int (0 : Int32)] (C_X6_finding h) ok_X6_finding (id0_16_0) rfl rfl w_247 rfl (Nat.le_of_ble_eq_true rfl) (Nat.le_of_ble_eq_true rfl) rfl dX6_bench_20 (fun r4 σ3 h => ?_)
    exact AW.iret rfl dX6_bench_23 h
  · replace h := ite_t c h
    refine AW.iload_n dX6_bench_7 2 rfl ?_
    refine AW.iconst (v := (1 : Int32)) dX6_bench_8 rfl ?_
    refine AW.icmp_lt (tgt := 18) dX6_bench_9 rfl (fun c => ?_) (fun c => ?_)
    · replace h := ite_t c h
      refine AW.aload_n dX6_bench_18 0 rfl ?_
      refine AW.iconst (v := (0 : Int32)) dX6_bench_19 rfl ?_
      refine AW.callVI [.int (0 : Int32)] (C_X6_finding h) ok_X6_finding (id0_16_0) rfl rfl w_247 rfl (Nat.le_of_ble_eq_true rfl) (Nat.le_of_ble_eq_true rfl) rfl dX6_bench_20 (fun r6 σ5 h => ?_)
      exact AW.iret rfl dX6_bench_23 h
    · replace h := ite_f c h
      refine AW.iload_n dX6_bench_12 2 rfl ?_
      refine AW.bipush (v := (8 : Int32)) dX6_bench_13 rfl ?_
      refine AW.icmp_le (tgt := 24) dX6_bench_15 rfl (fun c => ?_) (fun c => ?_)
      · replace h := ite_t c h
        refine AW.aload_n dX6_bench_24 0 rfl ?_
        refine AW.get (k := 0) (v := .ref (gad g 5 0)) (id0_16_0) rfl rfl inGX6 (Nat.le_of_ble_eq_true rfl) w_203 rfl dX6_bench_25 ?_
        refine AW.get (k := 2) (v := .int (σ1 5 0 2)) (id0_5_0) rfl rfl inGX2 (Nat.le_of_ble_eq_true rfl) w_99 rfl dX6_bench_28 ?_
        refine AW.iconst (v := (5 : Int32)) dX6_bench_31 rfl ?_
        refine AW.icmp_lt (tgt := 41) dX6_bench_32 rfl (fun c => ?_) (fun c => ?_)
        · replace h := ite_t c h
          refine AW.aload_n dX6_bench_41 0 rfl ?_
          refine AW.get (k := 0) (v := .ref (gad g 5 0)) (id0_16_0) rfl rfl inGX6 (Nat.le_of_ble_eq_true rfl) w_203 rfl dX6_bench_42 ?_
          refine AW.iload_n dX6_bench_45 1 rfl ?_
          refine AW.iload_n dX6_bench_46 2 rfl ?_
          refine AW.callVI [.int a1, .int a2] (C_X2_addBench h) ok_X2_addBench (id0_5_0) rfl rfl w_296 rfl (Nat.le_of_ble_eq_true rfl) (Nat.le_of_ble_eq_true rfl) rfl dX6_bench_47 (fun r8 σ7 h => ?_)
          exact AW.iret rfl dX6_bench_50 h
        · replace h := ite_f c h
          refine AW.aload_n dX6_bench_35 0 rfl ?_
          refine AW.iconst (v := (1 : Int32)) dX6_bench_36 rfl ?_
          refine AW.callVI [.int (1 : Int32)] (C_X6_finding h) ok_X6_finding (id0_16_0) rfl rfl w_247 rfl (Nat.le_of_ble_eq_true rfl) (Nat.le_of_ble_eq_true rfl) rfl dX6_bench_37 (fun r10 σ9 h => ?_)
          exact AW.iret rfl dX6_bench_40 h
      · replace h := ite_f c h
        refine AW.aload_n dX6_bench_18 0 rfl ?_
        refine AW.iconst (v := (0 : Int32)) dX6_bench_19 rfl ?_
        refine AW.callVI [.int (0 : Int32)] (C_X6_finding h) ok_X6_finding (id0_16_0) rfl rfl w_247 rfl (Nat.le_of_ble_eq_true rfl) (Nat.le_of_ble_eq_true rfl) rfl dX6_bench_20 (fun r12 σ11 h => ?_)
        exact AW.iret rfl dX6_bench_23 h
theorem ok_X6_bench : OkV M_X6_bench 2 := ⟨w_290, w_291, w_1, w_292, by decide +kernel, (Nat.le_of_ble_eq_true rfl)⟩
def M_X6_isBench : MT := (yX6_isBench, cX6_isBench, 2, some .boolean, 1)
def f_X6_isBench (a1 : Int32) (σ : Mm) (K : Bool → Mm → Prop) : Prop := (if a1 < 0 then (K false σ) else (if (σ 5 0 2) ≤ a1 then (K false σ) else (K true σ)))
set_option maxRecDepth 100000 in
set_option maxHeartbeats 4000000 in
theorem C_X6_isBench {g : GG} {a1 : Int32} {σ : Mm} {K : Bool → Mm → Prop} (h : f_X6_isBench a1 σ K) : Ct g 0 M_X6_isBench (QB g 0 K) [.ref (gad g 16 0), .int a1] σ := by
  unfold f_X6_isBench at h
  refine Ct.of (L := [(0, .ref (gad g 16 0)), (1, .int a1)]) (show plainName RX6 = true by decide) (Nat.le_of_ble_eq_true rfl) rfl ?_
  refine AW.iload_n dX6_isBench_0 1 rfl ?_
  refine AW.if_lt (tgt := 19) dX6_isBench_1 rfl (fun c => ?_) (fun c => ?_)
  · replace h := ite_t c h
    refine AW.iconst (v := (0 : Int32)) dX6_isBench_19 rfl ?_
    exact AW.bret false rfl rfl dX6_isBench_20 h
  · replace h := ite_f c h
    refine AW.iload_n dX6_isBench_4 1 rfl ?_
    refine AW.aload_n dX6_isBench_5 0 rfl ?_
    refine AW.get (k := 0) (v := .ref (gad g 5 0)) (id0_16_0) rfl rfl inGX6 (Nat.le_of_ble_eq_true rfl) w_203 rfl dX6_isBench_6 ?_
    refine AW.get (k := 2) (v := .int (σ 5 0 2)) (id0_5_0) rfl rfl inGX2 (Nat.le_of_ble_eq_true rfl) w_99 rfl dX6_isBench_9 ?_
    refine AW.icmp_ge (tgt := 19) dX6_isBench_12 rfl (fun c => ?_) (fun c => ?_)
    · replace h := ite_t c h
      refine AW.iconst (v := (0 : Int32)) dX6_isBench_19 rfl ?_
      exact AW.bret false rfl rfl dX6_isBench_20 h
    · replace h := ite_f c h
      refine AW.iconst (v := (1 : Int32)) dX6_isBench_15 rfl ?_
      refine AW.goto (tgt := 20) dX6_isBench_16 rfl ?_
      exact AW.bret true rfl rfl dX6_isBench_20 h
theorem ok_X6_isBench : OkV M_X6_isBench 1 := ⟨w_310, wp_1, w_1, w_311, by decide +kernel, (Nat.le_of_ble_eq_true rfl)⟩
def M_X0_howManySit : MT := (yX0_howManySit, cX0_howManySit, 3, some .int, 1)
set_option maxRecDepth 100000 in
def f_X0_howManySit_4 (i0 : Nat) (K : Int32 → Mm → Prop) : Nat → Int32 → Int32 → Mm → Prop
  | 0, _, _, _ => False
  | n + 1, a1, a2, σ => (if (σ 0 i0 1) ≤ a2 then (K a1 σ) else (vp_in a2 8 ∧ (if (σ 1 i0 (a2.toNatClampNeg)) = (-1 : Int32) then (f_X0_howManySit_4 i0 K n a1 (a2 + (1 : Int32)) σ) else (f_X0_howManySit_4 i0 K n (a1 + (1 : Int32)) (a2 + (1 : Int32)) σ))))
set_option maxRecDepth 100000 in
set_option maxHeartbeats 4000000 in
theorem T_X0_howManySit_4 {g : GG} {i0 : Nat} {K : Int32 → Mm → Prop} (hi0 : i0 < 17) : ∀ (n : Nat) (a1 : Int32) (a2 : Int32) (σ : Mm), f_X0_howManySit_4 i0 K n a1 a2 σ → AW g 0 M_X0_howManySit (QI g 0 K) 4 [(0, .ref (gad g 0 i0)), (1, .int a1), (2, .int a2)] [] σ := by
  intro n
  induction n with
  | zero => intro a1 a2 σ h; exact False.elim h
  | succ n ih =>
    intro a1 a2 σ h
    rw [f_X0_howManySit_4] at h
    refine AW.iload_n dX0_howManySit_4 2 rfl ?_
    refine AW.aload_n dX0_howManySit_5 0 rfl ?_
    refine AW.get (k := 1) (v := .int (σ 0 i0 1)) (ids_in (Nat.le_of_ble_eq_true rfl) hi0) rfl rfl inGX0 (Nat.le_of_ble_eq_true rfl) w_72 rfl dX0_howManySit_6 ?_
    refine AW.icmp_ge (tgt := 31) dX0_howManySit_9 rfl (fun c => ?_) (fun c => ?_)
    · replace h := ite_t c h
      refine AW.iload_n dX0_howManySit_31 1 rfl ?_
      exact AW.iret rfl dX0_howManySit_32 h
    · replace h := ite_f c h
      refine AW.aload_n dX0_howManySit_12 0 rfl ?_
      refine AW.get (k := 2) (v := .ref (gad g 1 i0)) (ids_in (Nat.le_of_ble_eq_true rfl) hi0) rfl rfl inGX0 (Nat.le_of_ble_eq_true rfl) w_78 rfl dX0_howManySit_13 ?_
      refine AW.iload_n dX0_howManySit_16 2 rfl ?_
      obtain ⟨hq1, h⟩ := h
      refine AW.iald (jn := (a2.toNatClampNeg)) (ids_in (Nat.le_of_ble_eq_true rfl) hi0) rfl hq1 rfl dX0_howManySit_17 ?_
      refine AW.iconst (v := (-1 : Int32)) dX0_howManySit_18 rfl ?_
      refine AW.icmp_eq (tgt := 25) dX0_howManySit_19 rfl (fun c => ?_) (fun c => ?_)
      · replace h := ite_t c h
        refine AW.iinc (v := (a2 + (1 : Int32))) (L' := [(0, .ref (gad g 0 i0)), (1, .int a1), (2, .int (a2 + (1 : Int32)))]) dX0_howManySit_25 2 rfl rfl (Nat.le_of_ble_eq_true rfl) rfl ?_
        refine AW.goto (tgt := 4) dX0_howManySit_28 rfl ?_
        exact ih _ _ _ h
      · replace h := ite_f c h
        refine AW.iinc (v := (a1 + (1 : Int32))) (L' := [(0, .ref (gad g 0 i0)), (1, .int (a1 + (1 : Int32))), (2, .int a2)]) dX0_howManySit_22 1 rfl rfl (Nat.le_of_ble_eq_true rfl) rfl ?_
        refine AW.iinc (v := (a2 + (1 : Int32))) (L' := [(0, .ref (gad g 0 i0)), (1, .int (a1 + (1 : Int32))), (2, .int (a2 + (1 : Int32)))]) dX0_howManySit_25 2 rfl rfl (Nat.le_of_ble_eq_true rfl) rfl ?_
        refine AW.goto (tgt := 4) dX0_howManySit_28 rfl ?_
        exact ih _ _ _ h
def f_X0_howManySit (i0 : Nat) (σ : Mm) (K : Int32 → Mm → Prop) : Prop := (i0 < 17 ∧ (∃ m, f_X0_howManySit_4 i0 K m (0 : Int32) (0 : Int32) σ))
set_option maxRecDepth 100000 in
set_option maxHeartbeats 4000000 in
theorem C_X0_howManySit {g : GG} {i0 : Nat} {σ : Mm} {K : Int32 → Mm → Prop} (h : f_X0_howManySit i0 σ K) : Ct g 0 M_X0_howManySit (QI g 0 K) [.ref (gad g 0 i0)] σ := by
  unfold f_X0_howManySit at h
  obtain ⟨hi0, h⟩ := h
  refine Ct.of (L := [(0, .ref (gad g 0 i0))]) (show plainName RX0 = true by decide) (Nat.le_of_ble_eq_true rfl) rfl ?_
  refine AW.iconst (v := (0 : Int32)) dX0_howManySit_0 rfl ?_
  refine AW.istore_n (L' := [(0, .ref (gad g 0 i0)), (1, .int (0 : Int32))]) dX0_howManySit_1 (Nat.le_of_ble_eq_true rfl) rfl ?_
  refine AW.iconst (v := (0 : Int32)) dX0_howManySit_2 rfl ?_
  refine AW.istore_n (L' := [(0, .ref (gad g 0 i0)), (1, .int (0 : Int32)), (2, .int (0 : Int32))]) dX0_howManySit_3 (Nat.le_of_ble_eq_true rfl) rfl ?_
  obtain ⟨m, h⟩ := h
  refine T_X0_howManySit_4 hi0 m _ _ _ h
theorem ok_X0_howManySit : OkV M_X0_howManySit 0 := ⟨w_313, w_314, w_5, w_315, by decide +kernel, (Nat.le_of_ble_eq_true rfl)⟩
def M_X0_armOf : MT := (yX0_armOf, cX0_armOf, 2, some .int, 1)
def f_X0_armOf (i0 : Nat) (a1 : Int32) (σ : Mm) (K : Int32 → Mm → Prop) : Prop := (i0 < 17 ∧ (K (((2 : Int32) * a1) - ((σ 0 i0 1) - (1 : Int32))) σ))
set_option maxRecDepth 100000 in
set_option maxHeartbeats 4000000 in
theorem C_X0_armOf {g : GG} {i0 : Nat} {a1 : Int32} {σ : Mm} {K : Int32 → Mm → Prop} (h : f_X0_armOf i0 a1 σ K) : Ct g 0 M_X0_armOf (QI g 0 K) [.ref (gad g 0 i0), .int a1] σ := by
  unfold f_X0_armOf at h
  obtain ⟨hi0, h⟩ := h
  refine Ct.of (L := [(0, .ref (gad g 0 i0)), (1, .int a1)]) (show plainName RX0 = true by decide) (Nat.le_of_ble_eq_true rfl) rfl ?_
  refine AW.iconst (v := (2 : Int32)) dX0_armOf_0 rfl ?_
  refine AW.iload_n dX0_armOf_1 1 rfl ?_
  refine AW.imul dX0_armOf_2 ?_
  refine AW.aload_n dX0_armOf_3 0 rfl ?_
  refine AW.get (k := 1) (v := .int (σ 0 i0 1)) (ids_in (Nat.le_of_ble_eq_true rfl) hi0) rfl rfl inGX0 (Nat.le_of_ble_eq_true rfl) w_72 rfl dX0_armOf_4 ?_
  refine AW.iconst (v := (1 : Int32)) dX0_armOf_7 rfl ?_
  refine AW.isub dX0_armOf_8 ?_
  refine AW.isub dX0_armOf_9 ?_
  exact AW.iret rfl dX0_armOf_10 h
theorem ok_X0_armOf : OkV M_X0_armOf 1 := ⟨w_321, w_322, w_5, w_323, by decide +kernel, (Nat.le_of_ble_eq_true rfl)⟩
def M_X1_listsOf : MT := (yX1_listsOf, cX1_listsOf, 4, some .int, 2)
set_option maxRecDepth 100000 in
def f_X1_listsOf_4 (i0 : Nat) (i1 : Nat) (K : Int32 → Mm → Prop) : Nat → Int32 → Int32 → Mm → Prop
  | 0, _, _, _ => False
  | n + 1, a2, a3, σ => (if (σ 0 i1 1) ≤ a3 then (K a2 σ) else (vp_in a3 8 ∧ (if (σ 1 i1 (a3.toNatClampNeg)) = (-1 : Int32) then (f_X1_listsOf_4 i0 i1 K n a2 (a3 + (1 : Int32)) σ) else (vp_in a3 8 ∧ (vp_in (σ 1 i1 (a3.toNatClampNeg)) 8 ∧ (f_X0_armOf i1 a3 σ (fun r5 σ4 => (f_X1_listsOf_4 i0 i1 K n (a2 + ((σ 4 i0 ((σ 1 i1 (a3.toNatClampNeg)).toNatClampNeg)) * r5)) (a3 + (1 : Int32)) σ4))))))))
set_option maxRecDepth 100000 in
set_option maxHeartbeats 4000000 in
theorem T_X1_listsOf_4 {g : GG} {i0 : Nat} {i1 : Nat} {K : Int32 → Mm → Prop} (hi0 : i0 < 3) (hi1 : i1 < 17) : ∀ (n : Nat) (a2 : Int32) (a3 : Int32) (σ : Mm), f_X1_listsOf_4 i0 i1 K n a2 a3 σ → AW g 0 M_X1_listsOf (QI g 0 K) 4 [(0, .ref (gad g 2 i0)), (1, .ref (gad g 0 i1)), (2, .int a2), (3, .int a3)] [] σ := by
  intro n
  induction n with
  | zero => intro a2 a3 σ h; exact False.elim h
  | succ n ih =>
    intro a2 a3 σ h
    rw [f_X1_listsOf_4] at h
    refine AW.iload_n dX1_listsOf_4 3 rfl ?_
    refine AW.aload_n dX1_listsOf_5 1 rfl ?_
    refine AW.get (k := 1) (v := .int (σ 0 i1 1)) (ids_in (Nat.le_of_ble_eq_true rfl) hi1) rfl rfl inGX0 (Nat.le_of_ble_eq_true rfl) w_76 rfl dX1_listsOf_6 ?_
    refine AW.icmp_ge (tgt := 48) dX1_listsOf_9 rfl (fun c => ?_) (fun c => ?_)
    · replace h := ite_t c h
      refine AW.iload_n dX1_listsOf_48 2 rfl ?_
      exact AW.iret rfl dX1_listsOf_49 h
    · replace h := ite_f c h
      refine AW.aload_n dX1_listsOf_12 1 rfl ?_
      refine AW.get (k := 2) (v := .ref (gad g 1 i1)) (ids_in (Nat.le_of_ble_eq_true rfl) hi1) rfl rfl inGX0 (Nat.le_of_ble_eq_true rfl) w_81 rfl dX1_listsOf_13 ?_
      refine AW.iload_n dX1_listsOf_16 3 rfl ?_
      obtain ⟨hq1, h⟩ := h
      refine AW.iald (jn := (a3.toNatClampNeg)) (ids_in (Nat.le_of_ble_eq_true rfl) hi1) rfl hq1 rfl dX1_listsOf_17 ?_
      refine AW.iconst (v := (-1 : Int32)) dX1_listsOf_18 rfl ?_
      refine AW.icmp_eq (tgt := 42) dX1_listsOf_19 rfl (fun c => ?_) (fun c => ?_)
      · replace h := ite_t c h
        refine AW.iinc (v := (a3 + (1 : Int32))) (L' := [(0, .ref (gad g 2 i0)), (1, .ref (gad g 0 i1)), (2, .int a2), (3, .int (a3 + (1 : Int32)))]) dX1_listsOf_42 3 rfl rfl (Nat.le_of_ble_eq_true rfl) rfl ?_
        refine AW.goto (tgt := 4) dX1_listsOf_45 rfl ?_
        exact ih _ _ _ h
      · replace h := ite_f c h
        refine AW.iload_n dX1_listsOf_22 2 rfl ?_
        refine AW.aload_n dX1_listsOf_23 0 rfl ?_
        refine AW.get (k := 1) (v := .ref (gad g 4 i0)) (ids_in (Nat.le_of_ble_eq_true rfl) hi0) rfl rfl inGX1 (Nat.le_of_ble_eq_true rfl) w_41 rfl dX1_listsOf_24 ?_
        refine AW.aload_n dX1_listsOf_27 1 rfl ?_
        refine AW.get (k := 2) (v := .ref (gad g 1 i1)) (ids_in (Nat.le_of_ble_eq_true rfl) hi1) rfl rfl inGX0 (Nat.le_of_ble_eq_true rfl) w_81 rfl dX1_listsOf_28 ?_
        refine AW.iload_n dX1_listsOf_31 3 rfl ?_
        obtain ⟨hq2, h⟩ := h
        refine AW.iald (jn := (a3.toNatClampNeg)) (ids_in (Nat.le_of_ble_eq_true rfl) hi1) rfl hq2 rfl dX1_listsOf_32 ?_
        obtain ⟨hq3, h⟩ := h
        refine AW.iald (jn := ((σ 1 i1 (a3.toNatClampNeg)).toNatClampNeg)) (ids_in (Nat.le_of_ble_eq_true rfl) hi0) rfl hq3 rfl dX1_listsOf_33 ?_
        refine AW.aload_n dX1_listsOf_34 1 rfl ?_
        refine AW.iload_n dX1_listsOf_35 3 rfl ?_
        refine AW.callVI [.int a3] (C_X0_armOf h) ok_X0_armOf (ids_in (Nat.le_of_ble_eq_true rfl) hi1) rfl rfl w_320 rfl (Nat.le_of_ble_eq_true rfl) (Nat.le_of_ble_eq_true rfl) rfl dX1_listsOf_36 (fun r5 σ4 h => ?_)
        refine AW.imul dX1_listsOf_39 ?_
        refine AW.iadd dX1_listsOf_40 ?_
        refine AW.istore_n (L' := [(0, .ref (gad g 2 i0)), (1, .ref (gad g 0 i1)), (2, .int (a2 + ((σ 4 i0 ((σ 1 i1 (a3.toNatClampNeg)).toNatClampNeg)) * r5))), (3, .int a3)]) dX1_listsOf_41 (Nat.le_of_ble_eq_true rfl) rfl ?_
        refine AW.iinc (v := (a3 + (1 : Int32))) (L' := [(0, .ref (gad g 2 i0)), (1, .ref (gad g 0 i1)), (2, .int (a2 + ((σ 4 i0 ((σ 1 i1 (a3.toNatClampNeg)).toNatClampNeg)) * r5))), (3, .int (a3 + (1 : Int32)))]) dX1_listsOf_42 3 rfl rfl (Nat.le_of_ble_eq_true rfl) rfl ?_
        refine AW.goto (tgt := 4) dX1_listsOf_45 rfl ?_
        exact ih _ _ _ h
def f_X1_listsOf (i0 : Nat) (i1 : Nat) (σ : Mm) (K : Int32 → Mm → Prop) : Prop := (i0 < 3 ∧ (i1 < 17 ∧ (∃ m, f_X1_listsOf_4 i0 i1 K m (0 : Int32) (0 : Int32) σ)))
set_option maxRecDepth 100000 in
set_option maxHeartbeats 4000000 in
theorem C_X1_listsOf {g : GG} {i0 : Nat} {i1 : Nat} {σ : Mm} {K : Int32 → Mm → Prop} (h : f_X1_listsOf i0 i1 σ K) : Ct g 0 M_X1_listsOf (QI g 0 K) [.ref (gad g 2 i0), .ref (gad g 0 i1)] σ := by
  unfold f_X1_listsOf at h
  obtain ⟨hi0, h⟩ := h
  obtain ⟨hi1, h⟩ := h
  refine Ct.of (L := [(0, .ref (gad g 2 i0)), (1, .ref (gad g 0 i1))]) (show plainName RX1 = true by decide) (Nat.le_of_ble_eq_true rfl) rfl ?_
  refine AW.iconst (v := (0 : Int32)) dX1_listsOf_0 rfl ?_
  refine AW.istore_n (L' := [(0, .ref (gad g 2 i0)), (1, .ref (gad g 0 i1)), (2, .int (0 : Int32))]) dX1_listsOf_1 (Nat.le_of_ble_eq_true rfl) rfl ?_
  refine AW.iconst (v := (0 : Int32)) dX1_listsOf_2 rfl ?_
  refine AW.istore_n (L' := [(0, .ref (gad g 2 i0)), (1, .ref (gad g 0 i1)), (2, .int (0 : Int32)), (3, .int (0 : Int32))]) dX1_listsOf_3 (Nat.le_of_ble_eq_true rfl) rfl ?_
  obtain ⟨m, h⟩ := h
  refine T_X1_listsOf_4 hi0 hi1 m _ _ _ h
theorem ok_X1_listsOf : OkV M_X1_listsOf 1 := ⟨w_317, w_318, w_3, w_319, by decide +kernel, (Nat.le_of_ble_eq_true rfl)⟩
def M_X1_listsAtMost : MT := (yX1_listsAtMost, cX1_listsAtMost, 2, some .int, 1)
def f_X1_listsAtMost (i0 : Nat) (a1 : Int32) (σ : Mm) (K : Int32 → Mm → Prop) : Prop := (i0 < 3 ∧ (if a1 = (3 : Int32) then (K (σ 2 i0 3) σ) else (if a1 = (6 : Int32) then (K ((2 : Int32) * (σ 2 i0 3)) σ) else (K (1000000 : Int32) σ))))
set_option maxRecDepth 100000 in
set_option maxHeartbeats 4000000 in
theorem C_X1_listsAtMost {g : GG} {i0 : Nat} {a1 : Int32} {σ : Mm} {K : Int32 → Mm → Prop} (h : f_X1_listsAtMost i0 a1 σ K) : Ct g 0 M_X1_listsAtMost (QI g 0 K) [.ref (gad g 2 i0), .int a1] σ := by
  unfold f_X1_listsAtMost at h
  obtain ⟨hi0, h⟩ := h
  refine Ct.of (L := [(0, .ref (gad g 2 i0)), (1, .int a1)]) (show plainName RX1 = true by decide) (Nat.le_of_ble_eq_true rfl) rfl ?_
  refine AW.iload_n dX1_listsAtMost_0 1 rfl ?_
  refine AW.iconst (v := (3 : Int32)) dX1_listsAtMost_1 rfl ?_
  refine AW.icmp_ne (tgt := 10) dX1_listsAtMost_2 rfl (fun c => ?_) (fun c => ?_)
  · replace h := ite_f c h
    refine AW.iload_n dX1_listsAtMost_10 1 rfl ?_
    refine AW.bipush (v := (6 : Int32)) dX1_listsAtMost_11 rfl ?_
    refine AW.icmp_ne (tgt := 25) dX1_listsAtMost_13 rfl (fun c => ?_) (fun c => ?_)
    · replace h := ite_f c h
      refine AW.ldc (v := (1000000 : Int32)) dX1_listsAtMost_25 w_336 ?_
      exact AW.iret rfl dX1_listsAtMost_27 h
    · replace h := ite_t c h
      refine AW.iconst (v := (2 : Int32)) dX1_listsAtMost_16 rfl ?_
      refine AW.aload_n dX1_listsAtMost_17 0 rfl ?_
      refine AW.get (k := 3) (v := .int (σ 2 i0 3)) (ids_in (Nat.le_of_ble_eq_true rfl) hi0) rfl rfl inGX1 (Nat.le_of_ble_eq_true rfl) w_47 rfl dX1_listsAtMost_18 ?_
      refine AW.imul dX1_listsAtMost_21 ?_
      refine AW.goto (tgt := 27) dX1_listsAtMost_22 rfl ?_
      exact AW.iret rfl dX1_listsAtMost_27 h
  · replace h := ite_t c h
    refine AW.aload_n dX1_listsAtMost_5 0 rfl ?_
    refine AW.get (k := 3) (v := .int (σ 2 i0 3)) (ids_in (Nat.le_of_ble_eq_true rfl) hi0) rfl rfl inGX1 (Nat.le_of_ble_eq_true rfl) w_47 rfl dX1_listsAtMost_6 ?_
    exact AW.iret rfl dX1_listsAtMost_9 h
theorem ok_X1_listsAtMost : OkV M_X1_listsAtMost 1 := ⟨w_333, w_334, w_3, w_335, by decide +kernel, (Nat.le_of_ble_eq_true rfl)⟩
