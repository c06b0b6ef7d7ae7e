def M_X7_isWord : MT := (yX7_isWord, cX7_isWord, 4, some .boolean, 5)
set_option maxRecDepth 100000 in
def f_X7_isWord_39 (i1 : Nat) (K : Bool → Mm → Prop) : Nat → Int32 → Int32 → Mm → Prop
  | 0, _, _, _ => False
  | n + 1, a2, a3, σ => (if a2 = 0 then (∃ b0 : Bool, a2 = b2i b0 ∧ K b0 σ) else (f_J0_length_8abf5_y i1 σ (fun r2 σ1 => (if r2 ≤ a3 then (∃ b0 : Bool, a2 = b2i b0 ∧ K b0 σ1) else (vp_in ((σ1 0 0 14) + a3) 120 ∧ (f_J0_charAt_5068e_y i1 a3 σ1 (fun r5 σ4 => (if (σ1 9 0 (((σ1 0 0 14) + a3).toNatClampNeg)) = r5 then (f_X7_isWord_39 i1 K n (1 : Int32) (a3 + (1 : Int32)) σ4) else (f_X7_isWord_39 i1 K n (0 : Int32) (a3 + (1 : Int32)) σ4)))))))))
set_option maxRecDepth 100000 in
set_option maxHeartbeats 4000000 in
theorem T_X7_isWord_39 {g : GG} {i1 : Nat} {K : Bool → Mm → Prop} (hi1 : i1 < 13) : ∀ (n : Nat) (a2 : Int32) (a3 : Int32) (σ : Mm), f_X7_isWord_39 i1 K n a2 a3 σ → AW g 1 M_X7_isWord (QB g 1 K) 39 [(0, .ref (gad g 0 0)), (1, .ref (gaK g i1)), (2, .int a2), (3, .int a3)] [] σ := by
  intro n
  induction n with
  | zero => intro a2 a3 σ h; exact False.elim h
  | succ n ih =>
    intro a2 a3 σ h
    rw [f_X7_isWord_39] at h
    refine AW.iload_n dX7_isWord_39 2 rfl ?_
    refine AW.if_eq (tgt := 82) dX7_isWord_40 rfl (fun c => ?_) (fun c => ?_)
    · replace h := ite_t c h
      refine AW.iload_n dX7_isWord_82 2 rfl ?_
      obtain ⟨b0, hb0, h⟩ := h
      exact AW.bret b0 hb0 rfl dX7_isWord_83 h
    · replace h := ite_f c h
      refine AW.iload_n dX7_isWord_43 3 rfl ?_
      refine AW.aload_n dX7_isWord_44 1 rfl ?_
      refine AW.callStrI [] (C_J0_length_8abf5_y h) ok_J0_length_8abf5_y hi1 w_1267 rfl (Nat.le_of_ble_eq_true rfl) (Nat.le_of_ble_eq_true rfl) rfl dX7_isWord_45 rfl (fun r2 σ1 h => ?_)
      refine AW.icmp_ge (tgt := 82) dX7_isWord_48 rfl (fun c => ?_) (fun c => ?_)
      · replace h := ite_t c h
        refine AW.iload_n dX7_isWord_82 2 rfl ?_
        obtain ⟨b0, hb0, h⟩ := h
        exact AW.bret b0 hb0 rfl dX7_isWord_83 h
      · replace h := ite_f c h
        refine AW.aload_n dX7_isWord_51 0 rfl ?_
        refine AW.get (k := 11) (v := .ref (gad g 9 0)) (id1_0_0) rfl rfl inGX7 (Nat.le_of_ble_eq_true rfl) w_883 rfl dX7_isWord_52 ?_
        refine AW.aload_n dX7_isWord_55 0 rfl ?_
        refine AW.get (k := 14) (v := .int (σ1 0 0 14)) (id1_0_0) rfl rfl inGX7 (Nat.le_of_ble_eq_true rfl) w_886 rfl dX7_isWord_56 ?_
        refine AW.iload_n dX7_isWord_59 3 rfl ?_
        refine AW.iadd dX7_isWord_60 ?_
        obtain ⟨hq3, h⟩ := h
        refine AW.iald (jn := (((σ1 0 0 14) + a3).toNatClampNeg)) (id1_9_0) rfl hq3 rfl dX7_isWord_61 ?_
        refine AW.aload_n dX7_isWord_62 1 rfl ?_
        refine AW.iload_n dX7_isWord_63 3 rfl ?_
        refine AW.callStrI [.int a3] (C_J0_charAt_5068e_y h) ok_J0_charAt_5068e_y hi1 w_1268 rfl (Nat.le_of_ble_eq_true rfl) (Nat.le_of_ble_eq_true rfl) rfl dX7_isWord_64 rfl (fun r5 σ4 h => ?_)
        refine AW.icmp_ne (tgt := 74) dX7_isWord_67 rfl (fun c => ?_) (fun c => ?_)
        · replace h := ite_f c h
          refine AW.iconst (v := (0 : Int32)) dX7_isWord_74 rfl ?_
          refine AW.istore_n (L' := [(0, .ref (gad g 0 0)), (1, .ref (gaK g i1)), (2, .int (0 : Int32)), (3, .int a3)]) dX7_isWord_75 (Nat.le_of_ble_eq_true rfl) rfl ?_
          refine AW.iinc (v := (a3 + (1 : Int32))) (L' := [(0, .ref (gad g 0 0)), (1, .ref (gaK g i1)), (2, .int (0 : Int32)), (3, .int (a3 + (1 : Int32)))]) dX7_isWord_76 3 rfl rfl (Nat.le_of_ble_eq_true rfl) rfl ?_
          refine AW.goto (tgt := 39) dX7_isWord_79 rfl ?_
          exact ih _ _ _ h
        · replace h := ite_t c h
          refine AW.iconst (v := (1 : Int32)) dX7_isWord_70 rfl ?_
          refine AW.goto (tgt := 75) dX7_isWord_71 rfl ?_
          refine AW.istore_n (L' := [(0, .ref (gad g 0 0)), (1, .ref (gaK g i1)), (2, .int (1 : Int32)), (3, .int a3)]) dX7_isWord_75 (Nat.le_of_ble_eq_true rfl) rfl ?_
          refine AW.iinc (v := (a3 + (1 : Int32))) (L' := [(0, .ref (gad g 0 0)), (1, .ref (gaK g i1)), (2, .int (1 : Int32)), (3, .int (a3 + (1 : Int32)))]) dX7_isWord_76 3 rfl rfl (Nat.le_of_ble_eq_true rfl) rfl ?_
          refine AW.goto (tgt := 39) dX7_isWord_79 rfl ?_
          exact ih _ _ _ h
def f_X7_isWord_36 (i1 : Nat) (as0 : Int32) (K : Bool → Mm → Prop) (σ : Mm) : Prop := (∃ m, f_X7_isWord_39 i1 K m as0 (0 : Int32) σ)
set_option maxRecDepth 100000 in
set_option maxHeartbeats 4000000 in
theorem T_X7_isWord_36 {g : GG} {i1 : Nat} {as0 : Int32} {K : Bool → Mm → Prop} {σ : Mm} (hi1 : i1 < 13) (h : f_X7_isWord_36 i1 as0 K σ) : AW g 1 M_X7_isWord (QB g 1 K) 36 [(0, .ref (gad g 0 0)), (1, .ref (gaK g i1))] [.int as0] σ := by
  unfold f_X7_isWord_36 at h
  refine AW.istore_n (L' := [(0, .ref (gad g 0 0)), (1, .ref (gaK g i1)), (2, .int as0)]) dX7_isWord_36 (Nat.le_of_ble_eq_true rfl) rfl ?_
  refine AW.iconst (v := (0 : Int32)) dX7_isWord_37 rfl ?_
  refine AW.istore_n (L' := [(0, .ref (gad g 0 0)), (1, .ref (gaK g i1)), (2, .int as0), (3, .int (0 : Int32))]) dX7_isWord_38 (Nat.le_of_ble_eq_true rfl) rfl ?_
  obtain ⟨m, h⟩ := h
  refine T_X7_isWord_39 hi1 m _ _ _ h
def f_X7_isWord_35 (i1 : Nat) (K : Bool → Mm → Prop) (σ : Mm) : Prop := (f_X7_isWord_36 i1 (0 : Int32) K σ)
set_option maxRecDepth 100000 in
set_option maxHeartbeats 4000000 in
theorem T_X7_isWord_35 {g : GG} {i1 : Nat} {K : Bool → Mm → Prop} {σ : Mm} (hi1 : i1 < 13) (h : f_X7_isWord_35 i1 K σ) : AW g 1 M_X7_isWord (QB g 1 K) 35 [(0, .ref (gad g 0 0)), (1, .ref (gaK g i1))] [] σ := by
  unfold f_X7_isWord_35 at h
  refine AW.iconst (v := (0 : Int32)) dX7_isWord_35 rfl ?_
  exact T_X7_isWord_36 hi1 h
def f_X7_isWord (i1 : Nat) (σ : Mm) (K : Bool → Mm → Prop) : Prop := (i1 < 13 ∧ (if (σ 0 0 17) = 0 then (if (σ 0 0 13) = (1 : Int32) then (f_J0_length_8abf5_y i1 σ (fun r7 σ6 => (if ((σ 0 0 15) - (σ 0 0 14)) = r7 then (f_X7_isWord_36 i1 (1 : Int32) K σ6) else (f_X7_isWord_35 i1 K σ6)))) else (f_X7_isWord_35 i1 K σ)) else (f_X7_isWord_35 i1 K σ)))
set_option maxRecDepth 100000 in
set_option maxHeartbeats 4000000 in
theorem C_X7_isWord {g : GG} {i1 : Nat} {σ : Mm} {K : Bool → Mm → Prop} (h : f_X7_isWord i1 σ K) : Ct g 1 M_X7_isWord (QB g 1 K) [.ref (gad g 0 0), .ref (gaK g i1)] σ := by
  unfold f_X7_isWord at h
  obtain ⟨hi1, h⟩ := h
  refine Ct.of (L := [(0, .ref (gad g 0 0)), (1, .ref (gaK g i1))]) (show plainName RX7 = true by decide) (Nat.le_of_ble_eq_true rfl) rfl ?_
  refine AW.aload_n dX7_isWord_0 0 rfl ?_
  refine AW.get (k := 17) (v := .int (σ 0 0 17)) (id1_0_0) rfl rfl inGX7 (Nat.le_of_ble_eq_true rfl) w_889 rfl dX7_isWord_1 ?_
  refine AW.if_ne (tgt := 35) dX7_isWord_4 rfl (fun c => ?_) (fun c => ?_)
  · replace h := ite_f c h
    exact T_X7_isWord_35 hi1 h
  · replace h := ite_t c h
    refine AW.aload_n dX7_isWord_7 0 rfl ?_
    refine AW.get (k := 13) (v := .int (σ 0 0 13)) (id1_0_0) rfl rfl inGX7 (Nat.le_of_ble_eq_true rfl) w_885 rfl dX7_isWord_8 ?_
    refine AW.iconst (v := (1 : Int32)) dX7_isWord_11 rfl ?_
    refine AW.icmp_ne (tgt := 35) dX7_isWord_12 rfl (fun c => ?_) (fun c => ?_)
    · replace h := ite_f c h
      exact T_X7_isWord_35 hi1 h
    · replace h := ite_t c h
      refine AW.aload_n dX7_isWord_15 0 rfl ?_
      refine AW.get (k := 15) (v := .int (σ 0 0 15)) (id1_0_0) rfl rfl inGX7 (Nat.le_of_ble_eq_true rfl) w_887 rfl dX7_isWord_16 ?_
      refine AW.aload_n dX7_isWord_19 0 rfl ?_
      refine AW.get (k := 14) (v := .int (σ 0 0 14)) (id1_0_0) rfl rfl inGX7 (Nat.le_of_ble_eq_true rfl) w_886 rfl dX7_isWord_20 ?_
      refine AW.isub dX7_isWord_23 ?_
      refine AW.aload_n dX7_isWord_24 1 rfl ?_
      refine AW.callStrI [] (C_J0_length_8abf5_y h) ok_J0_length_8abf5_y hi1 w_1267 rfl (Nat.le_of_ble_eq_true rfl) (Nat.le_of_ble_eq_true rfl) rfl dX7_isWord_25 rfl (fun r7 σ6 h => ?_)
      refine AW.icmp_ne (tgt := 35) dX7_isWord_28 rfl (fun c => ?_) (fun c => ?_)
      · replace h := ite_f c h
        exact T_X7_isWord_35 hi1 h
      · replace h := ite_t c h
        refine AW.iconst (v := (1 : Int32)) dX7_isWord_31 rfl ?_
        refine AW.goto (tgt := 36) dX7_isWord_32 rfl ?_
        exact T_X7_isWord_36 hi1 h
theorem ok_X7_isWord : OkV M_X7_isWord 1 := ⟨w_1265, wp_63, w_9, w_1266, by decide +kernel, (Nat.le_of_ble_eq_true rfl)⟩
def M_X7_takes : MT := (yX7_takes, cX7_takes, 2, some .boolean, 6)
def f_X7_takes (i1 : Nat) (σ : Mm) (K : Bool → Mm → Prop) : Prop := (i1 < 13 ∧ (f_X7_isWord i1 σ (fun b2 σ1 => (if b2 = true then (f_X7_token σ1 (fun σ3 => (K true σ3))) else (K false σ1)))))
set_option maxRecDepth 100000 in
set_option maxHeartbeats 4000000 in
theorem C_X7_takes {g : GG} {i1 : Nat} {σ : Mm} {K : Bool → Mm → Prop} (h : f_X7_takes i1 σ K) : Ct g 1 M_X7_takes (QB g 1 K) [.ref (gad g 0 0), .ref (gaK g i1)] σ := by
  unfold f_X7_takes at h
  obtain ⟨hi1, h⟩ := h
  refine Ct.of (L := [(0, .ref (gad g 0 0)), (1, .ref (gaK g i1))]) (show plainName RX7 = true by decide) (Nat.le_of_ble_eq_true rfl) rfl ?_
  refine AW.aload_n dX7_takes_0 0 rfl ?_
  refine AW.aload_n dX7_takes_1 1 rfl ?_
  refine AW.callVB [.ref (gaK g i1)] (C_X7_isWord h) ok_X7_isWord (id1_0_0) rfl rfl w_1263 rfl (Nat.le_of_ble_eq_true rfl) (Nat.le_of_ble_eq_true rfl) rfl dX7_takes_2 (fun b2 σ1 h => ?_)
  refine AW.ifb_ne (tgt := 10) dX7_takes_5 rfl (fun c => ?_) (fun c => ?_)
  · replace h := ite_t c h
    refine AW.aload_n dX7_takes_10 0 rfl ?_
    refine AW.callVV [] (C_X7_token h) ok_X7_token (id1_0_0) rfl rfl w_1246 rfl (Nat.le_of_ble_eq_true rfl) (Nat.le_of_ble_eq_true rfl) rfl dX7_takes_11 (fun σ3 h => ?_)
    refine AW.iconst (v := (1 : Int32)) dX7_takes_14 rfl ?_
    exact AW.bret true rfl rfl dX7_takes_15 h
  · replace h := ite_f c h
    refine AW.iconst (v := (0 : Int32)) dX7_takes_8 rfl ?_
    exact AW.bret false rfl rfl dX7_takes_9 h
theorem ok_X7_takes : OkV M_X7_takes 1 := ⟨w_1261, wp_62, w_9, w_1262, by decide +kernel, (Nat.le_of_ble_eq_true rfl)⟩
def M_X7_kindHere : MT := (yX7_kindHere, cX7_kindHere, 1, some .int, 6)
def f_X7_kindHere (σ : Mm) (K : Int32 → Mm → Prop) : Prop := (f_X7_isWord 4 σ (fun b2 σ1 => (if b2 = true then (K (0 : Int32) σ1) else (f_X7_isWord 5 σ1 (fun b4 σ3 => (if b4 = true then (K (1 : Int32) σ3) else (f_X7_isWord 6 σ3 (fun b6 σ5 => (if b6 = true then (K (2 : Int32) σ5) else (f_X7_isWord 7 σ5 (fun b8 σ7 => (if b8 = true then (K (3 : Int32) σ7) else (f_X7_isWord 8 σ7 (fun b10 σ9 => (if b10 = true then (K (4 : Int32) σ9) else (f_X7_isWord 9 σ9 (fun b12 σ11 => (if b12 = true then (K (5 : Int32) σ11) else (f_X7_isWord 10 σ11 (fun b14 σ13 => (if b14 = true then (K (6 : Int32) σ13) else (K (-1 : Int32) σ13))))))))))))))))))))))
set_option maxRecDepth 100000 in
set_option maxHeartbeats 4000000 in
theorem C_X7_kindHere {g : GG} {σ : Mm} {K : Int32 → Mm → Prop} (h : f_X7_kindHere σ K) : Ct g 1 M_X7_kindHere (QI g 1 K) [.ref (gad g 0 0)] σ := by
  unfold f_X7_kindHere at h
  refine Ct.of (L := [(0, .ref (gad g 0 0))]) (show plainName RX7 = true by decide) (Nat.le_of_ble_eq_true rfl) rfl ?_
  refine AW.aload_n dX7_kindHere_0 0 rfl ?_
  refine AW.ldcS (tx := "bench") (n := 4) dX7_kindHere_1 (by decide) ?_
  refine AW.callVB [.ref (gaK g 4)] (C_X7_isWord h) ok_X7_isWord (id1_0_0) rfl rfl w_1263 rfl (Nat.le_of_ble_eq_true rfl) (Nat.le_of_ble_eq_true rfl) rfl dX7_kindHere_3 (fun b2 σ1 h => ?_)
  refine AW.ifb_eq (tgt := 11) dX7_kindHere_6 rfl (fun c => ?_) (fun c => ?_)
  · replace h := ite_f c h
    refine AW.aload_n dX7_kindHere_11 0 rfl ?_
    refine AW.ldcwS (tx := "pew") (n := 5) dX7_kindHere_12 (by decide) ?_
    refine AW.callVB [.ref (gaK g 5)] (C_X7_isWord h) ok_X7_isWord (id1_0_0) rfl rfl w_1263 rfl (Nat.le_of_ble_eq_true rfl) (Nat.le_of_ble_eq_true rfl) rfl dX7_kindHere_15 (fun b4 σ3 h => ?_)
    refine AW.ifb_eq (tgt := 23) dX7_kindHere_18 rfl (fun c => ?_) (fun c => ?_)
    · replace h := ite_f c h
      refine AW.aload_n dX7_kindHere_23 0 rfl ?_
      refine AW.ldcwS (tx := "ring") (n := 6) dX7_kindHere_24 (by decide) ?_
      refine AW.callVB [.ref (gaK g 6)] (C_X7_isWord h) ok_X7_isWord (id1_0_0) rfl rfl w_1263 rfl (Nat.le_of_ble_eq_true rfl) (Nat.le_of_ble_eq_true rfl) rfl dX7_kindHere_27 (fun b6 σ5 h => ?_)
      refine AW.ifb_eq (tgt := 35) dX7_kindHere_30 rfl (fun c => ?_) (fun c => ?_)
      · replace h := ite_f c h
        refine AW.aload_n dX7_kindHere_35 0 rfl ?_
        refine AW.ldcwS (tx := "boat") (n := 7) dX7_kindHere_36 (by decide) ?_
        refine AW.callVB [.ref (gaK g 7)] (C_X7_isWord h) ok_X7_isWord (id1_0_0) rfl rfl w_1263 rfl (Nat.le_of_ble_eq_true rfl) (Nat.le_of_ble_eq_true rfl) rfl dX7_kindHere_39 (fun b8 σ7 h => ?_)
        refine AW.ifb_eq (tgt := 47) dX7_kindHere_42 rfl (fun c => ?_) (fun c => ?_)
        · replace h := ite_f c h
          refine AW.aload_n dX7_kindHere_47 0 rfl ?_
          refine AW.ldcwS (tx := "bed") (n := 8) dX7_kindHere_48 (by decide) ?_
          refine AW.callVB [.ref (gaK g 8)] (C_X7_isWord h) ok_X7_isWord (id1_0_0) rfl rfl w_1263 rfl (Nat.le_of_ble_eq_true rfl) (Nat.le_of_ble_eq_true rfl) rfl dX7_kindHere_51 (fun b10 σ9 h => ?_)
          refine AW.ifb_eq (tgt := 59) dX7_kindHere_54 rfl (fun c => ?_) (fun c => ?_)
          · replace h := ite_f c h
            refine AW.aload_n dX7_kindHere_59 0 rfl ?_
            refine AW.ldcwS (tx := "table") (n := 9) dX7_kindHere_60 (by decide) ?_
            refine AW.callVB [.ref (gaK g 9)] (C_X7_isWord h) ok_X7_isWord (id1_0_0) rfl rfl w_1263 rfl (Nat.le_of_ble_eq_true rfl) (Nat.le_of_ble_eq_true rfl) rfl dX7_kindHere_63 (fun b12 σ11 h => ?_)
            refine AW.ifb_eq (tgt := 73) dX7_kindHere_66 rfl (fun c => ?_) (fun c => ?_)
            · replace h := ite_f c h
              refine AW.aload_n dX7_kindHere_73 0 rfl ?_
              refine AW.ldcwS (tx := "raft") (n := 10) dX7_kindHere_74 (by decide) ?_
              refine AW.callVB [.ref (gaK g 10)] (C_X7_isWord h) ok_X7_isWord (id1_0_0) rfl rfl w_1263 rfl (Nat.le_of_ble_eq_true rfl) (Nat.le_of_ble_eq_true rfl) rfl dX7_kindHere_77 (fun b14 σ13 h => ?_)
              refine AW.ifb_eq (tgt := 88) dX7_kindHere_80 rfl (fun c => ?_) (fun c => ?_)
              · replace h := ite_f c h
                refine AW.iconst (v := (-1 : Int32)) dX7_kindHere_88 rfl ?_
                exact AW.iret rfl dX7_kindHere_89 h
              · replace h := ite_t c h
                refine AW.bipush (v := (6 : Int32)) dX7_kindHere_83 rfl ?_
                refine AW.goto (tgt := 89) dX7_kindHere_85 rfl ?_
                exact AW.iret rfl dX7_kindHere_89 h
            · replace h := ite_t c h
              refine AW.iconst (v := (5 : Int32)) dX7_kindHere_69 rfl ?_
              refine AW.goto (tgt := 89) dX7_kindHere_70 rfl ?_
              exact AW.iret rfl dX7_kindHere_89 h
          · replace h := ite_t c h
            refine AW.iconst (v := (4 : Int32)) dX7_kindHere_57 rfl ?_
            exact AW.iret rfl dX7_kindHere_58 h
        · replace h := ite_t c h
          refine AW.iconst (v := (3 : Int32)) dX7_kindHere_45 rfl ?_
          exact AW.iret rfl dX7_kindHere_46 h
      · replace h := ite_t c h
        refine AW.iconst (v := (2 : Int32)) dX7_kindHere_33 rfl ?_
        exact AW.iret rfl dX7_kindHere_34 h
    · replace h := ite_t c h
      refine AW.iconst (v := (1 : Int32)) dX7_kindHere_21 rfl ?_
      exact AW.iret rfl dX7_kindHere_22 h
  · replace h := ite_t c h
    refine AW.iconst (v := (0 : Int32)) dX7_kindHere_9 rfl ?_
    exact AW.iret rfl dX7_kindHere_10 h
theorem ok_X7_kindHere : OkV M_X7_kindHere 0 := ⟨w_1290, wp_68, w_9, w_1291, by decide +kernel, (Nat.le_of_ble_eq_true rfl)⟩
def M_X7_number : MT := (yX7_number, cX7_number, 5, some .int, 4)
def f_X7_number_40 (as1 : Int32) (K : Int32 → Mm → Prop) (σ : Mm) : Prop := (bz as1 ∧ (∃ σ2, σ2 = mset σ 0 0 17 as1 ∧ (if (σ2 0 0 17) = 0 then (f_X7_token σ2 (fun σ3 => (K (σ2 0 0 16) σ3))) else (K (σ2 0 0 16) σ2))))
set_option maxRecDepth 100000 in
set_option maxHeartbeats 4000000 in
theorem T_X7_number_40 {g : GG} {as1 : Int32} {K : Int32 → Mm → Prop} {σ : Mm} (h : f_X7_number_40 as1 K σ) : AW g 1 M_X7_number (QI g 1 K) 40 [(0, .ref (gad g 0 0))] [.int as1, .ref (gad g 0 0)] σ := by
  unfold f_X7_number_40 at h
  obtain ⟨hb1, h⟩ := h
  refine AW.put (k := 17) (w := as1) (id1_0_0) rfl rfl inGX7 tyX7_ok nmX7 (Nat.le_of_ble_eq_true rfl) w_889 rfl rfl (bz_nar hb1) (bz_fit hb1) (Nat.le_of_ble_eq_true rfl) rfl dX7_number_40 ?_
  obtain ⟨σ2, eσ2, h⟩ := h
  rw [← eσ2]
  refine AW.aload_n dX7_number_43 0 rfl ?_
  refine AW.get (k := 16) (v := .int (σ2 0 0 16)) (id1_0_0) rfl rfl inGX7 (Nat.le_of_ble_eq_true rfl) w_888 rfl dX7_number_44 ?_
  refine AW.istore (L' := [(0, .ref (gad g 0 0)), (4, .int (σ2 0 0 16))]) dX7_number_47 (Nat.le_of_ble_eq_true rfl) rfl ?_
  refine AW.aload_n dX7_number_49 0 rfl ?_
  refine AW.get (k := 17) (v := .int (σ2 0 0 17)) (id1_0_0) rfl rfl inGX7 (Nat.le_of_ble_eq_true rfl) w_889 rfl dX7_number_50 ?_
  refine AW.if_ne (tgt := 60) dX7_number_53 rfl (fun c => ?_) (fun c => ?_)
  · replace h := ite_f c h
    refine AW.iload dX7_number_60 1 rfl ?_
    exact AW.iret rfl dX7_number_62 h
  · replace h := ite_t c h
    refine AW.aload_n dX7_number_56 0 rfl ?_
    refine AW.callVV [] (C_X7_token h) ok_X7_token (id1_0_0) rfl rfl w_1246 rfl (Nat.le_of_ble_eq_true rfl) (Nat.le_of_ble_eq_true rfl) rfl dX7_number_57 (fun σ3 h => ?_)
    refine AW.iload dX7_number_60 1 rfl ?_
    exact AW.iret rfl dX7_number_62 h
def f_X7_number_35 (K : Int32 → Mm → Prop) (σ : Mm) : Prop := (f_X7_number_40 (1 : Int32) K σ)
set_option maxRecDepth 100000 in
set_option maxHeartbeats 4000000 in
theorem T_X7_number_35 {g : GG} {K : Int32 → Mm → Prop} {σ : Mm} (h : f_X7_number_35 K σ) : AW g 1 M_X7_number (QI g 1 K) 35 [(0, .ref (gad g 0 0))] [.ref (gad g 0 0)] σ := by
  unfold f_X7_number_35 at h
  refine AW.iconst (v := (1 : Int32)) dX7_number_35 rfl ?_
  refine AW.goto (tgt := 40) dX7_number_36 rfl ?_
  exact T_X7_number_40 h
def f_X7_number (a1 : Int32) (a2 : Int32) (a3 : Int32) (σ : Mm) (K : Int32 → Mm → Prop) : Prop := (if (σ 0 0 17) = 0 then (if a3 = 0 then (f_X7_number_35 K σ) else (if (σ 0 0 13) = (2 : Int32) then (f_X7_in (((σ 0 0 16)).toInt64) ((a1).toInt64) ((a2).toInt64) σ (fun b5 σ4 => (if b5 = true then (f_X7_number_40 (0 : Int32) K σ4) else (f_X7_number_35 K σ4)))) else (f_X7_number_35 K σ))) else (f_X7_number_35 K σ))
set_option maxRecDepth 100000 in
set_option maxHeartbeats 4000000 in
theorem C_X7_number {g : GG} {a1 : Int32} {a2 : Int32} {a3 : Int32} {σ : Mm} {K : Int32 → Mm → Prop} (h : f_X7_number a1 a2 a3 σ K) : Ct g 1 M_X7_number (QI g 1 K) [.ref (gad g 0 0), .int a1, .int a2, .int a3] σ := by
  unfold f_X7_number at h
  refine Ct.of (L := [(0, .ref (gad g 0 0)), (1, .int a1), (2, .int a2), (3, .int a3)]) (show plainName RX7 = true by decide) (Nat.le_of_ble_eq_true rfl) rfl ?_
  refine AW.aload_n dX7_number_0 0 rfl ?_
  refine AW.aload_n dX7_number_1 0 rfl ?_
  refine AW.get (k := 17) (v := .int (σ 0 0 17)) (id1_0_0) rfl rfl inGX7 (Nat.le_of_ble_eq_true rfl) w_889 rfl dX7_number_2 ?_
  refine AW.if_ne (tgt := 35) dX7_number_5 rfl (fun c => ?_) (fun c => ?_)
  · replace h := ite_f c h
    refine AW.eqL [0] rfl ?_
    exact T_X7_number_35 h
  · replace h := ite_t c h
    refine AW.iload_n dX7_number_8 3 rfl ?_
    refine AW.if_eq (tgt := 35) dX7_number_9 rfl (fun c => ?_) (fun c => ?_)
    · replace h := ite_t c h
      refine AW.eqL [0] rfl ?_
      exact T_X7_number_35 h
    · replace h := ite_f c h
      refine AW.aload_n dX7_number_12 0 rfl ?_
      refine AW.get (k := 13) (v := .int (σ 0 0 13)) (id1_0_0) rfl rfl inGX7 (Nat.le_of_ble_eq_true rfl) w_885 rfl dX7_number_13 ?_
      refine AW.iconst (v := (2 : Int32)) dX7_number_16 rfl ?_
      refine AW.icmp_ne (tgt := 35) dX7_number_17 rfl (fun c => ?_) (fun c => ?_)
      · replace h := ite_f c h
        refine AW.eqL [0] rfl ?_
        exact T_X7_number_35 h
      · replace h := ite_t c h
        refine AW.aload_n dX7_number_20 0 rfl ?_
        refine AW.get (k := 16) (v := .int (σ 0 0 16)) (id1_0_0) rfl rfl inGX7 (Nat.le_of_ble_eq_true rfl) w_888 rfl dX7_number_21 ?_
        refine AW.i2l dX7_number_24 ?_
        refine AW.iload_n dX7_number_25 1 rfl ?_
        refine AW.i2l dX7_number_26 ?_
        refine AW.iload_n dX7_number_27 2 rfl ?_
        refine AW.i2l dX7_number_28 ?_
        refine AW.callSB [.long (((σ 0 0 16)).toInt64), .long ((a1).toInt64), .long ((a2).toInt64)] (C_X7_in h) ok_X7_in w_947 rfl (Nat.le_of_ble_eq_true rfl) (Nat.le_of_ble_eq_true rfl) rfl dX7_number_29 (fun b5 σ4 h => ?_)
        refine AW.ifb_ne (tgt := 39) dX7_number_32 rfl (fun c => ?_) (fun c => ?_)
        · replace h := ite_t c h
          refine AW.iconst (v := (0 : Int32)) dX7_number_39 rfl ?_
          refine AW.eqL [0] rfl ?_
          exact T_X7_number_40 h
        · replace h := ite_f c h
          refine AW.eqL [0] rfl ?_
          exact T_X7_number_35 h
theorem ok_X7_number : OkV M_X7_number 3 := ⟨w_1275, wp_65, w_9, w_1276, by decide +kernel, (Nat.le_of_ble_eq_true rfl)⟩
def M_X7_sits : MT := (yX7_sits, cX7_sits, 6, none, 5)
def f_X7_sits_95 (a1 : Int32) (a2 : Int32) (K : Mm → Prop) (k4 : Int32 → Int32 → Mm → Prop) (σ : Mm) : Prop := (if (σ 0 0 17) = 0 then (if (σ 0 0 13) = (2 : Int32) then (k4 (a2 + (1 : Int32)) (1 : Int32) σ) else (k4 (a2 + (1 : Int32)) (0 : Int32) σ)) else (k4 (a2 + (1 : Int32)) (0 : Int32) σ))
set_option maxRecDepth 100000 in
set_option maxHeartbeats 4000000 in
theorem T_X7_sits_95 {g : GG} {a1 : Int32} {a2 : Int32} {K : Mm → Prop} {k4 : Int32 → Int32 → Mm → Prop} {σ : Mm} (hk4 : ∀ (x2 : Int32) (x3 : Int32) (u : Mm), k4 x2 x3 u → AW g 1 M_X7_sits (QV g 1 K) 4 [(0, .ref (gad g 0 0)), (1, .int a1), (2, .int x2), (3, .int x3)] [] u) (h : f_X7_sits_95 a1 a2 K k4 σ) : AW g 1 M_X7_sits (QV g 1 K) 95 [(0, .ref (gad g 0 0)), (1, .int a1), (2, .int a2)] [] σ := by
  unfold f_X7_sits_95 at h
  refine AW.iinc (v := (a2 + (1 : Int32))) (L' := [(0, .ref (gad g 0 0)), (1, .int a1), (2, .int (a2 + (1 : Int32)))]) dX7_sits_95 2 rfl rfl (Nat.le_of_ble_eq_true rfl) rfl ?_
  refine AW.aload_n dX7_sits_98 0 rfl ?_
  refine AW.get (k := 17) (v := .int (σ 0 0 17)) (id1_0_0) rfl rfl inGX7 (Nat.le_of_ble_eq_true rfl) w_889 rfl dX7_sits_99 ?_
  refine AW.if_ne (tgt := 117) dX7_sits_102 rfl (fun c => ?_) (fun c => ?_)
  · replace h := ite_f c h
    refine AW.iconst (v := (0 : Int32)) dX7_sits_117 rfl ?_
    refine AW.istore_n (L' := [(0, .ref (gad g 0 0)), (1, .int a1), (2, .int (a2 + (1 : Int32))), (3, .int (0 : Int32))]) dX7_sits_118 (Nat.le_of_ble_eq_true rfl) rfl ?_
    refine AW.goto (tgt := 4) dX7_sits_119 rfl ?_
    exact hk4 _ _ _ h
  · replace h := ite_t c h
    refine AW.aload_n dX7_sits_105 0 rfl ?_
    refine AW.get (k := 13) (v := .int (σ 0 0 13)) (id1_0_0) rfl rfl inGX7 (Nat.le_of_ble_eq_true rfl) w_885 rfl dX7_sits_106 ?_
    refine AW.iconst (v := (2 : Int32)) dX7_sits_109 rfl ?_
    refine AW.icmp_ne (tgt := 117) dX7_sits_110 rfl (fun c => ?_) (fun c => ?_)
    · replace h := ite_f c h
      refine AW.iconst (v := (0 : Int32)) dX7_sits_117 rfl ?_
      refine AW.istore_n (L' := [(0, .ref (gad g 0 0)), (1, .int a1), (2, .int (a2 + (1 : Int32))), (3, .int (0 : Int32))]) dX7_sits_118 (Nat.le_of_ble_eq_true rfl) rfl ?_
      refine AW.goto (tgt := 4) dX7_sits_119 rfl ?_
      exact hk4 _ _ _ h
    · replace h := ite_t c h
      refine AW.iconst (v := (1 : Int32)) dX7_sits_113 rfl ?_
      refine AW.goto (tgt := 118) dX7_sits_114 rfl ?_
      refine AW.istore_n (L' := [(0, .ref (gad g 0 0)), (1, .int a1), (2, .int (a2 + (1 : Int32))), (3, .int (1 : Int32))]) dX7_sits_118 (Nat.le_of_ble_eq_true rfl) rfl ?_
      refine AW.goto (tgt := 4) dX7_sits_119 rfl ?_
      exact hk4 _ _ _ h
def f_X7_sits_94 (a1 : Int32) (a2 : Int32) (as2 : Int32) (as1 : Int32) (K : Mm → Prop) (k4 : Int32 → Int32 → Mm → Prop) (σ : Mm) : Prop := (vp_in as1 136 ∧ (∃ σ8, σ8 = mset σ 1 0 (as1.toNatClampNeg) as2 ∧ (f_X7_sits_95 a1 a2 K k4 σ8)))
set_option maxRecDepth 100000 in
set_option maxHeartbeats 4000000 in
theorem T_X7_sits_94 {g : GG} {a1 : Int32} {a2 : Int32} {as2 : Int32} {as1 : Int32} {K : Mm → Prop} {k4 : Int32 → Int32 → Mm → Prop} {σ : Mm} (hk4 : ∀ (x2 : Int32) (x3 : Int32) (u : Mm), k4 x2 x3 u → AW g 1 M_X7_sits (QV g 1 K) 4 [(0, .ref (gad g 0 0)), (1, .int a1), (2, .int x2), (3, .int x3)] [] u) (h : f_X7_sits_94 a1 a2 as2 as1 K k4 σ) : AW g 1 M_X7_sits (QV g 1 K) 94 [(0, .ref (gad g 0 0)), (1, .int a1), (2, .int a2)] [.int as2, .int as1, .ref (gad g 1 0)] σ := by
  unfold f_X7_sits_94 at h
  obtain ⟨hq7, h⟩ := h
  refine AW.iast (jn := (as1.toNatClampNeg)) (id1_1_0) (fun _ => rfl) hq7 rfl dX7_sits_94 ?_
  obtain ⟨σ8, eσ8, h⟩ := h
  rw [← eσ8]
  exact T_X7_sits_95 hk4 h
def f_X7_sits_52 (a1 : Int32) (a2 : Int32) (as0 : Int32) (K : Mm → Prop) (k4 : Int32 → Int32 → Mm → Prop) (σ : Mm) : Prop := (f_X7_number (0 : Int32) (8 : Int32) as0 σ (fun r4 σ3 => (if (σ3 0 0 17) = 0 then (f_X7_at a1 a2 σ3 (fun r6 σ5 => (if r4 = (8 : Int32) then (f_X7_sits_94 a1 a2 (-1 : Int32) r6 K k4 σ5) else (f_X7_sits_94 a1 a2 r4 r6 K k4 σ5)))) else (f_X7_sits_95 a1 a2 K k4 σ3))))
set_option maxRecDepth 100000 in
set_option maxHeartbeats 4000000 in
theorem T_X7_sits_52 {g : GG} {a1 : Int32} {a2 : Int32} {as0 : Int32} {K : Mm → Prop} {k4 : Int32 → Int32 → Mm → Prop} {σ : Mm} (hk4 : ∀ (x2 : Int32) (x3 : Int32) (u : Mm), k4 x2 x3 u → AW g 1 M_X7_sits (QV g 1 K) 4 [(0, .ref (gad g 0 0)), (1, .int a1), (2, .int x2), (3, .int x3)] [] u) (h : f_X7_sits_52 a1 a2 as0 K k4 σ) : AW g 1 M_X7_sits (QV g 1 K) 52 [(0, .ref (gad g 0 0)), (1, .int a1), (2, .int a2)] [.int as0] σ := by
  unfold f_X7_sits_52 at h
  refine AW.istore (L' := [(0, .ref (gad g 0 0)), (1, .int a1), (2, .int a2), (4, .int as0)]) dX7_sits_52 (Nat.le_of_ble_eq_true rfl) rfl ?_
  refine AW.aload_n dX7_sits_54 0 rfl ?_
  refine AW.iconst (v := (0 : Int32)) dX7_sits_55 rfl ?_
  refine AW.bipush (v := (8 : Int32)) dX7_sits_56 rfl ?_
  refine AW.iload dX7_sits_58 3 rfl ?_
  refine AW.callVI [.int (0 : Int32), .int (8 : Int32), .int as0] (C_X7_number h) ok_X7_number (id1_0_0) rfl rfl w_1273 rfl (Nat.le_of_ble_eq_true rfl) (Nat.le_of_ble_eq_true rfl) rfl dX7_sits_60 (fun r4 σ3 h => ?_)
  refine AW.istore (L' := [(0, .ref (gad g 0 0)), (1, .int a1), (2, .int a2), (4, .int as0), (5, .int r4)]) dX7_sits_63 (Nat.le_of_ble_eq_true rfl) rfl ?_
  refine AW.aload_n dX7_sits_65 0 rfl ?_
  refine AW.get (k := 17) (v := .int (σ3 0 0 17)) (id1_0_0) rfl rfl inGX7 (Nat.le_of_ble_eq_true rfl) w_889 rfl dX7_sits_66 ?_
  refine AW.if_ne (tgt := 95) dX7_sits_69 rfl (fun c => ?_) (fun c => ?_)
  · replace h := ite_f c h
    refine AW.eqL [0, 1, 2] rfl ?_
    exact T_X7_sits_95 hk4 h
  · replace h := ite_t c h
    refine AW.aload_n dX7_sits_72 0 rfl ?_
    refine AW.get (k := 0) (v := .ref (gad g 1 0)) (id1_0_0) rfl rfl inGX7 (Nat.le_of_ble_eq_true rfl) w_872 rfl dX7_sits_73 ?_
    refine AW.iload_n dX7_sits_76 1 rfl ?_
    refine AW.iload_n dX7_sits_77 2 rfl ?_
    refine AW.callSI [.int a1, .int a2] (C_X7_at h) ok_X7_at w_1008 rfl (Nat.le_of_ble_eq_true rfl) (Nat.le_of_ble_eq_true rfl) rfl dX7_sits_78 (fun r6 σ5 h => ?_)
    refine AW.iload dX7_sits_81 4 rfl ?_
    refine AW.bipush (v := (8 : Int32)) dX7_sits_83 rfl ?_
    refine AW.icmp_ne (tgt := 92) dX7_sits_85 rfl (fun c => ?_) (fun c => ?_)
    · replace h := ite_f c h
      refine AW.iload dX7_sits_92 4 rfl ?_
      refine AW.eqL [0, 1, 2] rfl ?_
      exact T_X7_sits_94 hk4 h
    · replace h := ite_t c h
      refine AW.iconst (v := (-1 : Int32)) dX7_sits_88 rfl ?_
      refine AW.goto (tgt := 94) dX7_sits_89 rfl ?_
      refine AW.eqL [0, 1, 2] rfl ?_
      exact T_X7_sits_94 hk4 h
def f_X7_sits_51 (a1 : Int32) (a2 : Int32) (K : Mm → Prop) (k4 : Int32 → Int32 → Mm → Prop) (σ : Mm) : Prop := (f_X7_sits_52 a1 a2 (0 : Int32) K k4 σ)
set_option maxRecDepth 100000 in
set_option maxHeartbeats 4000000 in
theorem T_X7_sits_51 {g : GG} {a1 : Int32} {a2 : Int32} {K : Mm → Prop} {k4 : Int32 → Int32 → Mm → Prop} {σ : Mm} (hk4 : ∀ (x2 : Int32) (x3 : Int32) (u : Mm), k4 x2 x3 u → AW g 1 M_X7_sits (QV g 1 K) 4 [(0, .ref (gad g 0 0)), (1, .int a1), (2, .int x2), (3, .int x3)] [] u) (h : f_X7_sits_51 a1 a2 K k4 σ) : AW g 1 M_X7_sits (QV g 1 K) 51 [(0, .ref (gad g 0 0)), (1, .int a1), (2, .int a2)] [] σ := by
  unfold f_X7_sits_51 at h
  refine AW.iconst (v := (0 : Int32)) dX7_sits_51 rfl ?_
  exact T_X7_sits_52 hk4 h
def f_X7_sits_47 (a1 : Int32) (a2 : Int32) (K : Mm → Prop) (k4 : Int32 → Int32 → Mm → Prop) (σ : Mm) : Prop := (f_X7_sits_52 a1 a2 (1 : Int32) K k4 σ)
set_option maxRecDepth 100000 in
set_option maxHeartbeats 4000000 in
theorem T_X7_sits_47 {g : GG} {a1 : Int32} {a2 : Int32} {K : Mm → Prop} {k4 : Int32 → Int32 → Mm → Prop} {σ : Mm} (hk4 : ∀ (x2 : Int32) (x3 : Int32) (u : Mm), k4 x2 x3 u → AW g 1 M_X7_sits (QV g 1 K) 4 [(0, .ref (gad g 0 0)), (1, .int a1), (2, .int x2), (3, .int x3)] [] u) (h : f_X7_sits_47 a1 a2 K k4 σ) : AW g 1 M_X7_sits (QV g 1 K) 47 [(0, .ref (gad g 0 0)), (1, .int a1), (2, .int a2)] [] σ := by
  unfold f_X7_sits_47 at h
  refine AW.iconst (v := (1 : Int32)) dX7_sits_47 rfl ?_
  refine AW.goto (tgt := 52) dX7_sits_48 rfl ?_
  exact T_X7_sits_52 hk4 h
set_option maxRecDepth 100000 in
def f_X7_sits_4 (a1 : Int32) (K : Mm → Prop) : Nat → Int32 → Int32 → Mm → Prop
  | 0, _, _, _ => False
  | n + 1, a2, a3, σ => (if a3 = 0 then (K σ) else (f_X7_seatsOf a1 σ (fun r2 σ1 => (if r2 ≤ a2 then (f_X7_sits_51 a1 a2 K (f_X7_sits_4 a1 K n) σ1) else (if (σ1 0 0 16) = (8 : Int32) then (f_X7_sits_47 a1 a2 K (f_X7_sits_4 a1 K n) σ1) else (f_X7_isPerson (σ1 0 0 16) σ1 (fun b10 σ9 => (if b10 = true then (f_X7_whereIs (σ9 0 0 16) σ9 (fun r12 σ11 => (if 0 ≤ r12 then (f_X7_sits_51 a1 a2 K (f_X7_sits_4 a1 K n) σ11) else (f_X7_sits_47 a1 a2 K (f_X7_sits_4 a1 K n) σ11)))) else (f_X7_sits_47 a1 a2 K (f_X7_sits_4 a1 K n) σ9)))))))))
set_option maxRecDepth 100000 in
set_option maxHeartbeats 4000000 in
theorem T_X7_sits_4 {g : GG} {a1 : Int32} {K : Mm → Prop} : ∀ (n : Nat) (a2 : Int32) (a3 : Int32) (σ : Mm), f_X7_sits_4 a1 K n a2 a3 σ → AW g 1 M_X7_sits (QV g 1 K) 4 [(0, .ref (gad g 0 0)), (1, .int a1), (2, .int a2), (3, .int a3)] [] σ := by
  intro n
  induction n with
  | zero => intro a2 a3 σ h; exact False.elim h
  | succ n ih =>
    intro a2 a3 σ h
    rw [f_X7_sits_4] at h
    refine AW.iload_n dX7_sits_4 3 rfl ?_
    refine AW.if_eq (tgt := 122) dX7_sits_5 rfl (fun c => ?_) (fun c => ?_)
    · replace h := ite_t c h
      exact AW.vret rfl dX7_sits_122 h
    · replace h := ite_f c h
      refine AW.iload_n dX7_sits_8 2 rfl ?_
      refine AW.aload_n dX7_sits_9 0 rfl ?_
      refine AW.iload_n dX7_sits_10 1 rfl ?_
      refine AW.callVI [.int a1] (C_X7_seatsOf h) ok_X7_seatsOf (id1_0_0) rfl rfl w_1028 rfl (Nat.le_of_ble_eq_true rfl) (Nat.le_of_ble_eq_true rfl) rfl dX7_sits_11 (fun r2 σ1 h => ?_)
      refine AW.icmp_ge (tgt := 51) dX7_sits_14 rfl (fun c => ?_) (fun c => ?_)
      · replace h := ite_t c h
        refine AW.eqL [0, 1, 2] rfl ?_
        exact T_X7_sits_51 ih h
      · replace h := ite_f c h
        refine AW.aload_n dX7_sits_17 0 rfl ?_
        refine AW.get (k := 16) (v := .int (σ1 0 0 16)) (id1_0_0) rfl rfl inGX7 (Nat.le_of_ble_eq_true rfl) w_888 rfl dX7_sits_18 ?_
        refine AW.bipush (v := (8 : Int32)) dX7_sits_21 rfl ?_
        refine AW.icmp_eq (tgt := 47) dX7_sits_23 rfl (fun c => ?_) (fun c => ?_)
        · replace h := ite_t c h
          refine AW.eqL [0, 1, 2] rfl ?_
          exact T_X7_sits_47 ih h
        · replace h := ite_f c h
          refine AW.aload_n dX7_sits_26 0 rfl ?_
          refine AW.get (k := 16) (v := .int (σ1 0 0 16)) (id1_0_0) rfl rfl inGX7 (Nat.le_of_ble_eq_true rfl) w_888 rfl dX7_sits_27 ?_
          refine AW.callSB [.int (σ1 0 0 16)] (C_X7_isPerson h) ok_X7_isPerson w_943 rfl (Nat.le_of_ble_eq_true rfl) (Nat.le_of_ble_eq_true rfl) rfl dX7_sits_30 (fun b10 σ9 h => ?_)
          refine AW.ifb_eq (tgt := 47) dX7_sits_33 rfl (fun c => ?_) (fun c => ?_)
          · replace h := ite_f c h
            refine AW.eqL [0, 1, 2] rfl ?_
            exact T_X7_sits_47 ih h
          · replace h := ite_t c h
            refine AW.aload_n dX7_sits_36 0 rfl ?_
            refine AW.aload_n dX7_sits_37 0 rfl ?_
            refine AW.get (k := 16) (v := .int (σ9 0 0 16)) (id1_0_0) rfl rfl inGX7 (Nat.le_of_ble_eq_true rfl) w_888 rfl dX7_sits_38 ?_
            refine AW.callVI [.int (σ9 0 0 16)] (C_X7_whereIs h) ok_X7_whereIs (id1_0_0) rfl rfl w_1094 rfl (Nat.le_of_ble_eq_true rfl) (Nat.le_of_ble_eq_true rfl) rfl dX7_sits_41 (fun r12 σ11 h => ?_)
            refine AW.if_ge (tgt := 51) dX7_sits_44 rfl (fun c => ?_) (fun c => ?_)
            · replace h := ite_t c h
              refine AW.eqL [0, 1, 2] rfl ?_
              exact T_X7_sits_51 ih h
            · replace h := ite_f c h
              refine AW.eqL [0, 1, 2] rfl ?_
              exact T_X7_sits_47 ih h
def f_X7_sits (a1 : Int32) (σ : Mm) (K : Mm → Prop) : Prop := (∃ m, f_X7_sits_4 a1 K m (0 : Int32) (1 : Int32) σ)
set_option maxRecDepth 100000 in
set_option maxHeartbeats 4000000 in
theorem C_X7_sits {g : GG} {a1 : Int32} {σ : Mm} {K : Mm → Prop} (h : f_X7_sits a1 σ K) : Ct g 1 M_X7_sits (QV g 1 K) [.ref (gad g 0 0), .int a1] σ := by
  unfold f_X7_sits at h
  refine Ct.of (L := [(0, .ref (gad g 0 0)), (1, .int a1)]) (show plainName RX7 = true by decide) (Nat.le_of_ble_eq_true rfl) rfl ?_
  refine AW.iconst (v := (0 : Int32)) dX7_sits_0 rfl ?_
  refine AW.istore_n (L' := [(0, .ref (gad g 0 0)), (1, .int a1), (2, .int (0 : Int32))]) dX7_sits_1 (Nat.le_of_ble_eq_true rfl) rfl ?_
  refine AW.iconst (v := (1 : Int32)) dX7_sits_2 rfl ?_
  refine AW.istore_n (L' := [(0, .ref (gad g 0 0)), (1, .int a1), (2, .int (0 : Int32)), (3, .int (1 : Int32))]) dX7_sits_3 (Nat.le_of_ble_eq_true rfl) rfl ?_
  obtain ⟨m, h⟩ := h
  refine T_X7_sits_4 m _ _ _ h
theorem ok_X7_sits : OkV M_X7_sits 1 := ⟨w_1307, wp_70, w_9, w_1308, by decide +kernel, (Nat.le_of_ble_eq_true rfl)⟩
def M_X7_benchItem : MT := (yX7_benchItem, cX7_benchItem, 3, none, 7)
def f_X7_benchItem_58 (a1 : Int32) (as1 : Int32) (K : Mm → Prop) (σ : Mm) : Prop := (bz as1 ∧ (∃ σ7, σ7 = mset σ 0 0 17 as1 ∧ (f_X7_number (1 : Int32) (8 : Int32) (1 : Int32) σ7 (fun r9 σ8 => (if (σ8 0 0 17) = 0 then (f_X7_comes a1 r9 σ8 (fun σ10 => (f_X7_takes 12 σ10 (fun b12 σ11 => (if b12 = true then (f_X7_sits ((σ11 1 0 3) - (1 : Int32)) σ11 (fun σ13 => (K σ13))) else (K σ11)))))) else (K σ8))))))
set_option maxRecDepth 100000 in
set_option maxHeartbeats 4000000 in
theorem T_X7_benchItem_58 {g : GG} {a1 : Int32} {as1 : Int32} {K : Mm → Prop} {σ : Mm} (h : f_X7_benchItem_58 a1 as1 K σ) : AW g 1 M_X7_benchItem (QV g 1 K) 58 [(0, .ref (gad g 0 0)), (1, .int a1)] [.int as1, .ref (gad g 0 0)] σ := by
  unfold f_X7_benchItem_58 at h
  obtain ⟨hb6, h⟩ := h
  refine AW.put (k := 17) (w := as1) (id1_0_0) rfl rfl inGX7 tyX7_ok nmX7 (Nat.le_of_ble_eq_true rfl) w_889 rfl rfl (bz_nar hb6) (bz_fit hb6) (Nat.le_of_ble_eq_true rfl) rfl dX7_benchItem_58 ?_
  obtain ⟨σ7, eσ7, h⟩ := h
  rw [← eσ7]
  refine AW.aload_n dX7_benchItem_61 0 rfl ?_
  refine AW.iconst (v := (1 : Int32)) dX7_benchItem_62 rfl ?_
  refine AW.bipush (v := (8 : Int32)) dX7_benchItem_63 rfl ?_
  refine AW.iconst (v := (1 : Int32)) dX7_benchItem_65 rfl ?_
  refine AW.callVI [.int (1 : Int32), .int (8 : Int32), .int (1 : Int32)] (C_X7_number h) ok_X7_number (id1_0_0) rfl rfl w_1273 rfl (Nat.le_of_ble_eq_true rfl) (Nat.le_of_ble_eq_true rfl) rfl dX7_benchItem_66 (fun r9 σ8 h => ?_)
  refine AW.istore_n (L' := [(0, .ref (gad g 0 0)), (1, .int a1), (2, .int r9)]) dX7_benchItem_69 (Nat.le_of_ble_eq_true rfl) rfl ?_
  refine AW.aload_n dX7_benchItem_70 0 rfl ?_
  refine AW.get (k := 17) (v := .int (σ8 0 0 17)) (id1_0_0) rfl rfl inGX7 (Nat.le_of_ble_eq_true rfl) w_889 rfl dX7_benchItem_71 ?_
  refine AW.if_eq (tgt := 78) dX7_benchItem_74 rfl (fun c => ?_) (fun c => ?_)
  · replace h := ite_t c h
    refine AW.aload_n dX7_benchItem_78 0 rfl ?_
    refine AW.iload_n dX7_benchItem_79 1 rfl ?_
    refine AW.iload_n dX7_benchItem_80 2 rfl ?_
    refine AW.callVV [.int a1, .int r9] (C_X7_comes h) ok_X7_comes (id1_0_0) rfl rfl w_1004 rfl (Nat.le_of_ble_eq_true rfl) (Nat.le_of_ble_eq_true rfl) rfl dX7_benchItem_81 (fun σ10 h => ?_)
    refine AW.aload_n dX7_benchItem_84 0 rfl ?_
    refine AW.ldcwS (tx := "sits") (n := 12) dX7_benchItem_85 (by decide) ?_
    refine AW.callVB [.ref (gaK g 12)] (C_X7_takes h) ok_X7_takes (id1_0_0) rfl rfl w_1259 rfl (Nat.le_of_ble_eq_true rfl) (Nat.le_of_ble_eq_true rfl) rfl dX7_benchItem_88 (fun b12 σ11 h => ?_)
    refine AW.ifb_eq (tgt := 106) dX7_benchItem_91 rfl (fun c => ?_) (fun c => ?_)
    · replace h := ite_f c h
      exact AW.vret rfl dX7_benchItem_106 h
    · replace h := ite_t c h
      refine AW.aload_n dX7_benchItem_94 0 rfl ?_
      refine AW.aload_n dX7_benchItem_95 0 rfl ?_
      refine AW.get (k := 0) (v := .ref (gad g 1 0)) (id1_0_0) rfl rfl inGX7 (Nat.le_of_ble_eq_true rfl) w_872 rfl dX7_benchItem_96 ?_
      refine AW.iconst (v := (3 : Int32)) dX7_benchItem_99 rfl ?_
      refine AW.iald (jn := 3) (id1_1_0) rfl (by unfold vp_in; decide) rfl dX7_benchItem_100 ?_
      refine AW.iconst (v := (1 : Int32)) dX7_benchItem_101 rfl ?_
      refine AW.isub dX7_benchItem_102 ?_
      refine AW.callVV [.int ((σ11 1 0 3) - (1 : Int32))] (C_X7_sits h) ok_X7_sits (id1_0_0) rfl rfl w_1305 rfl (Nat.le_of_ble_eq_true rfl) (Nat.le_of_ble_eq_true rfl) rfl dX7_benchItem_103 (fun σ13 h => ?_)
      exact AW.vret rfl dX7_benchItem_106 h
  · replace h := ite_f c h
    exact AW.vret rfl dX7_benchItem_77 h
def f_X7_benchItem_27 (a1 : Int32) (as1 : Int32) (K : Mm → Prop) (σ : Mm) : Prop := (bz as1 ∧ (∃ σ2, σ2 = mset σ 0 0 17 as1 ∧ (if (σ2 0 0 17) = 0 then (f_X7_token σ2 (fun σ3 => (f_X7_takes 11 σ3 (fun b5 σ4 => (if b5 = true then (f_X7_benchItem_58 a1 (0 : Int32) K σ4) else (f_X7_benchItem_58 a1 (1 : Int32) K σ4)))))) else (K σ2))))
set_option maxRecDepth 100000 in
set_option maxHeartbeats 4000000 in
theorem T_X7_benchItem_27 {g : GG} {a1 : Int32} {as1 : Int32} {K : Mm → Prop} {σ : Mm} (h : f_X7_benchItem_27 a1 as1 K σ) : AW g 1 M_X7_benchItem (QV g 1 K) 27 [(0, .ref (gad g 0 0)), (1, .int a1)] [.int as1, .ref (gad g 0 0)] σ := by
  unfold f_X7_benchItem_27 at h
  obtain ⟨hb1, h⟩ := h
  refine AW.put (k := 17) (w := as1) (id1_0_0) rfl rfl inGX7 tyX7_ok nmX7 (Nat.le_of_ble_eq_true rfl) w_889 rfl rfl (bz_nar hb1) (bz_fit hb1) (Nat.le_of_ble_eq_true rfl) rfl dX7_benchItem_27 ?_
  obtain ⟨σ2, eσ2, h⟩ := h
  rw [← eσ2]
  refine AW.aload_n dX7_benchItem_30 0 rfl ?_
  refine AW.get (k := 17) (v := .int (σ2 0 0 17)) (id1_0_0) rfl rfl inGX7 (Nat.le_of_ble_eq_true rfl) w_889 rfl dX7_benchItem_31 ?_
  refine AW.if_eq (tgt := 38) dX7_benchItem_34 rfl (fun c => ?_) (fun c => ?_)
  · replace h := ite_t c h
    refine AW.aload_n dX7_benchItem_38 0 rfl ?_
    refine AW.callVV [] (C_X7_token h) ok_X7_token (id1_0_0) rfl rfl w_1246 rfl (Nat.le_of_ble_eq_true rfl) (Nat.le_of_ble_eq_true rfl) rfl dX7_benchItem_39 (fun σ3 h => ?_)
    refine AW.aload_n dX7_benchItem_42 0 rfl ?_
    refine AW.aload_n dX7_benchItem_43 0 rfl ?_
    refine AW.ldcwS (tx := "seats") (n := 11) dX7_benchItem_44 (by decide) ?_
    refine AW.callVB [.ref (gaK g 11)] (C_X7_takes h) ok_X7_takes (id1_0_0) rfl rfl w_1259 rfl (Nat.le_of_ble_eq_true rfl) (Nat.le_of_ble_eq_true rfl) rfl dX7_benchItem_47 (fun b5 σ4 h => ?_)
    refine AW.ifb_ne (tgt := 57) dX7_benchItem_50 rfl (fun c => ?_) (fun c => ?_)
    · replace h := ite_t c h
      refine AW.iconst (v := (0 : Int32)) dX7_benchItem_57 rfl ?_
      exact T_X7_benchItem_58 h
    · replace h := ite_f c h
      refine AW.iconst (v := (1 : Int32)) dX7_benchItem_53 rfl ?_
      refine AW.goto (tgt := 58) dX7_benchItem_54 rfl ?_
      exact T_X7_benchItem_58 h
  · replace h := ite_f c h
    exact AW.vret rfl dX7_benchItem_37 h
def f_X7_benchItem_22 (a1 : Int32) (K : Mm → Prop) (σ : Mm) : Prop := (f_X7_benchItem_27 a1 (1 : Int32) K σ)
set_option maxRecDepth 100000 in
set_option maxHeartbeats 4000000 in
theorem T_X7_benchItem_22 {g : GG} {a1 : Int32} {K : Mm → Prop} {σ : Mm} (h : f_X7_benchItem_22 a1 K σ) : AW g 1 M_X7_benchItem (QV g 1 K) 22 [(0, .ref (gad g 0 0)), (1, .int a1)] [.ref (gad g 0 0)] σ := by
  unfold f_X7_benchItem_22 at h
  refine AW.iconst (v := (1 : Int32)) dX7_benchItem_22 rfl ?_
  refine AW.goto (tgt := 27) dX7_benchItem_23 rfl ?_
  exact T_X7_benchItem_27 h
def f_X7_benchItem (a1 : Int32) (σ : Mm) (K : Mm → Prop) : Prop := (if (σ 0 0 17) = 0 then (if a1 < 0 then (f_X7_benchItem_22 a1 K σ) else (if (σ 1 0 3) = (5 : Int32) then (f_X7_benchItem_22 a1 K σ) else (f_X7_benchItem_27 a1 (0 : Int32) K σ))) else (f_X7_benchItem_22 a1 K σ))
set_option maxRecDepth 100000 in
set_option maxHeartbeats 4000000 in
theorem C_X7_benchItem {g : GG} {a1 : Int32} {σ : Mm} {K : Mm → Prop} (h : f_X7_benchItem a1 σ K) : Ct g 1 M_X7_benchItem (QV g 1 K) [.ref (gad g 0 0), .int a1] σ := by
  unfold f_X7_benchItem at h
  refine Ct.of (L := [(0, .ref (gad g 0 0)), (1, .int a1)]) (show plainName RX7 = true by decide) (Nat.le_of_ble_eq_true rfl) rfl ?_
  refine AW.aload_n dX7_benchItem_0 0 rfl ?_
  refine AW.aload_n dX7_benchItem_1 0 rfl ?_
  refine AW.get (k := 17) (v := .int (σ 0 0 17)) (id1_0_0) rfl rfl inGX7 (Nat.le_of_ble_eq_true rfl) w_889 rfl dX7_benchItem_2 ?_
  refine AW.if_ne (tgt := 22) dX7_benchItem_5 rfl (fun c => ?_) (fun c => ?_)
  · replace h := ite_f c h
    exact T_X7_benchItem_22 h
  · replace h := ite_t c h
    refine AW.iload_n dX7_benchItem_8 1 rfl ?_
    refine AW.if_lt (tgt := 22) dX7_benchItem_9 rfl (fun c => ?_) (fun c => ?_)
    · replace h := ite_t c h
      exact T_X7_benchItem_22 h
    · replace h := ite_f c h
      refine AW.aload_n dX7_benchItem_12 0 rfl ?_
      refine AW.get (k := 0) (v := .ref (gad g 1 0)) (id1_0_0) rfl rfl inGX7 (Nat.le_of_ble_eq_true rfl) w_872 rfl dX7_benchItem_13 ?_
      refine AW.iconst (v := (3 : Int32)) dX7_benchItem_16 rfl ?_
      refine AW.iald (jn := 3) (id1_1_0) rfl (by unfold vp_in; decide) rfl dX7_benchItem_17 ?_
      refine AW.iconst (v := (5 : Int32)) dX7_benchItem_18 rfl ?_
      refine AW.icmp_ne (tgt := 26) dX7_benchItem_19 rfl (fun c => ?_) (fun c => ?_)
      · replace h := ite_f c h
        refine AW.iconst (v := (0 : Int32)) dX7_benchItem_26 rfl ?_
        exact T_X7_benchItem_27 h
      · replace h := ite_t c h
        exact T_X7_benchItem_22 h
theorem ok_X7_benchItem : OkV M_X7_benchItem 1 := ⟨w_1301, wp_69, w_9, w_1302, by decide +kernel, (Nat.le_of_ble_eq_true rfl)⟩
def M_X7_heldItem : MT := (yX7_heldItem, cX7_heldItem, 2, none, 5)
def f_X7_heldItem (σ : Mm) (K : Mm → Prop) : Prop := (f_X7_number (0 : Int32) (999 : Int32) (1 : Int32) σ (fun r2 σ1 => (if (σ1 0 0 17) = 0 then (∃ σ3, σ3 = mset σ1 1 0 1 r2 ∧ (K σ3)) else (K σ1))))
set_option maxRecDepth 100000 in
set_option maxHeartbeats 4000000 in
theorem C_X7_heldItem {g : GG} {σ : Mm} {K : Mm → Prop} (h : f_X7_heldItem σ K) : Ct g 1 M_X7_heldItem (QV g 1 K) [.ref (gad g 0 0)] σ := by
  unfold f_X7_heldItem at h
  refine Ct.of (L := [(0, .ref (gad g 0 0))]) (show plainName RX7 = true by decide) (Nat.le_of_ble_eq_true rfl) rfl ?_
  refine AW.aload_n dX7_heldItem_0 0 rfl ?_
  refine AW.iconst (v := (0 : Int32)) dX7_heldItem_1 rfl ?_
  refine AW.sipush (v := (999 : Int32)) dX7_heldItem_2 rfl ?_
  refine AW.iconst (v := (1 : Int32)) dX7_heldItem_5 rfl ?_
  refine AW.callVI [.int (0 : Int32), .int (999 : Int32), .int (1 : Int32)] (C_X7_number h) ok_X7_number (id1_0_0) rfl rfl w_1273 rfl (Nat.le_of_ble_eq_true rfl) (Nat.le_of_ble_eq_true rfl) rfl dX7_heldItem_6 (fun r2 σ1 h => ?_)
  refine AW.istore_n (L' := [(0, .ref (gad g 0 0)), (1, .int r2)]) dX7_heldItem_9 (Nat.le_of_ble_eq_true rfl) rfl ?_
  refine AW.aload_n dX7_heldItem_10 0 rfl ?_
  refine AW.get (k := 17) (v := .int (σ1 0 0 17)) (id1_0_0) rfl rfl inGX7 (Nat.le_of_ble_eq_true rfl) w_889 rfl dX7_heldItem_11 ?_
  refine AW.if_ne (tgt := 24) dX7_heldItem_14 rfl (fun c => ?_) (fun c => ?_)
  · replace h := ite_f c h
    exact AW.vret rfl dX7_heldItem_24 h
  · replace h := ite_t c h
    refine AW.aload_n dX7_heldItem_17 0 rfl ?_
    refine AW.get (k := 0) (v := .ref (gad g 1 0)) (id1_0_0) rfl rfl inGX7 (Nat.le_of_ble_eq_true rfl) w_872 rfl dX7_heldItem_18 ?_
    refine AW.iconst (v := (1 : Int32)) dX7_heldItem_21 rfl ?_
    refine AW.iload_n dX7_heldItem_22 1 rfl ?_
    refine AW.iast (jn := 1) (id1_1_0) (fun _ => rfl) (by unfold vp_in; decide) rfl dX7_heldItem_23 ?_
    obtain ⟨σ3, eσ3, h⟩ := h
    rw [← eσ3]
    exact AW.vret rfl dX7_heldItem_24 h
theorem ok_X7_heldItem : OkV M_X7_heldItem 0 := ⟨w_1286, wp_67, w_9, w_1287, by decide +kernel, (Nat.le_of_ble_eq_true rfl)⟩
def M_X7_weightItem : MT := (yX7_weightItem, cX7_weightItem, 3, none, 5)
def f_X7_weightItem (σ : Mm) (K : Mm → Prop) : Prop := (f_X7_number (0 : Int32) (7 : Int32) (1 : Int32) σ (fun r2 σ1 => (f_X7_number (1 : Int32) (99 : Int32) (1 : Int32) σ1 (fun r4 σ3 => (if (σ3 0 0 17) = 0 then (vp_in ((68 : Int32) + r2) 136 ∧ (∃ σ6, σ6 = mset σ3 1 0 (((68 : Int32) + r2).toNatClampNeg) r4 ∧ (K σ6))) else (K σ3))))))
set_option maxRecDepth 100000 in
set_option maxHeartbeats 4000000 in
theorem C_X7_weightItem {g : GG} {σ : Mm} {K : Mm → Prop} (h : f_X7_weightItem σ K) : Ct g 1 M_X7_weightItem (QV g 1 K) [.ref (gad g 0 0)] σ := by
  unfold f_X7_weightItem at h
  refine Ct.of (L := [(0, .ref (gad g 0 0))]) (show plainName RX7 = true by decide) (Nat.le_of_ble_eq_true rfl) rfl ?_
  refine AW.aload_n dX7_weightItem_0 0 rfl ?_
  refine AW.iconst (v := (0 : Int32)) dX7_weightItem_1 rfl ?_
  refine AW.bipush (v := (7 : Int32)) dX7_weightItem_2 rfl ?_
  refine AW.iconst (v := (1 : Int32)) dX7_weightItem_4 rfl ?_
  refine AW.callVI [.int (0 : Int32), .int (7 : Int32), .int (1 : Int32)] (C_X7_number h) ok_X7_number (id1_0_0) rfl rfl w_1273 rfl (Nat.le_of_ble_eq_true rfl) (Nat.le_of_ble_eq_true rfl) rfl dX7_weightItem_5 (fun r2 σ1 h => ?_)
  refine AW.istore_n (L' := [(0, .ref (gad g 0 0)), (1, .int r2)]) dX7_weightItem_8 (Nat.le_of_ble_eq_true rfl) rfl ?_
  refine AW.aload_n dX7_weightItem_9 0 rfl ?_
  refine AW.iconst (v := (1 : Int32)) dX7_weightItem_10 rfl ?_
  refine AW.bipush (v := (99 : Int32)) dX7_weightItem_11 rfl ?_
  refine AW.iconst (v := (1 : Int32)) dX7_weightItem_13 rfl ?_
  refine AW.callVI [.int (1 : Int32), .int (99 : Int32), .int (1 : Int32)] (C_X7_number h) ok_X7_number (id1_0_0) rfl rfl w_1273 rfl (Nat.le_of_ble_eq_true rfl) (Nat.le_of_ble_eq_true rfl) rfl dX7_weightItem_14 (fun r4 σ3 h => ?_)
  refine AW.istore_n (L' := [(0, .ref (gad g 0 0)), (1, .int r2), (2, .int r4)]) dX7_weightItem_17 (Nat.le_of_ble_eq_true rfl) rfl ?_
  refine AW.aload_n dX7_weightItem_18 0 rfl ?_
  refine AW.get (k := 17) (v := .int (σ3 0 0 17)) (id1_0_0) rfl rfl inGX7 (Nat.le_of_ble_eq_true rfl) w_889 rfl dX7_weightItem_19 ?_
  refine AW.if_ne (tgt := 35) dX7_weightItem_22 rfl (fun c => ?_) (fun c => ?_)
  · replace h := ite_f c h
    exact AW.vret rfl dX7_weightItem_35 h
  · replace h := ite_t c h
    refine AW.aload_n dX7_weightItem_25 0 rfl ?_
    refine AW.get (k := 0) (v := .ref (gad g 1 0)) (id1_0_0) rfl rfl inGX7 (Nat.le_of_ble_eq_true rfl) w_872 rfl dX7_weightItem_26 ?_
    refine AW.bipush (v := (68 : Int32)) dX7_weightItem_29 rfl ?_
    refine AW.iload_n dX7_weightItem_31 1 rfl ?_
    refine AW.iadd dX7_weightItem_32 ?_
    refine AW.iload_n dX7_weightItem_33 2 rfl ?_
    obtain ⟨hq5, h⟩ := h
    refine AW.iast (jn := (((68 : Int32) + r2).toNatClampNeg)) (id1_1_0) (fun _ => rfl) hq5 rfl dX7_weightItem_34 ?_
    obtain ⟨σ6, eσ6, h⟩ := h
    rw [← eσ6]
    exact AW.vret rfl dX7_weightItem_35 h
theorem ok_X7_weightItem : OkV M_X7_weightItem 0 := ⟨w_1281, wp_66, w_9, w_1282, by decide +kernel, (Nat.le_of_ble_eq_true rfl)⟩
def M_X7_friendsItem : MT := (yX7_friendsItem, cX7_friendsItem, 4, none, 5)
def f_X7_friendsItem_26 (a1 : Int32) (a2 : Int32) (as3 : Int32) (as2 : Int32) (as1 : Int32) (K : Mm → Prop) (σ : Mm) : Prop := (f_X7_number as1 as2 as3 σ (fun r4 σ3 => (if (σ3 0 0 17) = 0 then (f_X7_befriends a2 r4 a1 σ3 (fun σ5 => (K σ5))) else (K σ3))))
set_option maxRecDepth 100000 in
set_option maxHeartbeats 4000000 in
theorem T_X7_friendsItem_26 {g : GG} {a1 : Int32} {a2 : Int32} {as3 : Int32} {as2 : Int32} {as1 : Int32} {K : Mm → Prop} {σ : Mm} (h : f_X7_friendsItem_26 a1 a2 as3 as2 as1 K σ) : AW g 1 M_X7_friendsItem (QV g 1 K) 26 [(0, .ref (gad g 0 0)), (1, .int a1), (2, .int a2)] [.int as3, .int as2, .int as1, .ref (gad g 0 0)] σ := by
  unfold f_X7_friendsItem_26 at h
  refine AW.callVI [.int as1, .int as2, .int as3] (C_X7_number h) ok_X7_number (id1_0_0) rfl rfl w_1273 rfl (Nat.le_of_ble_eq_true rfl) (Nat.le_of_ble_eq_true rfl) rfl dX7_friendsItem_26 (fun r4 σ3 h => ?_)
  refine AW.istore_n (L' := [(0, .ref (gad g 0 0)), (1, .int a1), (2, .int a2), (3, .int r4)]) dX7_friendsItem_29 (Nat.le_of_ble_eq_true rfl) rfl ?_
  refine AW.aload_n dX7_friendsItem_30 0 rfl ?_
  refine AW.get (k := 17) (v := .int (σ3 0 0 17)) (id1_0_0) rfl rfl inGX7 (Nat.le_of_ble_eq_true rfl) w_889 rfl dX7_friendsItem_31 ?_
  refine AW.if_ne (tgt := 44) dX7_friendsItem_34 rfl (fun c => ?_) (fun c => ?_)
  · replace h := ite_f c h
    exact AW.vret rfl dX7_friendsItem_44 h
  · replace h := ite_t c h
    refine AW.aload_n dX7_friendsItem_37 0 rfl ?_
    refine AW.iload_n dX7_friendsItem_38 2 rfl ?_
    refine AW.iload_n dX7_friendsItem_39 3 rfl ?_
    refine AW.iload_n dX7_friendsItem_40 1 rfl ?_
    refine AW.callVV [.int a2, .int r4, .int a1] (C_X7_befriends h) ok_X7_befriends (id1_0_0) rfl rfl w_960 rfl (Nat.le_of_ble_eq_true rfl) (Nat.le_of_ble_eq_true rfl) rfl dX7_friendsItem_41 (fun σ5 h => ?_)
    exact AW.vret rfl dX7_friendsItem_44 h
def f_X7_friendsItem (a1 : Int32) (σ : Mm) (K : Mm → Prop) : Prop := (f_X7_number (0 : Int32) (7 : Int32) (1 : Int32) σ (fun r2 σ1 => (if (σ1 0 0 16) = r2 then (f_X7_friendsItem_26 a1 r2 (0 : Int32) (7 : Int32) (0 : Int32) K σ1) else (f_X7_friendsItem_26 a1 r2 (1 : Int32) (7 : Int32) (0 : Int32) K σ1))))
set_option maxRecDepth 100000 in
set_option maxHeartbeats 4000000 in
theorem C_X7_friendsItem {g : GG} {a1 : Int32} {σ : Mm} {K : Mm → Prop} (h : f_X7_friendsItem a1 σ K) : Ct g 1 M_X7_friendsItem (QV g 1 K) [.ref (gad g 0 0), .int a1] σ := by
  unfold f_X7_friendsItem at h
  refine Ct.of (L := [(0, .ref (gad g 0 0)), (1, .int a1)]) (show plainName RX7 = true by decide) (Nat.le_of_ble_eq_true rfl) rfl ?_
  refine AW.aload_n dX7_friendsItem_0 0 rfl ?_
  refine AW.iconst (v := (0 : Int32)) dX7_friendsItem_1 rfl ?_
  refine AW.bipush (v := (7 : Int32)) dX7_friendsItem_2 rfl ?_
  refine AW.iconst (v := (1 : Int32)) dX7_friendsItem_4 rfl ?_
  refine AW.callVI [.int (0 : Int32), .int (7 : Int32), .int (1 : Int32)] (C_X7_number h) ok_X7_number (id1_0_0) rfl rfl w_1273 rfl (Nat.le_of_ble_eq_true rfl) (Nat.le_of_ble_eq_true rfl) rfl dX7_friendsItem_5 (fun r2 σ1 h => ?_)
  refine AW.istore_n (L' := [(0, .ref (gad g 0 0)), (1, .int a1), (2, .int r2)]) dX7_friendsItem_8 (Nat.le_of_ble_eq_true rfl) rfl ?_
  refine AW.aload_n dX7_friendsItem_9 0 rfl ?_
  refine AW.iconst (v := (0 : Int32)) dX7_friendsItem_10 rfl ?_
  refine AW.bipush (v := (7 : Int32)) dX7_friendsItem_11 rfl ?_
  refine AW.aload_n dX7_friendsItem_13 0 rfl ?_
  refine AW.get (k := 16) (v := .int (σ1 0 0 16)) (id1_0_0) rfl rfl inGX7 (Nat.le_of_ble_eq_true rfl) w_888 rfl dX7_friendsItem_14 ?_
  refine AW.iload_n dX7_friendsItem_17 2 rfl ?_
  refine AW.icmp_eq (tgt := 25) dX7_friendsItem_18 rfl (fun c => ?_) (fun c => ?_)
  · replace h := ite_t c h
    refine AW.iconst (v := (0 : Int32)) dX7_friendsItem_25 rfl ?_
    exact T_X7_friendsItem_26 h
  · replace h := ite_f c h
    refine AW.iconst (v := (1 : Int32)) dX7_friendsItem_21 rfl ?_
    refine AW.goto (tgt := 26) dX7_friendsItem_22 rfl ?_
    exact T_X7_friendsItem_26 h
theorem ok_X7_friendsItem : OkV M_X7_friendsItem 1 := ⟨w_1271, wp_64, w_9, w_1272, by decide +kernel, (Nat.le_of_ble_eq_true rfl)⟩
def M_X7_item : MT := (yX7_item, cX7_item, 1, none, 8)
def f_X7_item (σ : Mm) (K : Mm → Prop) : Prop := (f_X7_takes 0 σ (fun b2 σ1 => (if b2 = true then (f_X7_friendsItem (1 : Int32) σ1 (fun σ15 => (K σ15))) else (f_X7_takes 1 σ1 (fun b4 σ3 => (if b4 = true then (f_X7_friendsItem (2 : Int32) σ3 (fun σ14 => (K σ14))) else (f_X7_takes 2 σ3 (fun b6 σ5 => (if b6 = true then (f_X7_weightItem σ5 (fun σ13 => (K σ13))) else (f_X7_takes 3 σ5 (fun b8 σ7 => (if b8 = true then (f_X7_heldItem σ7 (fun σ12 => (K σ12))) else (f_X7_kindHere σ7 (fun r10 σ9 => (f_X7_benchItem r10 σ9 (fun σ11 => (K σ11)))))))))))))))))
set_option maxRecDepth 100000 in
set_option maxHeartbeats 4000000 in
theorem C_X7_item {g : GG} {σ : Mm} {K : Mm → Prop} (h : f_X7_item σ K) : Ct g 1 M_X7_item (QV g 1 K) [.ref (gad g 0 0)] σ := by
  unfold f_X7_item at h
  refine Ct.of (L := [(0, .ref (gad g 0 0))]) (show plainName RX7 = true by decide) (Nat.le_of_ble_eq_true rfl) rfl ?_
  refine AW.aload_n dX7_item_0 0 rfl ?_
  refine AW.ldcwS (tx := "friends") (n := 0) dX7_item_1 (by decide) ?_
  refine AW.callVB [.ref (gaK g 0)] (C_X7_takes h) ok_X7_takes (id1_0_0) rfl rfl w_1259 rfl (Nat.le_of_ble_eq_true rfl) (Nat.le_of_ble_eq_true rfl) rfl dX7_item_4 (fun b2 σ1 h => ?_)
  refine AW.ifb_eq (tgt := 18) dX7_item_7 rfl (fun c => ?_) (fun c => ?_)
  · replace h := ite_f c h
    refine AW.aload_n dX7_item_18 0 rfl ?_
    refine AW.ldcwS (tx := "secret") (n := 1) dX7_item_19 (by decide) ?_
    refine AW.callVB [.ref (gaK g 1)] (C_X7_takes h) ok_X7_takes (id1_0_0) rfl rfl w_1259 rfl (Nat.le_of_ble_eq_true rfl) (Nat.le_of_ble_eq_true rfl) rfl dX7_item_22 (fun b4 σ3 h => ?_)
    refine AW.ifb_eq (tgt := 36) dX7_item_25 rfl (fun c => ?_) (fun c => ?_)
    · replace h := ite_f c h
      refine AW.aload_n dX7_item_36 0 rfl ?_
      refine AW.ldcwS (tx := "weight") (n := 2) dX7_item_37 (by decide) ?_
      refine AW.callVB [.ref (gaK g 2)] (C_X7_takes h) ok_X7_takes (id1_0_0) rfl rfl w_1259 rfl (Nat.le_of_ble_eq_true rfl) (Nat.le_of_ble_eq_true rfl) rfl dX7_item_40 (fun b6 σ5 h => ?_)
      refine AW.ifb_eq (tgt := 53) dX7_item_43 rfl (fun c => ?_) (fun c => ?_)
      · replace h := ite_f c h
        refine AW.aload_n dX7_item_53 0 rfl ?_
        refine AW.ldcwS (tx := "held") (n := 3) dX7_item_54 (by decide) ?_
        refine AW.callVB [.ref (gaK g 3)] (C_X7_takes h) ok_X7_takes (id1_0_0) rfl rfl w_1259 rfl (Nat.le_of_ble_eq_true rfl) (Nat.le_of_ble_eq_true rfl) rfl dX7_item_57 (fun b8 σ7 h => ?_)
        refine AW.ifb_eq (tgt := 70) dX7_item_60 rfl (fun c => ?_) (fun c => ?_)
        · replace h := ite_f c h
          refine AW.aload_n dX7_item_70 0 rfl ?_
          refine AW.aload_n dX7_item_71 0 rfl ?_
          refine AW.callVI [] (C_X7_kindHere h) ok_X7_kindHere (id1_0_0) rfl rfl w_1288 rfl (Nat.le_of_ble_eq_true rfl) (Nat.le_of_ble_eq_true rfl) rfl dX7_item_72 (fun r10 σ9 h => ?_)
          refine AW.callVV [.int r10] (C_X7_benchItem h) ok_X7_benchItem (id1_0_0) rfl rfl w_1299 rfl (Nat.le_of_ble_eq_true rfl) (Nat.le_of_ble_eq_true rfl) rfl dX7_item_75 (fun σ11 h => ?_)
          exact AW.vret rfl dX7_item_78 h
        · replace h := ite_t c h
          refine AW.aload_n dX7_item_63 0 rfl ?_
          refine AW.callVV [] (C_X7_heldItem h) ok_X7_heldItem (id1_0_0) rfl rfl w_1284 rfl (Nat.le_of_ble_eq_true rfl) (Nat.le_of_ble_eq_true rfl) rfl dX7_item_64 (fun σ12 h => ?_)
          refine AW.goto (tgt := 78) dX7_item_67 rfl ?_
          exact AW.vret rfl dX7_item_78 h
      · replace h := ite_t c h
        refine AW.aload_n dX7_item_46 0 rfl ?_
        refine AW.callVV [] (C_X7_weightItem h) ok_X7_weightItem (id1_0_0) rfl rfl w_1279 rfl (Nat.le_of_ble_eq_true rfl) (Nat.le_of_ble_eq_true rfl) rfl dX7_item_47 (fun σ13 h => ?_)
        refine AW.goto (tgt := 78) dX7_item_50 rfl ?_
        exact AW.vret rfl dX7_item_78 h
    · replace h := ite_t c h
      refine AW.aload_n dX7_item_28 0 rfl ?_
      refine AW.iconst (v := (2 : Int32)) dX7_item_29 rfl ?_
      refine AW.callVV [.int (2 : Int32)] (C_X7_friendsItem h) ok_X7_friendsItem (id1_0_0) rfl rfl w_1269 rfl (Nat.le_of_ble_eq_true rfl) (Nat.le_of_ble_eq_true rfl) rfl dX7_item_30 (fun σ14 h => ?_)
      refine AW.goto (tgt := 78) dX7_item_33 rfl ?_
      exact AW.vret rfl dX7_item_78 h
  · replace h := ite_t c h
    refine AW.aload_n dX7_item_10 0 rfl ?_
    refine AW.iconst (v := (1 : Int32)) dX7_item_11 rfl ?_
    refine AW.callVV [.int (1 : Int32)] (C_X7_friendsItem h) ok_X7_friendsItem (id1_0_0) rfl rfl w_1269 rfl (Nat.le_of_ble_eq_true rfl) (Nat.le_of_ble_eq_true rfl) rfl dX7_item_12 (fun σ15 h => ?_)
    refine AW.goto (tgt := 78) dX7_item_15 rfl ?_
    exact AW.vret rfl dX7_item_78 h
theorem ok_X7_item : OkV M_X7_item 0 := ⟨w_1256, wp_61, w_9, w_1257, by decide +kernel, (Nat.le_of_ble_eq_true rfl)⟩
def M_X7_isSign : MT := (yX7_isSign, cX7_isSign, 2, some .boolean, 1)
def f_X7_isSign (a1 : Int32) (σ : Mm) (K : Bool → Mm → Prop) : Prop := (if (σ 0 0 17) = 0 then (if (σ 0 0 13) = (3 : Int32) then (vp_in (σ 0 0 14) 120 ∧ (if (σ 9 0 ((σ 0 0 14).toNatClampNeg)) = a1 then (K true σ) else (K false σ))) else (K false σ)) else (K false σ))
set_option maxRecDepth 100000 in
set_option maxHeartbeats 4000000 in
theorem C_X7_isSign {g : GG} {a1 : Int32} {σ : Mm} {K : Bool → Mm → Prop} (h : f_X7_isSign a1 σ K) : Ct g 1 M_X7_isSign (QB g 1 K) [.ref (gad g 0 0), .int a1] σ := by
  unfold f_X7_isSign at h
  refine Ct.of (L := [(0, .ref (gad g 0 0)), (1, .int a1)]) (show plainName RX7 = true by decide) (Nat.le_of_ble_eq_true rfl) rfl ?_
  refine AW.aload_n dX7_isSign_0 0 rfl ?_
  refine AW.get (k := 17) (v := .int (σ 0 0 17)) (id1_0_0) rfl rfl inGX7 (Nat.le_of_ble_eq_true rfl) w_889 rfl dX7_isSign_1 ?_
  refine AW.if_ne (tgt := 32) dX7_isSign_4 rfl (fun c => ?_) (fun c => ?_)
  · replace h := ite_f c h
    refine AW.iconst (v := (0 : Int32)) dX7_isSign_32 rfl ?_
    exact AW.bret false rfl rfl dX7_isSign_33 h
  · replace h := ite_t c h
    refine AW.aload_n dX7_isSign_7 0 rfl ?_
    refine AW.get (k := 13) (v := .int (σ 0 0 13)) (id1_0_0) rfl rfl inGX7 (Nat.le_of_ble_eq_true rfl) w_885 rfl dX7_isSign_8 ?_
    refine AW.iconst (v := (3 : Int32)) dX7_isSign_11 rfl ?_
    refine AW.icmp_ne (tgt := 32) dX7_isSign_12 rfl (fun c => ?_) (fun c => ?_)
    · replace h := ite_f c h
      refine AW.iconst (v := (0 : Int32)) dX7_isSign_32 rfl ?_
      exact AW.bret false rfl rfl dX7_isSign_33 h
    · replace h := ite_t c h
      refine AW.aload_n dX7_isSign_15 0 rfl ?_
      refine AW.get (k := 11) (v := .ref (gad g 9 0)) (id1_0_0) rfl rfl inGX7 (Nat.le_of_ble_eq_true rfl) w_883 rfl dX7_isSign_16 ?_
      refine AW.aload_n dX7_isSign_19 0 rfl ?_
      refine AW.get (k := 14) (v := .int (σ 0 0 14)) (id1_0_0) rfl rfl inGX7 (Nat.le_of_ble_eq_true rfl) w_886 rfl dX7_isSign_20 ?_
      obtain ⟨hq1, h⟩ := h
      refine AW.iald (jn := ((σ 0 0 14).toNatClampNeg)) (id1_9_0) rfl hq1 rfl dX7_isSign_23 ?_
      refine AW.iload_n dX7_isSign_24 1 rfl ?_
      refine AW.icmp_ne (tgt := 32) dX7_isSign_25 rfl (fun c => ?_) (fun c => ?_)
      · replace h := ite_f c h
        refine AW.iconst (v := (0 : Int32)) dX7_isSign_32 rfl ?_
        exact AW.bret false rfl rfl dX7_isSign_33 h
      · replace h := ite_t c h
        refine AW.iconst (v := (1 : Int32)) dX7_isSign_28 rfl ?_
        refine AW.goto (tgt := 33) dX7_isSign_29 rfl ?_
        exact AW.bret true rfl rfl dX7_isSign_33 h
theorem ok_X7_isSign : OkV M_X7_isSign 1 := ⟨w_1311, wp_71, w_9, w_1312, by decide +kernel, (Nat.le_of_ble_eq_true rfl)⟩
def M_X7_text : MT := (yX7_text, cX7_text, 4, some .int, 9)
set_option maxRecDepth 100000 in
def f_X7_text_29 (K : Int32 → Mm → Prop) (k58 : Int32 → Mm → Prop) : Nat → Int32 → Int32 → Mm → Prop
  | 0, _, _, _ => False
  | n + 1, a1, a2, σ => (if a2 = 0 then (k58 a1 σ) else (f_X7_item σ (fun σ5 => (f_X7_isSign (59 : Int32) σ5 (fun b7 σ6 => (if b7 = true then (f_X7_token σ6 (fun σ8 => (f_X7_text_29 K k58 n (a1 + (1 : Int32)) (b2i b7) σ8))) else (f_X7_text_29 K k58 n (a1 + (1 : Int32)) (b2i b7) σ6)))))))
set_option maxRecDepth 100000 in
set_option maxHeartbeats 4000000 in
theorem T_X7_text_29 {g : GG} {K : Int32 → Mm → Prop} {k58 : Int32 → Mm → Prop} (hk58 : ∀ (x1 : Int32) (u : Mm), k58 x1 u → AW g 1 M_X7_text (QI g 1 K) 58 [(0, .ref (gad g 0 0)), (1, .int x1)] [] u) : ∀ (n : Nat) (a1 : Int32) (a2 : Int32) (σ : Mm), f_X7_text_29 K k58 n a1 a2 σ → AW g 1 M_X7_text (QI g 1 K) 29 [(0, .ref (gad g 0 0)), (1, .int a1), (2, .int a2)] [] σ := by
  intro n
  induction n with
  | zero => intro a1 a2 σ h; exact False.elim h
  | succ n ih =>
    intro a1 a2 σ h
    rw [f_X7_text_29] at h
    refine AW.iload_n dX7_text_29 2 rfl ?_
    refine AW.if_eq (tgt := 58) dX7_text_30 rfl (fun c => ?_) (fun c => ?_)
    · replace h := ite_t c h
      refine AW.eqL [0, 1] rfl ?_
      exact hk58 _ _ h
    · replace h := ite_f c h
      refine AW.aload_n dX7_text_33 0 rfl ?_
      refine AW.callVV [] (C_X7_item h) ok_X7_item (id1_0_0) rfl rfl w_1254 rfl (Nat.le_of_ble_eq_true rfl) (Nat.le_of_ble_eq_true rfl) rfl dX7_text_34 (fun σ5 h => ?_)
      refine AW.iinc (v := (a1 + (1 : Int32))) (L' := [(0, .ref (gad g 0 0)), (1, .int (a1 + (1 : Int32))), (2, .int a2)]) dX7_text_37 1 rfl rfl (Nat.le_of_ble_eq_true rfl) rfl ?_
      refine AW.aload_n dX7_text_40 0 rfl ?_
      refine AW.bipush (v := (59 : Int32)) dX7_text_41 rfl ?_
      refine AW.callVB [.int (59 : Int32)] (C_X7_isSign h) ok_X7_isSign (id1_0_0) rfl rfl w_1309 rfl (Nat.le_of_ble_eq_true rfl) (Nat.le_of_ble_eq_true rfl) rfl dX7_text_43 (fun b7 σ6 h => ?_)
      refine AW.istore_n (L' := [(0, .ref (gad g 0 0)), (1, .int (a1 + (1 : Int32))), (2, .int (b2i b7))]) dX7_text_46 (Nat.le_of_ble_eq_true rfl) rfl ?_
      refine AW.iload_n dX7_text_47 2 rfl ?_
      refine AW.ifb_eq (tgt := 29) dX7_text_48 rfl (fun c => ?_) (fun c => ?_)
      · replace h := ite_f c h
        exact ih _ _ _ h
      · replace h := ite_t c h
        refine AW.aload_n dX7_text_51 0 rfl ?_
        refine AW.callVV [] (C_X7_token h) ok_X7_token (id1_0_0) rfl rfl w_1246 rfl (Nat.le_of_ble_eq_true rfl) (Nat.le_of_ble_eq_true rfl) rfl dX7_text_52 (fun σ8 h => ?_)
        refine AW.goto (tgt := 29) dX7_text_55 rfl ?_
        exact ih _ _ _ h
def f_X7_text_78 (a1 : Int32) (as1 : Int32) (K : Int32 → Mm → Prop) (σ : Mm) : Prop := (bz as1 ∧ (∃ σ11, σ11 = mset σ 0 0 17 as1 ∧ (∃ σ12, σ12 = mset σ11 0 0 12 (0 : Int32) ∧ (if (σ12 0 0 17) = 0 then (K a1 σ12) else (f_X7_row_3_1 σ12 (fun σ13 => (K ((-1 : Int32) - (σ11 0 0 14)) σ13)))))))
set_option maxRecDepth 100000 in
set_option maxHeartbeats 4000000 in
theorem T_X7_text_78 {g : GG} {a1 : Int32} {as1 : Int32} {K : Int32 → Mm → Prop} {σ : Mm} (h : f_X7_text_78 a1 as1 K σ) : AW g 1 M_X7_text (QI g 1 K) 78 [(0, .ref (gad g 0 0)), (1, .int a1)] [.int as1, .ref (gad g 0 0)] σ := by
  unfold f_X7_text_78 at h
  obtain ⟨hb10, h⟩ := h
  refine AW.put (k := 17) (w := as1) (id1_0_0) rfl rfl inGX7 tyX7_ok nmX7 (Nat.le_of_ble_eq_true rfl) w_889 rfl rfl (bz_nar hb10) (bz_fit hb10) (Nat.le_of_ble_eq_true rfl) rfl dX7_text_78 ?_
  obtain ⟨σ11, eσ11, h⟩ := h
  rw [← eσ11]
  refine AW.aload_n dX7_text_81 0 rfl ?_
  refine AW.get (k := 14) (v := .int (σ11 0 0 14)) (id1_0_0) rfl rfl inGX7 (Nat.le_of_ble_eq_true rfl) w_886 rfl dX7_text_82 ?_
  refine AW.istore_n (L' := [(0, .ref (gad g 0 0)), (1, .int a1), (3, .int (σ11 0 0 14))]) dX7_text_85 (Nat.le_of_ble_eq_true rfl) rfl ?_
  refine AW.aload_n dX7_text_86 0 rfl ?_
  refine AW.iconst (v := (0 : Int32)) dX7_text_87 rfl ?_
  refine AW.put (k := 12) (w := (0 : Int32)) (id1_0_0) rfl rfl inGX7 tyX7_ok nmX7 (Nat.le_of_ble_eq_true rfl) w_884 rfl rfl rfl rfl (Nat.le_of_ble_eq_true rfl) rfl dX7_text_88 ?_
  obtain ⟨σ12, eσ12, h⟩ := h
  rw [← eσ12]
  refine AW.aload_n dX7_text_91 0 rfl ?_
  refine AW.get (k := 17) (v := .int (σ12 0 0 17)) (id1_0_0) rfl rfl inGX7 (Nat.le_of_ble_eq_true rfl) w_889 rfl dX7_text_92 ?_
  refine AW.if_ne (tgt := 100) dX7_text_95 rfl (fun c => ?_) (fun c => ?_)
  · replace h := ite_f c h
    refine AW.aload_n dX7_text_100 0 rfl ?_
    refine AW.get (k := 2) (v := .ref (gad g 3 0)) (id1_0_0) rfl rfl inGX7 (Nat.le_of_ble_eq_true rfl) w_874 rfl dX7_text_101 ?_
    refine AW.aload_n dX7_text_104 0 rfl ?_
    refine AW.get (k := 0) (v := .ref (gad g 1 0)) (id1_0_0) rfl rfl inGX7 (Nat.le_of_ble_eq_true rfl) w_872 rfl dX7_text_105 ?_
    refine AW.callSV [.ref (gad g 3 0), .ref (gad g 1 0)] (C_X7_row_3_1 h) ok_X7_row_3_1 w_1122 rfl (Nat.le_of_ble_eq_true rfl) (Nat.le_of_ble_eq_true rfl) rfl dX7_text_108 (fun σ13 h => ?_)
    refine AW.iconst (v := (-1 : Int32)) dX7_text_111 rfl ?_
    refine AW.iload_n dX7_text_112 2 rfl ?_
    refine AW.isub dX7_text_113 ?_
    exact AW.iret rfl dX7_text_114 h
  · replace h := ite_t c h
    refine AW.iload_n dX7_text_98 1 rfl ?_
    exact AW.iret rfl dX7_text_99 h
def f_X7_text_73 (a1 : Int32) (K : Int32 → Mm → Prop) (σ : Mm) : Prop := (f_X7_text_78 a1 (1 : Int32) K σ)
set_option maxRecDepth 100000 in
set_option maxHeartbeats 4000000 in
theorem T_X7_text_73 {g : GG} {a1 : Int32} {K : Int32 → Mm → Prop} {σ : Mm} (h : f_X7_text_73 a1 K σ) : AW g 1 M_X7_text (QI g 1 K) 73 [(0, .ref (gad g 0 0)), (1, .int a1)] [.ref (gad g 0 0)] σ := by
  unfold f_X7_text_73 at h
  refine AW.iconst (v := (1 : Int32)) dX7_text_73 rfl ?_
  refine AW.goto (tgt := 78) dX7_text_74 rfl ?_
  exact T_X7_text_78 h
def f_X7_text (σ : Mm) (K : Int32 → Mm → Prop) : Prop := (f_X7_row_1_3 σ (fun σ1 => (∃ σ2, σ2 = mset σ1 0 0 15 (0 : Int32) ∧ (∃ σ3, σ3 = mset σ2 0 0 17 (0 : Int32) ∧ (f_X7_token σ3 (fun σ4 => (∃ m, f_X7_text_29 K (fun a1x9 σ9 => (if (σ9 0 0 17) = 0 then (if (σ9 0 0 13) = 0 then (f_X7_text_78 a1x9 (0 : Int32) K σ9) else (f_X7_text_73 a1x9 K σ9)) else (f_X7_text_73 a1x9 K σ9))) m (0 : Int32) (1 : Int32) σ4)))))))
set_option maxRecDepth 100000 in
set_option maxHeartbeats 4000000 in
theorem C_X7_text {g : GG} {σ : Mm} {K : Int32 → Mm → Prop} (h : f_X7_text σ K) : Ct g 1 M_X7_text (QI g 1 K) [.ref (gad g 0 0)] σ := by
  unfold f_X7_text at h
  refine Ct.of (L := [(0, .ref (gad g 0 0))]) (show plainName RX7 = true by decide) (Nat.le_of_ble_eq_true rfl) rfl ?_
  refine AW.aload_n dX7_text_0 0 rfl ?_
  refine AW.get (k := 0) (v := .ref (gad g 1 0)) (id1_0_0) rfl rfl inGX7 (Nat.le_of_ble_eq_true rfl) w_872 rfl dX7_text_1 ?_
  refine AW.aload_n dX7_text_4 0 rfl ?_
  refine AW.get (k := 2) (v := .ref (gad g 3 0)) (id1_0_0) rfl rfl inGX7 (Nat.le_of_ble_eq_true rfl) w_874 rfl dX7_text_5 ?_
  refine AW.callSV [.ref (gad g 1 0), .ref (gad g 3 0)] (C_X7_row_1_3 h) ok_X7_row_1_3 w_1122 rfl (Nat.le_of_ble_eq_true rfl) (Nat.le_of_ble_eq_true rfl) rfl dX7_text_8 (fun σ1 h => ?_)
  refine AW.aload_n dX7_text_11 0 rfl ?_
  refine AW.iconst (v := (0 : Int32)) dX7_text_12 rfl ?_
  refine AW.put (k := 15) (w := (0 : Int32)) (id1_0_0) rfl rfl inGX7 tyX7_ok nmX7 (Nat.le_of_ble_eq_true rfl) w_887 rfl rfl rfl rfl (Nat.le_of_ble_eq_true rfl) rfl dX7_text_13 ?_
  obtain ⟨σ2, eσ2, h⟩ := h
  rw [← eσ2]
  refine AW.aload_n dX7_text_16 0 rfl ?_
  refine AW.iconst (v := (0 : Int32)) dX7_text_17 rfl ?_
  refine AW.put (k := 17) (w := (0 : Int32)) (id1_0_0) rfl rfl inGX7 tyX7_ok nmX7 (Nat.le_of_ble_eq_true rfl) w_889 rfl rfl rfl rfl (Nat.le_of_ble_eq_true rfl) rfl dX7_text_18 ?_
  obtain ⟨σ3, eσ3, h⟩ := h
  rw [← eσ3]
  refine AW.aload_n dX7_text_21 0 rfl ?_
  refine AW.callVV [] (C_X7_token h) ok_X7_token (id1_0_0) rfl rfl w_1246 rfl (Nat.le_of_ble_eq_true rfl) (Nat.le_of_ble_eq_true rfl) rfl dX7_text_22 (fun σ4 h => ?_)
  refine AW.iconst (v := (0 : Int32)) dX7_text_25 rfl ?_
  refine AW.istore_n (L' := [(0, .ref (gad g 0 0)), (1, .int (0 : Int32))]) dX7_text_26 (Nat.le_of_ble_eq_true rfl) rfl ?_
  refine AW.iconst (v := (1 : Int32)) dX7_text_27 rfl ?_
  refine AW.istore_n (L' := [(0, .ref (gad g 0 0)), (1, .int (0 : Int32)), (2, .int (1 : Int32))]) dX7_text_28 (Nat.le_of_ble_eq_true rfl) rfl ?_
  obtain ⟨m, h⟩ := h
  refine T_X7_text_29 (fun a1x9 σ9 h => ?_) m _ _ _ h
  refine AW.aload_n dX7_text_58 0 rfl ?_
  refine AW.aload_n dX7_text_59 0 rfl ?_
  refine AW.get (k := 17) (v := .int (σ9 0 0 17)) (id1_0_0) rfl rfl inGX7 (Nat.le_of_ble_eq_true rfl) w_889 rfl dX7_text_60 ?_
  refine AW.if_ne (tgt := 73) dX7_text_63 rfl (fun c => ?_) (fun c => ?_)
  · replace h := ite_f c h
    exact T_X7_text_73 h
  · replace h := ite_t c h
    refine AW.aload_n dX7_text_66 0 rfl ?_
    refine AW.get (k := 13) (v := .int (σ9 0 0 13)) (id1_0_0) rfl rfl inGX7 (Nat.le_of_ble_eq_true rfl) w_885 rfl dX7_text_67 ?_
    refine AW.if_eq (tgt := 77) dX7_text_70 rfl (fun c => ?_) (fun c => ?_)
    · replace h := ite_t c h
      refine AW.iconst (v := (0 : Int32)) dX7_text_77 rfl ?_
      exact T_X7_text_78 h
    · replace h := ite_f c h
      exact T_X7_text_73 h
theorem ok_X7_text : OkV M_X7_text 0 := ⟨w_1243, w_1244, w_9, w_1245, by decide +kernel, (Nat.le_of_ble_eq_true rfl)⟩
