def M_X7_shows : MT := (yX7_shows, cX7_shows, 7, some .int, 8)
set_option maxRecDepth 100000 in
def f_X7_shows_35 (K : Int32 → Mm → Prop) (k129 : Int64 → Mm → Prop) : Nat → Int64 → Int32 → Mm → Prop
  | 0, _, _, _ => False
  | n + 1, a2, a4, σ => (if (σ 0 0 7) ≤ a4 then (k129 a2 σ) else (vp_in a4 8 ∧ (if 0 ≤ (σ 5 0 (a4.toNatClampNeg)) then (f_X7_besideOf a4 (-1 : Int32) σ (fun r7 σ6 => (f_X7_besideOf a4 (1 : Int32) σ6 (fun r9 σ8 => (if r7 < 0 then (f_X7_shows_35 K k129 n a2 (a4 + (1 : Int32)) σ8) else (if r9 < 0 then (f_X7_shows_35 K k129 n a2 (a4 + (1 : Int32)) σ8) else (if r7 = r9 then (f_X7_shows_35 K k129 n a2 (a4 + (1 : Int32)) σ8) else (if r9 ≤ r7 then (f_X7_shows_35 K k129 n (a2 ||| ((1 : Int64) <<< (((((8 : Int32) * r9) + r7)).toInt64 &&& 63))) (a4 + (1 : Int32)) σ8) else (f_X7_shows_35 K k129 n (a2 ||| ((1 : Int64) <<< (((((8 : Int32) * r7) + r9)).toInt64 &&& 63))) (a4 + (1 : Int32)) σ8))))))))) else (f_X7_shows_35 K k129 n a2 (a4 + (1 : Int32)) σ))))
set_option maxRecDepth 100000 in
set_option maxHeartbeats 4000000 in
theorem T_X7_shows_35 {g : GG} {K : Int32 → Mm → Prop} {k129 : Int64 → Mm → Prop} (hk129 : ∀ (x2 : Int64) (u : Mm), k129 x2 u → AW g 1 M_X7_shows (QI g 1 K) 129 [(2, .long x2)] [] u) : ∀ (n : Nat) (a2 : Int64) (a4 : Int32) (σ : Mm), f_X7_shows_35 K k129 n a2 a4 σ → AW g 1 M_X7_shows (QI g 1 K) 35 [(0, .ref (gad g 0 0)), (2, .long a2), (4, .int a4)] [] σ := by
  intro n
  induction n with
  | zero => intro a2 a4 σ h; exact False.elim h
  | succ n ih =>
    intro a2 a4 σ h
    rw [f_X7_shows_35] at h
    refine AW.iload dX7_shows_35 2 rfl ?_
    refine AW.aload_n dX7_shows_37 0 rfl ?_
    refine AW.get (k := 7) (v := .int (σ 0 0 7)) (id1_0_0) rfl rfl inGX7 (Nat.le_of_ble_eq_true rfl) w_879 rfl dX7_shows_38 ?_
    refine AW.icmp_ge (tgt := 129) dX7_shows_41 rfl (fun c => ?_) (fun c => ?_)
    · replace h := ite_t c h
      refine AW.eqL [1] rfl ?_
      exact hk129 _ _ h
    · replace h := ite_f c h
      refine AW.aload_n dX7_shows_44 0 rfl ?_
      refine AW.get (k := 5) (v := .ref (gad g 5 0)) (id1_0_0) rfl rfl inGX7 (Nat.le_of_ble_eq_true rfl) w_877 rfl dX7_shows_45 ?_
      refine AW.iload dX7_shows_48 2 rfl ?_
      obtain ⟨hq5, h⟩ := h
      refine AW.iald (jn := (a4.toNatClampNeg)) (id1_5_0) rfl hq5 rfl dX7_shows_50 ?_
      refine AW.if_ge (tgt := 57) dX7_shows_51 rfl (fun c => ?_) (fun c => ?_)
      · replace h := ite_t c h
        refine AW.aload_n dX7_shows_57 0 rfl ?_
        refine AW.iload dX7_shows_58 2 rfl ?_
        refine AW.iconst (v := (-1 : Int32)) dX7_shows_60 rfl ?_
        refine AW.callVI [.int a4, .int (-1 : Int32)] (C_X7_besideOf h) ok_X7_besideOf (id1_0_0) rfl rfl w_1048 rfl (Nat.le_of_ble_eq_true rfl) (Nat.le_of_ble_eq_true rfl) rfl dX7_shows_61 (fun r7 σ6 h => ?_)
        refine AW.istore (L' := [(0, .ref (gad g 0 0)), (2, .long a2), (4, .int a4), (5, .int r7)]) dX7_shows_64 (Nat.le_of_ble_eq_true rfl) rfl ?_
        refine AW.aload_n dX7_shows_66 0 rfl ?_
        refine AW.iload dX7_shows_67 2 rfl ?_
        refine AW.iconst (v := (1 : Int32)) dX7_shows_69 rfl ?_
        refine AW.callVI [.int a4, .int (1 : Int32)] (C_X7_besideOf h) ok_X7_besideOf (id1_0_0) rfl rfl w_1048 rfl (Nat.le_of_ble_eq_true rfl) (Nat.le_of_ble_eq_true rfl) rfl dX7_shows_70 (fun r9 σ8 h => ?_)
        refine AW.istore (L' := [(0, .ref (gad g 0 0)), (2, .long a2), (4, .int a4), (5, .int r7), (6, .int r9)]) dX7_shows_73 (Nat.le_of_ble_eq_true rfl) rfl ?_
        refine AW.iload dX7_shows_75 3 rfl ?_
        refine AW.if_lt (tgt := 123) dX7_shows_77 rfl (fun c => ?_) (fun c => ?_)
        · replace h := ite_t c h
          refine AW.iinc (v := (a4 + (1 : Int32))) (L' := [(0, .ref (gad g 0 0)), (2, .long a2), (4, .int (a4 + (1 : Int32))), (5, .int r7), (6, .int r9)]) dX7_shows_123 2 rfl rfl (Nat.le_of_ble_eq_true rfl) rfl ?_
          refine AW.goto (tgt := 35) dX7_shows_126 rfl ?_
          refine AW.eqL [0, 1, 2] rfl ?_
          exact ih _ _ _ h
        · replace h := ite_f c h
          refine AW.iload dX7_shows_80 4 rfl ?_
          refine AW.if_lt (tgt := 123) dX7_shows_82 rfl (fun c => ?_) (fun c => ?_)
          · replace h := ite_t c h
            refine AW.iinc (v := (a4 + (1 : Int32))) (L' := [(0, .ref (gad g 0 0)), (2, .long a2), (4, .int (a4 + (1 : Int32))), (5, .int r7), (6, .int r9)]) dX7_shows_123 2 rfl rfl (Nat.le_of_ble_eq_true rfl) rfl ?_
            refine AW.goto (tgt := 35) dX7_shows_126 rfl ?_
            refine AW.eqL [0, 1, 2] rfl ?_
            exact ih _ _ _ h
          · replace h := ite_f c h
            refine AW.iload dX7_shows_85 3 rfl ?_
            refine AW.iload dX7_shows_87 4 rfl ?_
            refine AW.icmp_eq (tgt := 123) dX7_shows_89 rfl (fun c => ?_) (fun c => ?_)
            · replace h := ite_t c h
              refine AW.iinc (v := (a4 + (1 : Int32))) (L' := [(0, .ref (gad g 0 0)), (2, .long a2), (4, .int (a4 + (1 : Int32))), (5, .int r7), (6, .int r9)]) dX7_shows_123 2 rfl rfl (Nat.le_of_ble_eq_true rfl) rfl ?_
              refine AW.goto (tgt := 35) dX7_shows_126 rfl ?_
              refine AW.eqL [0, 1, 2] rfl ?_
              exact ih _ _ _ h
            · replace h := ite_f c h
              refine AW.lload_n dX7_shows_92 1 rfl ?_
              refine AW.lconst (v := (1 : Int64)) dX7_shows_93 rfl ?_
              refine AW.iload dX7_shows_94 3 rfl ?_
              refine AW.iload dX7_shows_96 4 rfl ?_
              refine AW.icmp_ge (tgt := 112) dX7_shows_98 rfl (fun c => ?_) (fun c => ?_)
              · replace h := ite_t c h
                refine AW.bipush (v := (8 : Int32)) dX7_shows_112 rfl ?_
                refine AW.iload dX7_shows_114 4 rfl ?_
                refine AW.imul dX7_shows_116 ?_
                refine AW.iload dX7_shows_117 3 rfl ?_
                refine AW.iadd dX7_shows_119 ?_
                refine AW.lshl dX7_shows_120 ?_
                refine AW.lor dX7_shows_121 ?_
                refine AW.lstore_n (L' := [(0, .ref (gad g 0 0)), (2, .long (a2 ||| ((1 : Int64) <<< (((((8 : Int32) * r9) + r7)).toInt64 &&& 63)))), (4, .int a4), (5, .int r7), (6, .int r9)]) dX7_shows_122 (Nat.le_of_ble_eq_true rfl) rfl ?_
                refine AW.iinc (v := (a4 + (1 : Int32))) (L' := [(0, .ref (gad g 0 0)), (2, .long (a2 ||| ((1 : Int64) <<< (((((8 : Int32) * r9) + r7)).toInt64 &&& 63)))), (4, .int (a4 + (1 : Int32))), (5, .int r7), (6, .int r9)]) dX7_shows_123 2 rfl rfl (Nat.le_of_ble_eq_true rfl) rfl ?_
                refine AW.goto (tgt := 35) dX7_shows_126 rfl ?_
                refine AW.eqL [0, 1, 2] rfl ?_
                exact ih _ _ _ h
              · replace h := ite_f c h
                refine AW.bipush (v := (8 : Int32)) dX7_shows_101 rfl ?_
                refine AW.iload dX7_shows_103 3 rfl ?_
                refine AW.imul dX7_shows_105 ?_
                refine AW.iload dX7_shows_106 4 rfl ?_
                refine AW.iadd dX7_shows_108 ?_
                refine AW.goto (tgt := 120) dX7_shows_109 rfl ?_
                refine AW.lshl dX7_shows_120 ?_
                refine AW.lor dX7_shows_121 ?_
                refine AW.lstore_n (L' := [(0, .ref (gad g 0 0)), (2, .long (a2 ||| ((1 : Int64) <<< (((((8 : Int32) * r7) + r9)).toInt64 &&& 63)))), (4, .int a4), (5, .int r7), (6, .int r9)]) dX7_shows_122 (Nat.le_of_ble_eq_true rfl) rfl ?_
                refine AW.iinc (v := (a4 + (1 : Int32))) (L' := [(0, .ref (gad g 0 0)), (2, .long (a2 ||| ((1 : Int64) <<< (((((8 : Int32) * r7) + r9)).toInt64 &&& 63)))), (4, .int (a4 + (1 : Int32))), (5, .int r7), (6, .int r9)]) dX7_shows_123 2 rfl rfl (Nat.le_of_ble_eq_true rfl) rfl ?_
                refine AW.goto (tgt := 35) dX7_shows_126 rfl ?_
                refine AW.eqL [0, 1, 2] rfl ?_
                exact ih _ _ _ h
      · replace h := ite_f c h
        refine AW.goto (tgt := 123) dX7_shows_54 rfl ?_
        refine AW.iinc (v := (a4 + (1 : Int32))) (L' := [(0, .ref (gad g 0 0)), (2, .long a2), (4, .int (a4 + (1 : Int32)))]) dX7_shows_123 2 rfl rfl (Nat.le_of_ble_eq_true rfl) rfl ?_
        refine AW.goto (tgt := 35) dX7_shows_126 rfl ?_
        exact ih _ _ _ h
set_option maxRecDepth 100000 in
def f_X7_shows_135 (a2 : Int64) (K : Int32 → Mm → Prop) : Nat → Int32 → Int32 → Mm → Prop
  | 0, _, _, _ => False
  | n + 1, a4, a5, σ => (if (64 : Int32) ≤ a5 then (K a4 σ) else (f_X7_shows_135 a2 K n (a4 + ((((((a2).toUInt64 >>> ((a5).toInt64.toUInt64 &&& Int64.toUInt64 63)).toInt64) &&& (1 : Int64))).toInt32)) (a5 + (1 : Int32)) σ))
set_option maxRecDepth 100000 in
set_option maxHeartbeats 4000000 in
theorem T_X7_shows_135 {g : GG} {a2 : Int64} {K : Int32 → Mm → Prop} : ∀ (n : Nat) (a4 : Int32) (a5 : Int32) (σ : Mm), f_X7_shows_135 a2 K n a4 a5 σ → AW g 1 M_X7_shows (QI g 1 K) 135 [(2, .long a2), (4, .int a4), (5, .int a5)] [] σ := by
  intro n
  induction n with
  | zero => intro a4 a5 σ h; exact False.elim h
  | succ n ih =>
    intro a4 a5 σ h
    rw [f_X7_shows_135] at h
    refine AW.iload dX7_shows_135 2 rfl ?_
    refine AW.bipush (v := (64 : Int32)) dX7_shows_137 rfl ?_
    refine AW.icmp_ge (tgt := 160) dX7_shows_139 rfl (fun c => ?_) (fun c => ?_)
    · replace h := ite_t c h
      refine AW.iload dX7_shows_160 1 rfl ?_
      exact AW.iret rfl dX7_shows_162 h
    · replace h := ite_f c h
      refine AW.iload dX7_shows_142 1 rfl ?_
      refine AW.lload_n dX7_shows_144 0 rfl ?_
      refine AW.iload dX7_shows_145 2 rfl ?_
      refine AW.lushr dX7_shows_147 ?_
      refine AW.lconst (v := (1 : Int64)) dX7_shows_148 rfl ?_
      refine AW.land dX7_shows_149 ?_
      refine AW.l2i dX7_shows_150 ?_
      refine AW.iadd dX7_shows_151 ?_
      refine AW.istore (L' := [(2, .long a2), (4, .int (a4 + ((((((a2).toUInt64 >>> ((a5).toInt64.toUInt64 &&& Int64.toUInt64 63)).toInt64) &&& (1 : Int64))).toInt32))), (5, .int a5)]) dX7_shows_152 (Nat.le_of_ble_eq_true rfl) rfl ?_
      refine AW.iinc (v := (a5 + (1 : Int32))) (L' := [(2, .long a2), (4, .int (a4 + ((((((a2).toUInt64 >>> ((a5).toInt64.toUInt64 &&& Int64.toUInt64 63)).toInt64) &&& (1 : Int64))).toInt32))), (5, .int (a5 + (1 : Int32)))]) dX7_shows_154 2 rfl rfl (Nat.le_of_ble_eq_true rfl) rfl ?_
      refine AW.goto (tgt := 135) dX7_shows_157 rfl ?_
      exact ih _ _ _ h
def f_X7_shows (a1 : Int32) (σ : Mm) (K : Int32 → Mm → Prop) : Prop := (f_X7_isBench a1 σ (fun b2 σ1 => (if b2 = true then (f_X7_holds a1 σ1 (fun b4 σ3 => (if b4 = true then (∃ m, f_X7_shows_35 K (fun a2x10 σ10 => (∃ m, f_X7_shows_135 a2x10 K m (0 : Int32) (0 : Int32) σ10)) m (0 : Int64) (0 : Int32) σ3) else (f_X7_finds (-1000005 : Int32) σ3 (fun r12 σ11 => (K r12 σ11)))))) else (f_X7_finds (-1000001 : Int32) σ1 (fun r14 σ13 => (K r14 σ13))))))
set_option maxRecDepth 100000 in
set_option maxHeartbeats 4000000 in
theorem C_X7_shows {g : GG} {a1 : Int32} {σ : Mm} {K : Int32 → Mm → Prop} (h : f_X7_shows a1 σ K) : Ct g 1 M_X7_shows (QI g 1 K) [.ref (gad g 0 0), .int a1] σ := by
  unfold f_X7_shows at h
  refine Ct.of (L := [(0, .ref (gad g 0 0)), (1, .int a1)]) (show plainName RX7 = true by decide) (Nat.le_of_ble_eq_true rfl) rfl ?_
  refine AW.aload_n dX7_shows_0 0 rfl ?_
  refine AW.iload_n dX7_shows_1 1 rfl ?_
  refine AW.callVB [.int a1] (C_X7_isBench h) ok_X7_isBench (id1_0_0) rfl rfl w_1015 rfl (Nat.le_of_ble_eq_true rfl) (Nat.le_of_ble_eq_true rfl) rfl dX7_shows_2 (fun b2 σ1 h => ?_)
  refine AW.ifb_ne (tgt := 15) dX7_shows_5 rfl (fun c => ?_) (fun c => ?_)
  · replace h := ite_t c h
    refine AW.aload_n dX7_shows_15 0 rfl ?_
    refine AW.iload_n dX7_shows_16 1 rfl ?_
    refine AW.callVB [.int a1] (C_X7_holds h) ok_X7_holds (id1_0_0) rfl rfl w_1098 rfl (Nat.le_of_ble_eq_true rfl) (Nat.le_of_ble_eq_true rfl) rfl dX7_shows_17 (fun b4 σ3 h => ?_)
    refine AW.ifb_ne (tgt := 30) dX7_shows_20 rfl (fun c => ?_) (fun c => ?_)
    · replace h := ite_t c h
      refine AW.lconst (v := (0 : Int64)) dX7_shows_30 rfl ?_
      refine AW.lstore_n (L' := [(0, .ref (gad g 0 0)), (1, .int a1), (2, .long (0 : Int64))]) dX7_shows_31 (Nat.le_of_ble_eq_true rfl) rfl ?_
      refine AW.iconst (v := (0 : Int32)) dX7_shows_32 rfl ?_
      refine AW.istore (L' := [(0, .ref (gad g 0 0)), (1, .int a1), (2, .long (0 : Int64)), (4, .int (0 : Int32))]) dX7_shows_33 (Nat.le_of_ble_eq_true rfl) rfl ?_
      obtain ⟨m, h⟩ := h
      refine AW.eqL [0, 2, 3] rfl ?_
      refine T_X7_shows_35 (fun a2x10 σ10 h => ?_) m _ _ _ h
      refine AW.iconst (v := (0 : Int32)) dX7_shows_129 rfl ?_
      refine AW.istore (L' := [(2, .long a2x10), (4, .int (0 : Int32))]) dX7_shows_130 (Nat.le_of_ble_eq_true rfl) rfl ?_
      refine AW.iconst (v := (0 : Int32)) dX7_shows_132 rfl ?_
      refine AW.istore (L' := [(2, .long a2x10), (4, .int (0 : Int32)), (5, .int (0 : Int32))]) dX7_shows_133 (Nat.le_of_ble_eq_true rfl) rfl ?_
      obtain ⟨m, h⟩ := h
      refine T_X7_shows_135 m _ _ _ h
    · replace h := ite_f c h
      refine AW.aload_n dX7_shows_23 0 rfl ?_
      refine AW.ldc (v := (-1000005 : Int32)) dX7_shows_24 w_1089 ?_
      refine AW.callVI [.int (-1000005 : Int32)] (C_X7_finds h) ok_X7_finds (id1_0_0) rfl rfl w_952 rfl (Nat.le_of_ble_eq_true rfl) (Nat.le_of_ble_eq_true rfl) rfl dX7_shows_26 (fun r12 σ11 h => ?_)
      exact AW.iret rfl dX7_shows_29 h
  · replace h := ite_f c h
    refine AW.aload_n dX7_shows_8 0 rfl ?_
    refine AW.ldc (v := (-1000001 : Int32)) dX7_shows_9 w_951 ?_
    refine AW.callVI [.int (-1000001 : Int32)] (C_X7_finds h) ok_X7_finds (id1_0_0) rfl rfl w_952 rfl (Nat.le_of_ble_eq_true rfl) (Nat.le_of_ble_eq_true rfl) rfl dX7_shows_11 (fun r14 σ13 h => ?_)
    exact AW.iret rfl dX7_shows_14 h
theorem ok_X7_shows : OkV M_X7_shows 1 := ⟨w_1215, w_1216, w_9, w_1217, by decide +kernel, (Nat.le_of_ble_eq_true rfl)⟩
def M_X7_goesOn : MT := (yX7_goesOn, cX7_goesOn, 4, none, 2)
set_option maxRecDepth 100000 in
def f_X7_goesOn_20 (a1 : Int32) (a2 : Int32) (K : Mm → Prop) : Nat → Int32 → Mm → Prop
  | 0, _, _ => False
  | n + 1, a3, σ => (if (σ 0 0 7) ≤ a3 then (K σ) else (¬ (σ 0 0 7) = 0 ∧ (f_X7_at a1 a3 σ (fun r9 σ8 => (vp_in r9 136 ∧ (vp_in ((a3 + a2) - (a3 + a2) / (σ 0 0 7) * (σ 0 0 7)) 8 ∧ (∃ σ12, σ12 = mset σ8 5 0 (((a3 + a2) - (a3 + a2) / (σ 0 0 7) * (σ 0 0 7)).toNatClampNeg) (σ8 1 0 (r9.toNatClampNeg)) ∧ (f_X7_goesOn_20 a1 a2 K n (a3 + (1 : Int32)) σ12))))))))
set_option maxRecDepth 100000 in
set_option maxHeartbeats 4000000 in
theorem T_X7_goesOn_20 {g : GG} {a1 : Int32} {a2 : Int32} {K : Mm → Prop} : ∀ (n : Nat) (a3 : Int32) (σ : Mm), f_X7_goesOn_20 a1 a2 K n a3 σ → AW g 1 M_X7_goesOn (QV g 1 K) 20 [(0, .ref (gad g 0 0)), (1, .int a1), (2, .int a2), (3, .int a3)] [] σ := by
  intro n
  induction n with
  | zero => intro a3 σ h; exact False.elim h
  | succ n ih =>
    intro a3 σ h
    rw [f_X7_goesOn_20] at h
    refine AW.iload_n dX7_goesOn_20 3 rfl ?_
    refine AW.aload_n dX7_goesOn_21 0 rfl ?_
    refine AW.get (k := 7) (v := .int (σ 0 0 7)) (id1_0_0) rfl rfl inGX7 (Nat.le_of_ble_eq_true rfl) w_879 rfl dX7_goesOn_22 ?_
    refine AW.icmp_ge (tgt := 57) dX7_goesOn_25 rfl (fun c => ?_) (fun c => ?_)
    · replace h := ite_t c h
      exact AW.vret rfl dX7_goesOn_57 h
    · replace h := ite_f c h
      refine AW.aload_n dX7_goesOn_28 0 rfl ?_
      refine AW.get (k := 5) (v := .ref (gad g 5 0)) (id1_0_0) rfl rfl inGX7 (Nat.le_of_ble_eq_true rfl) w_877 rfl dX7_goesOn_29 ?_
      refine AW.iload_n dX7_goesOn_32 3 rfl ?_
      refine AW.iload_n dX7_goesOn_33 2 rfl ?_
      refine AW.iadd dX7_goesOn_34 ?_
      refine AW.aload_n dX7_goesOn_35 0 rfl ?_
      refine AW.get (k := 7) (v := .int (σ 0 0 7)) (id1_0_0) rfl rfl inGX7 (Nat.le_of_ble_eq_true rfl) w_879 rfl dX7_goesOn_36 ?_
      obtain ⟨hz7, h⟩ := h
      refine AW.irem dX7_goesOn_39 hz7 ?_
      refine AW.aload_n dX7_goesOn_40 0 rfl ?_
      refine AW.get (k := 0) (v := .ref (gad g 1 0)) (id1_0_0) rfl rfl inGX7 (Nat.le_of_ble_eq_true rfl) w_872 rfl dX7_goesOn_41 ?_
      refine AW.iload_n dX7_goesOn_44 1 rfl ?_
      refine AW.iload_n dX7_goesOn_45 3 rfl ?_
      refine AW.callSI [.int a1, .int a3] (C_X7_at h) ok_X7_at w_1008 rfl (Nat.le_of_ble_eq_true rfl) (Nat.le_of_ble_eq_true rfl) rfl dX7_goesOn_46 (fun r9 σ8 h => ?_)
      obtain ⟨hq10, h⟩ := h
      refine AW.iald (jn := (r9.toNatClampNeg)) (id1_1_0) rfl hq10 rfl dX7_goesOn_49 ?_
      obtain ⟨hq11, h⟩ := h
      refine AW.iast (jn := (((a3 + a2) - (a3 + a2) / (σ 0 0 7) * (σ 0 0 7)).toNatClampNeg)) (id1_5_0) (fun _ => rfl) hq11 rfl dX7_goesOn_50 ?_
      obtain ⟨σ12, eσ12, h⟩ := h
      rw [← eσ12]
      refine AW.iinc (v := (a3 + (1 : Int32))) (L' := [(0, .ref (gad g 0 0)), (1, .int a1), (2, .int a2), (3, .int (a3 + (1 : Int32)))]) dX7_goesOn_51 3 rfl rfl (Nat.le_of_ble_eq_true rfl) rfl ?_
      refine AW.goto (tgt := 20) dX7_goesOn_54 rfl ?_
      exact ih _ _ h
def f_X7_goesOn (a1 : Int32) (a2 : Int32) (σ : Mm) (K : Mm → Prop) : Prop := (f_X7_kindOf a1 σ (fun r2 σ1 => (∃ σ3, σ3 = mset σ1 0 0 6 r2 ∧ (f_X7_seatsOf a1 σ3 (fun r5 σ4 => (∃ σ6, σ6 = mset σ4 0 0 7 r5 ∧ (∃ m, f_X7_goesOn_20 a1 a2 K m (0 : Int32) σ6)))))))
set_option maxRecDepth 100000 in
set_option maxHeartbeats 4000000 in
theorem C_X7_goesOn {g : GG} {a1 : Int32} {a2 : Int32} {σ : Mm} {K : Mm → Prop} (h : f_X7_goesOn a1 a2 σ K) : Ct g 1 M_X7_goesOn (QV g 1 K) [.ref (gad g 0 0), .int a1, .int a2] σ := by
  unfold f_X7_goesOn at h
  refine Ct.of (L := [(0, .ref (gad g 0 0)), (1, .int a1), (2, .int a2)]) (show plainName RX7 = true by decide) (Nat.le_of_ble_eq_true rfl) rfl ?_
  refine AW.aload_n dX7_goesOn_0 0 rfl ?_
  refine AW.aload_n dX7_goesOn_1 0 rfl ?_
  refine AW.iload_n dX7_goesOn_2 1 rfl ?_
  refine AW.callVI [.int a1] (C_X7_kindOf h) ok_X7_kindOf (id1_0_0) rfl rfl w_1024 rfl (Nat.le_of_ble_eq_true rfl) (Nat.le_of_ble_eq_true rfl) rfl dX7_goesOn_3 (fun r2 σ1 h => ?_)
  refine AW.put (k := 6) (w := r2) (id1_0_0) rfl rfl inGX7 tyX7_ok nmX7 (Nat.le_of_ble_eq_true rfl) w_878 rfl rfl rfl rfl (Nat.le_of_ble_eq_true rfl) rfl dX7_goesOn_6 ?_
  obtain ⟨σ3, eσ3, h⟩ := h
  rw [← eσ3]
  refine AW.aload_n dX7_goesOn_9 0 rfl ?_
  refine AW.aload_n dX7_goesOn_10 0 rfl ?_
  refine AW.iload_n dX7_goesOn_11 1 rfl ?_
  refine AW.callVI [.int a1] (C_X7_seatsOf h) ok_X7_seatsOf (id1_0_0) rfl rfl w_1028 rfl (Nat.le_of_ble_eq_true rfl) (Nat.le_of_ble_eq_true rfl) rfl dX7_goesOn_12 (fun r5 σ4 h => ?_)
  refine AW.put (k := 7) (w := r5) (id1_0_0) rfl rfl inGX7 tyX7_ok nmX7 (Nat.le_of_ble_eq_true rfl) w_879 rfl rfl rfl rfl (Nat.le_of_ble_eq_true rfl) rfl dX7_goesOn_15 ?_
  obtain ⟨σ6, eσ6, h⟩ := h
  rw [← eσ6]
  refine AW.iconst (v := (0 : Int32)) dX7_goesOn_18 rfl ?_
  refine AW.istore_n (L' := [(0, .ref (gad g 0 0)), (1, .int a1), (2, .int a2), (3, .int (0 : Int32))]) dX7_goesOn_19 (Nat.le_of_ble_eq_true rfl) rfl ?_
  obtain ⟨m, h⟩ := h
  refine T_X7_goesOn_20 m _ _ h
theorem ok_X7_goesOn : OkV M_X7_goesOn 2 := ⟨w_1224, wp_58, w_9, w_1225, by decide +kernel, (Nat.le_of_ble_eq_true rfl)⟩
def M_X7_course : MT := (yX7_course, cX7_course, 3, some .int, 7)
def f_X7_course (a1 : Int32) (a2 : Int32) (σ : Mm) (K : Int32 → Mm → Prop) : Prop := (f_X7_isBench a1 σ (fun b2 σ1 => (if b2 = true then (f_X7_in ((a2).toInt64) (1 : Int64) (7 : Int64) σ1 (fun b6 σ5 => (if b6 = true then (f_X7_goesOn a1 a2 σ5 (fun σ7 => (f_X7_laysDown a1 σ7 (fun σ8 => (f_X7_holdsNow σ8 (fun b10 σ9 => (if b10 = true then (K (1 : Int32) σ9) else (K (0 : Int32) σ9)))))))) else (f_X7_finds (-1000001 : Int32) σ5 (fun r12 σ11 => (K r12 σ11)))))) else (f_X7_finds (-1000001 : Int32) σ1 (fun r4 σ3 => (K r4 σ3))))))
set_option maxRecDepth 100000 in
set_option maxHeartbeats 4000000 in
theorem C_X7_course {g : GG} {a1 : Int32} {a2 : Int32} {σ : Mm} {K : Int32 → Mm → Prop} (h : f_X7_course a1 a2 σ K) : Ct g 1 M_X7_course (QI g 1 K) [.ref (gad g 0 0), .int a1, .int a2] σ := by
  unfold f_X7_course at h
  refine Ct.of (L := [(0, .ref (gad g 0 0)), (1, .int a1), (2, .int a2)]) (show plainName RX7 = true by decide) (Nat.le_of_ble_eq_true rfl) rfl ?_
  refine AW.aload_n dX7_course_0 0 rfl ?_
  refine AW.iload_n dX7_course_1 1 rfl ?_
  refine AW.callVB [.int a1] (C_X7_isBench h) ok_X7_isBench (id1_0_0) rfl rfl w_1015 rfl (Nat.le_of_ble_eq_true rfl) (Nat.le_of_ble_eq_true rfl) rfl dX7_course_2 (fun b2 σ1 h => ?_)
  refine AW.ifb_eq (tgt := 20) dX7_course_5 rfl (fun c => ?_) (fun c => ?_)
  · replace h := ite_f c h
    refine AW.aload_n dX7_course_20 0 rfl ?_
    refine AW.ldc (v := (-1000001 : Int32)) dX7_course_21 w_951 ?_
    refine AW.callVI [.int (-1000001 : Int32)] (C_X7_finds h) ok_X7_finds (id1_0_0) rfl rfl w_952 rfl (Nat.le_of_ble_eq_true rfl) (Nat.le_of_ble_eq_true rfl) rfl dX7_course_23 (fun r4 σ3 h => ?_)
    exact AW.iret rfl dX7_course_26 h
  · replace h := ite_t c h
    refine AW.iload_n dX7_course_8 2 rfl ?_
    refine AW.i2l dX7_course_9 ?_
    refine AW.lconst (v := (1 : Int64)) dX7_course_10 rfl ?_
    refine AW.ldc2 (v := (7 : Int64)) dX7_course_11 w_946 ?_
    refine AW.callSB [.long ((a2).toInt64), .long (1 : Int64), .long (7 : Int64)] (C_X7_in h) ok_X7_in w_947 rfl (Nat.le_of_ble_eq_true rfl) (Nat.le_of_ble_eq_true rfl) rfl dX7_course_14 (fun b6 σ5 h => ?_)
    refine AW.ifb_ne (tgt := 27) dX7_course_17 rfl (fun c => ?_) (fun c => ?_)
    · replace h := ite_t c h
      refine AW.aload_n dX7_course_27 0 rfl ?_
      refine AW.iload_n dX7_course_28 1 rfl ?_
      refine AW.iload_n dX7_course_29 2 rfl ?_
      refine AW.callVV [.int a1, .int a2] (C_X7_goesOn h) ok_X7_goesOn (id1_0_0) rfl rfl w_1222 rfl (Nat.le_of_ble_eq_true rfl) (Nat.le_of_ble_eq_true rfl) rfl dX7_course_30 (fun σ7 h => ?_)
      refine AW.aload_n dX7_course_33 0 rfl ?_
      refine AW.iload_n dX7_course_34 1 rfl ?_
      refine AW.callVV [.int a1] (C_X7_laysDown h) ok_X7_laysDown (id1_0_0) rfl rfl w_1166 rfl (Nat.le_of_ble_eq_true rfl) (Nat.le_of_ble_eq_true rfl) rfl dX7_course_35 (fun σ8 h => ?_)
      refine AW.aload_n dX7_course_38 0 rfl ?_
      refine AW.callVB [] (C_X7_holdsNow h) ok_X7_holdsNow (id1_0_0) rfl rfl w_1040 rfl (Nat.le_of_ble_eq_true rfl) (Nat.le_of_ble_eq_true rfl) rfl dX7_course_39 (fun b10 σ9 h => ?_)
      refine AW.ifb_eq (tgt := 49) dX7_course_42 rfl (fun c => ?_) (fun c => ?_)
      · replace h := ite_f c h
        refine AW.iconst (v := (0 : Int32)) dX7_course_49 rfl ?_
        exact AW.iret rfl dX7_course_50 h
      · replace h := ite_t c h
        refine AW.iconst (v := (1 : Int32)) dX7_course_45 rfl ?_
        refine AW.goto (tgt := 50) dX7_course_46 rfl ?_
        exact AW.iret rfl dX7_course_50 h
    · replace h := ite_f c h
      refine AW.aload_n dX7_course_20 0 rfl ?_
      refine AW.ldc (v := (-1000001 : Int32)) dX7_course_21 w_951 ?_
      refine AW.callVI [.int (-1000001 : Int32)] (C_X7_finds h) ok_X7_finds (id1_0_0) rfl rfl w_952 rfl (Nat.le_of_ble_eq_true rfl) (Nat.le_of_ble_eq_true rfl) rfl dX7_course_23 (fun r12 σ11 h => ?_)
      exact AW.iret rfl dX7_course_26 h
theorem ok_X7_course : OkV M_X7_course 2 := ⟨w_1219, w_1220, w_9, w_1221, by decide +kernel, (Nat.le_of_ble_eq_true rfl)⟩
def M_X7_turns : MT := (yX7_turns, cX7_turns, 4, some .int, 7)
set_option maxRecDepth 100000 in
def f_X7_turns_19 (a1 : Int32) (K : Int32 → Mm → Prop) : Nat → Int32 → Int32 → Mm → Prop
  | 0, _, _, _ => False
  | n + 1, a2, a3, σ => (f_X7_seatsOf a1 σ (fun r4 σ3 => (if r4 ≤ a3 then (K a2 σ3) else (f_X7_goesOn a1 a3 σ3 (fun σ5 => (f_X7_holdsNow σ5 (fun b7 σ6 => (if b7 = true then (f_X7_turns_19 a1 K n (a2 + (1 : Int32)) (a3 + (1 : Int32)) σ6) else (f_X7_turns_19 a1 K n (a2 + (0 : Int32)) (a3 + (1 : Int32)) σ6)))))))))
set_option maxRecDepth 100000 in
set_option maxHeartbeats 4000000 in
theorem T_X7_turns_19 {g : GG} {a1 : Int32} {K : Int32 → Mm → Prop} : ∀ (n : Nat) (a2 : Int32) (a3 : Int32) (σ : Mm), f_X7_turns_19 a1 K n a2 a3 σ → AW g 1 M_X7_turns (QI g 1 K) 19 [(0, .ref (gad g 0 0)), (1, .int a1), (2, .int a2), (3, .int a3)] [] σ := by
  intro n
  induction n with
  | zero => intro a2 a3 σ h; exact False.elim h
  | succ n ih =>
    intro a2 a3 σ h
    rw [f_X7_turns_19] at h
    refine AW.iload_n dX7_turns_19 3 rfl ?_
    refine AW.aload_n dX7_turns_20 0 rfl ?_
    refine AW.iload_n dX7_turns_21 1 rfl ?_
    refine AW.callVI [.int a1] (C_X7_seatsOf h) ok_X7_seatsOf (id1_0_0) rfl rfl w_1028 rfl (Nat.le_of_ble_eq_true rfl) (Nat.le_of_ble_eq_true rfl) rfl dX7_turns_22 (fun r4 σ3 h => ?_)
    refine AW.icmp_ge (tgt := 55) dX7_turns_25 rfl (fun c => ?_) (fun c => ?_)
    · replace h := ite_t c h
      refine AW.iload_n dX7_turns_55 2 rfl ?_
      exact AW.iret rfl dX7_turns_56 h
    · replace h := ite_f c h
      refine AW.aload_n dX7_turns_28 0 rfl ?_
      refine AW.iload_n dX7_turns_29 1 rfl ?_
      refine AW.iload_n dX7_turns_30 3 rfl ?_
      refine AW.callVV [.int a1, .int a3] (C_X7_goesOn h) ok_X7_goesOn (id1_0_0) rfl rfl w_1222 rfl (Nat.le_of_ble_eq_true rfl) (Nat.le_of_ble_eq_true rfl) rfl dX7_turns_31 (fun σ5 h => ?_)
      refine AW.iload_n dX7_turns_34 2 rfl ?_
      refine AW.aload_n dX7_turns_35 0 rfl ?_
      refine AW.callVB [] (C_X7_holdsNow h) ok_X7_holdsNow (id1_0_0) rfl rfl w_1040 rfl (Nat.le_of_ble_eq_true rfl) (Nat.le_of_ble_eq_true rfl) rfl dX7_turns_36 (fun b7 σ6 h => ?_)
      refine AW.ifb_eq (tgt := 46) dX7_turns_39 rfl (fun c => ?_) (fun c => ?_)
      · replace h := ite_f c h
        refine AW.iconst (v := (0 : Int32)) dX7_turns_46 rfl ?_
        refine AW.iadd dX7_turns_47 ?_
        refine AW.istore_n (L' := [(0, .ref (gad g 0 0)), (1, .int a1), (2, .int (a2 + (0 : Int32))), (3, .int a3)]) dX7_turns_48 (Nat.le_of_ble_eq_true rfl) rfl ?_
        refine AW.iinc (v := (a3 + (1 : Int32))) (L' := [(0, .ref (gad g 0 0)), (1, .int a1), (2, .int (a2 + (0 : Int32))), (3, .int (a3 + (1 : Int32)))]) dX7_turns_49 3 rfl rfl (Nat.le_of_ble_eq_true rfl) rfl ?_
        refine AW.goto (tgt := 19) dX7_turns_52 rfl ?_
        exact ih _ _ _ h
      · replace h := ite_t c h
        refine AW.iconst (v := (1 : Int32)) dX7_turns_42 rfl ?_
        refine AW.goto (tgt := 47) dX7_turns_43 rfl ?_
        refine AW.iadd dX7_turns_47 ?_
        refine AW.istore_n (L' := [(0, .ref (gad g 0 0)), (1, .int a1), (2, .int (a2 + (1 : Int32))), (3, .int a3)]) dX7_turns_48 (Nat.le_of_ble_eq_true rfl) rfl ?_
        refine AW.iinc (v := (a3 + (1 : Int32))) (L' := [(0, .ref (gad g 0 0)), (1, .int a1), (2, .int (a2 + (1 : Int32))), (3, .int (a3 + (1 : Int32)))]) dX7_turns_49 3 rfl rfl (Nat.le_of_ble_eq_true rfl) rfl ?_
        refine AW.goto (tgt := 19) dX7_turns_52 rfl ?_
        exact ih _ _ _ h
def f_X7_turns (a1 : Int32) (σ : Mm) (K : Int32 → Mm → Prop) : Prop := (f_X7_isBench a1 σ (fun b2 σ1 => (if b2 = true then (∃ m, f_X7_turns_19 a1 K m (0 : Int32) (0 : Int32) σ1) else (f_X7_finds (-1000001 : Int32) σ1 (fun r9 σ8 => (K r9 σ8))))))
set_option maxRecDepth 100000 in
set_option maxHeartbeats 4000000 in
theorem C_X7_turns {g : GG} {a1 : Int32} {σ : Mm} {K : Int32 → Mm → Prop} (h : f_X7_turns a1 σ K) : Ct g 1 M_X7_turns (QI g 1 K) [.ref (gad g 0 0), .int a1] σ := by
  unfold f_X7_turns at h
  refine Ct.of (L := [(0, .ref (gad g 0 0)), (1, .int a1)]) (show plainName RX7 = true by decide) (Nat.le_of_ble_eq_true rfl) rfl ?_
  refine AW.aload_n dX7_turns_0 0 rfl ?_
  refine AW.iload_n dX7_turns_1 1 rfl ?_
  refine AW.callVB [.int a1] (C_X7_isBench h) ok_X7_isBench (id1_0_0) rfl rfl w_1015 rfl (Nat.le_of_ble_eq_true rfl) (Nat.le_of_ble_eq_true rfl) rfl dX7_turns_2 (fun b2 σ1 h => ?_)
  refine AW.ifb_ne (tgt := 15) dX7_turns_5 rfl (fun c => ?_) (fun c => ?_)
  · replace h := ite_t c h
    refine AW.iconst (v := (0 : Int32)) dX7_turns_15 rfl ?_
    refine AW.istore_n (L' := [(0, .ref (gad g 0 0)), (1, .int a1), (2, .int (0 : Int32))]) dX7_turns_16 (Nat.le_of_ble_eq_true rfl) rfl ?_
    refine AW.iconst (v := (0 : Int32)) dX7_turns_17 rfl ?_
    refine AW.istore_n (L' := [(0, .ref (gad g 0 0)), (1, .int a1), (2, .int (0 : Int32)), (3, .int (0 : Int32))]) dX7_turns_18 (Nat.le_of_ble_eq_true rfl) rfl ?_
    obtain ⟨m, h⟩ := h
    refine T_X7_turns_19 m _ _ _ h
  · replace h := ite_f c h
    refine AW.aload_n dX7_turns_8 0 rfl ?_
    refine AW.ldc (v := (-1000001 : Int32)) dX7_turns_9 w_951 ?_
    refine AW.callVI [.int (-1000001 : Int32)] (C_X7_finds h) ok_X7_finds (id1_0_0) rfl rfl w_952 rfl (Nat.le_of_ble_eq_true rfl) (Nat.le_of_ble_eq_true rfl) rfl dX7_turns_11 (fun r9 σ8 h => ?_)
    exact AW.iret rfl dX7_turns_14 h
theorem ok_X7_turns : OkV M_X7_turns 1 := ⟨w_1227, w_1228, w_9, w_1229, by decide +kernel, (Nat.le_of_ble_eq_true rfl)⟩
def M_X7_seed : MT := (yX7_seed, cX7_seed, 2, some .int, 2)
def f_X7_seed (a1 : Int32) (σ : Mm) (K : Int32 → Mm → Prop) : Prop := (f_X7_becomes (2 : Int32) a1 σ (fun r2 σ1 => (K r2 σ1)))
set_option maxRecDepth 100000 in
set_option maxHeartbeats 4000000 in
theorem C_X7_seed {g : GG} {a1 : Int32} {σ : Mm} {K : Int32 → Mm → Prop} (h : f_X7_seed a1 σ K) : Ct g 1 M_X7_seed (QI g 1 K) [.ref (gad g 0 0), .int a1] σ := by
  unfold f_X7_seed at h
  refine Ct.of (L := [(0, .ref (gad g 0 0)), (1, .int a1)]) (show plainName RX7 = true by decide) (Nat.le_of_ble_eq_true rfl) rfl ?_
  refine AW.aload_n dX7_seed_0 0 rfl ?_
  refine AW.iconst (v := (2 : Int32)) dX7_seed_1 rfl ?_
  refine AW.iload_n dX7_seed_2 1 rfl ?_
  refine AW.callVI [.int (2 : Int32), .int a1] (C_X7_becomes h) ok_X7_becomes (id1_0_0) rfl rfl w_973 rfl (Nat.le_of_ble_eq_true rfl) (Nat.le_of_ble_eq_true rfl) rfl dX7_seed_3 (fun r2 σ1 h => ?_)
  exact AW.iret rfl dX7_seed_6 h
theorem ok_X7_seed : OkV M_X7_seed 1 := ⟨w_1231, w_1232, w_9, w_1233, by decide +kernel, (Nat.le_of_ble_eq_true rfl)⟩
def M_X7_feed : MT := (yX7_feed, cX7_feed, 4, some .int, 2)
set_option maxRecDepth 100000 in
def f_X7_feed_41 (a1 : Int32) (K : Int32 → Mm → Prop) : Nat → Int32 → Mm → Prop
  | 0, _, _ => False
  | n + 1, a3, σ => (if a3 < 0 then (K (σ 0 0 12) σ) else (vp_in (σ 0 0 12) 120 ∧ (∃ σ4, σ4 = mset σ 9 0 ((σ 0 0 12).toNatClampNeg) ((a1 >>> (((8 : Int32) * a3) &&& 31)) &&& (255 : Int32)) ∧ (∃ σ5, σ5 = mset σ4 0 0 12 ((σ4 0 0 12) + (1 : Int32)) ∧ (f_X7_feed_41 a1 K n (a3 + (-1 : Int32)) σ5)))))
set_option maxRecDepth 100000 in
set_option maxHeartbeats 4000000 in
theorem T_X7_feed_41 {g : GG} {a1 : Int32} {K : Int32 → Mm → Prop} : ∀ (n : Nat) (a3 : Int32) (σ : Mm), f_X7_feed_41 a1 K n a3 σ → AW g 1 M_X7_feed (QI g 1 K) 41 [(0, .ref (gad g 0 0)), (1, .int a1), (3, .int a3)] [] σ := by
  intro n
  induction n with
  | zero => intro a3 σ h; exact False.elim h
  | succ n ih =>
    intro a3 σ h
    rw [f_X7_feed_41] at h
    refine AW.iload_n dX7_feed_41 2 rfl ?_
    refine AW.if_lt (tgt := 80) dX7_feed_42 rfl (fun c => ?_) (fun c => ?_)
    · replace h := ite_t c h
      refine AW.aload_n dX7_feed_80 0 rfl ?_
      refine AW.get (k := 12) (v := .int (σ 0 0 12)) (id1_0_0) rfl rfl inGX7 (Nat.le_of_ble_eq_true rfl) w_884 rfl dX7_feed_81 ?_
      exact AW.iret rfl dX7_feed_84 h
    · replace h := ite_f c h
      refine AW.aload_n dX7_feed_45 0 rfl ?_
      refine AW.get (k := 11) (v := .ref (gad g 9 0)) (id1_0_0) rfl rfl inGX7 (Nat.le_of_ble_eq_true rfl) w_883 rfl dX7_feed_46 ?_
      refine AW.aload_n dX7_feed_49 0 rfl ?_
      refine AW.get (k := 12) (v := .int (σ 0 0 12)) (id1_0_0) rfl rfl inGX7 (Nat.le_of_ble_eq_true rfl) w_884 rfl dX7_feed_50 ?_
      refine AW.iload_n dX7_feed_53 1 rfl ?_
      refine AW.bipush (v := (8 : Int32)) dX7_feed_54 rfl ?_
      refine AW.iload_n dX7_feed_56 2 rfl ?_
      refine AW.imul dX7_feed_57 ?_
      refine AW.ishr dX7_feed_58 ?_
      refine AW.sipush (v := (255 : Int32)) dX7_feed_59 rfl ?_
      refine AW.iand dX7_feed_62 ?_
      obtain ⟨hq3, h⟩ := h
      refine AW.iast (jn := ((σ 0 0 12).toNatClampNeg)) (id1_9_0) (fun _ => rfl) hq3 rfl dX7_feed_63 ?_
      obtain ⟨σ4, eσ4, h⟩ := h
      rw [← eσ4]
      refine AW.aload_n dX7_feed_64 0 rfl ?_
      refine AW.dup dX7_feed_65 rfl ?_
      refine AW.get (k := 12) (v := .int (σ4 0 0 12)) (id1_0_0) rfl rfl inGX7 (Nat.le_of_ble_eq_true rfl) w_884 rfl dX7_feed_66 ?_
      refine AW.iconst (v := (1 : Int32)) dX7_feed_69 rfl ?_
      refine AW.iadd dX7_feed_70 ?_
      refine AW.put (k := 12) (w := ((σ4 0 0 12) + (1 : Int32))) (id1_0_0) rfl rfl inGX7 tyX7_ok nmX7 (Nat.le_of_ble_eq_true rfl) w_884 rfl rfl rfl rfl (Nat.le_of_ble_eq_true rfl) rfl dX7_feed_71 ?_
      obtain ⟨σ5, eσ5, h⟩ := h
      rw [← eσ5]
      refine AW.iinc (v := (a3 + (-1 : Int32))) (L' := [(0, .ref (gad g 0 0)), (1, .int a1), (3, .int (a3 + (-1 : Int32)))]) dX7_feed_74 2 rfl rfl (Nat.le_of_ble_eq_true rfl) rfl ?_
      refine AW.goto (tgt := 41) dX7_feed_77 rfl ?_
      exact ih _ _ h
def f_X7_feed (a1 : Int32) (a2 : Int32) (σ : Mm) (K : Int32 → Mm → Prop) : Prop := (f_X7_in ((a2).toInt64) (1 : Int64) (4 : Int64) σ (fun b2 σ1 => (if b2 = true then (if ((σ1 0 0 12) + a2) ≤ (120 : Int32) then (∃ m, f_X7_feed_41 a1 K m (a2 - (1 : Int32)) σ1) else (f_X7_finds (-1000002 : Int32) σ1 (fun r7 σ6 => (K r7 σ6)))) else (f_X7_finds (-1000001 : Int32) σ1 (fun r9 σ8 => (K r9 σ8))))))
set_option maxRecDepth 100000 in
set_option maxHeartbeats 4000000 in
theorem C_X7_feed {g : GG} {a1 : Int32} {a2 : Int32} {σ : Mm} {K : Int32 → Mm → Prop} (h : f_X7_feed a1 a2 σ K) : Ct g 1 M_X7_feed (QI g 1 K) [.ref (gad g 0 0), .int a1, .int a2] σ := by
  unfold f_X7_feed at h
  refine Ct.of (L := [(0, .ref (gad g 0 0)), (1, .int a1), (2, .int a2)]) (show plainName RX7 = true by decide) (Nat.le_of_ble_eq_true rfl) rfl ?_
  refine AW.iload_n dX7_feed_0 2 rfl ?_
  refine AW.i2l dX7_feed_1 ?_
  refine AW.lconst (v := (1 : Int64)) dX7_feed_2 rfl ?_
  refine AW.ldc2 (v := (4 : Int64)) dX7_feed_3 w_1019 ?_
  refine AW.callSB [.long ((a2).toInt64), .long (1 : Int64), .long (4 : Int64)] (C_X7_in h) ok_X7_in w_947 rfl (Nat.le_of_ble_eq_true rfl) (Nat.le_of_ble_eq_true rfl) rfl dX7_feed_6 (fun b2 σ1 h => ?_)
  refine AW.ifb_ne (tgt := 19) dX7_feed_9 rfl (fun c => ?_) (fun c => ?_)
  · replace h := ite_t c h
    refine AW.aload_n dX7_feed_19 0 rfl ?_
    refine AW.get (k := 12) (v := .int (σ1 0 0 12)) (id1_0_0) rfl rfl inGX7 (Nat.le_of_ble_eq_true rfl) w_884 rfl dX7_feed_20 ?_
    refine AW.iload_n dX7_feed_23 2 rfl ?_
    refine AW.iadd dX7_feed_24 ?_
    refine AW.bipush (v := (120 : Int32)) dX7_feed_25 rfl ?_
    refine AW.icmp_le (tgt := 37) dX7_feed_27 rfl (fun c => ?_) (fun c => ?_)
    · replace h := ite_t c h
      refine AW.iload_n dX7_feed_37 2 rfl ?_
      refine AW.iconst (v := (1 : Int32)) dX7_feed_38 rfl ?_
      refine AW.isub dX7_feed_39 ?_
      refine AW.istore_n (L' := [(0, .ref (gad g 0 0)), (1, .int a1), (2, .int a2), (3, .int (a2 - (1 : Int32)))]) dX7_feed_40 (Nat.le_of_ble_eq_true rfl) rfl ?_
      obtain ⟨m, h⟩ := h
      refine AW.eqL [0, 1, 3] rfl ?_
      refine T_X7_feed_41 m _ _ h
    · replace h := ite_f c h
      refine AW.aload_n dX7_feed_30 0 rfl ?_
      refine AW.ldc (v := (-1000002 : Int32)) dX7_feed_31 w_1003 ?_
      refine AW.callVI [.int (-1000002 : Int32)] (C_X7_finds h) ok_X7_finds (id1_0_0) rfl rfl w_952 rfl (Nat.le_of_ble_eq_true rfl) (Nat.le_of_ble_eq_true rfl) rfl dX7_feed_33 (fun r7 σ6 h => ?_)
      exact AW.iret rfl dX7_feed_36 h
  · replace h := ite_f c h
    refine AW.aload_n dX7_feed_12 0 rfl ?_
    refine AW.ldc (v := (-1000001 : Int32)) dX7_feed_13 w_951 ?_
    refine AW.callVI [.int (-1000001 : Int32)] (C_X7_finds h) ok_X7_finds (id1_0_0) rfl rfl w_952 rfl (Nat.le_of_ble_eq_true rfl) (Nat.le_of_ble_eq_true rfl) rfl dX7_feed_15 (fun r9 σ8 h => ?_)
    exact AW.iret rfl dX7_feed_18 h
theorem ok_X7_feed : OkV M_X7_feed 2 := ⟨w_1235, w_1236, w_9, w_1237, by decide +kernel, (Nat.le_of_ble_eq_true rfl)⟩
def M_X7_wipe : MT := (yX7_wipe, cX7_wipe, 2, some .int, 1)
def f_X7_wipe (σ : Mm) (K : Int32 → Mm → Prop) : Prop := (∃ σ1, σ1 = mset σ 0 0 12 (0 : Int32) ∧ (K (σ 0 0 12) σ1))
set_option maxRecDepth 100000 in
set_option maxHeartbeats 4000000 in
theorem C_X7_wipe {g : GG} {σ : Mm} {K : Int32 → Mm → Prop} (h : f_X7_wipe σ K) : Ct g 1 M_X7_wipe (QI g 1 K) [.ref (gad g 0 0)] σ := by
  unfold f_X7_wipe at h
  refine Ct.of (L := [(0, .ref (gad g 0 0))]) (show plainName RX7 = true by decide) (Nat.le_of_ble_eq_true rfl) rfl ?_
  refine AW.aload_n dX7_wipe_0 0 rfl ?_
  refine AW.get (k := 12) (v := .int (σ 0 0 12)) (id1_0_0) rfl rfl inGX7 (Nat.le_of_ble_eq_true rfl) w_884 rfl dX7_wipe_1 ?_
  refine AW.istore_n (L' := [(0, .ref (gad g 0 0)), (1, .int (σ 0 0 12))]) dX7_wipe_4 (Nat.le_of_ble_eq_true rfl) rfl ?_
  refine AW.aload_n dX7_wipe_5 0 rfl ?_
  refine AW.iconst (v := (0 : Int32)) dX7_wipe_6 rfl ?_
  refine AW.put (k := 12) (w := (0 : Int32)) (id1_0_0) rfl rfl inGX7 tyX7_ok nmX7 (Nat.le_of_ble_eq_true rfl) w_884 rfl rfl rfl rfl (Nat.le_of_ble_eq_true rfl) rfl dX7_wipe_7 ?_
  obtain ⟨σ1, eσ1, h⟩ := h
  rw [← eσ1]
  refine AW.iload_n dX7_wipe_10 1 rfl ?_
  exact AW.iret rfl dX7_wipe_11 h
theorem ok_X7_wipe : OkV M_X7_wipe 0 := ⟨w_1239, w_1240, w_9, w_1241, by decide +kernel, (Nat.le_of_ble_eq_true rfl)⟩
def M_X7_isByte : MT := (yX7_isByte, cX7_isByte, 4, some .boolean, 2)
def f_X7_isByte (a1 : Int32) (a2 : Int32) (a3 : Int32) (σ : Mm) (K : Bool → Mm → Prop) : Prop := (if (σ 0 0 12) ≤ a1 then (K false σ) else (vp_in a1 120 ∧ (f_X7_in (((σ 9 0 (a1.toNatClampNeg))).toInt64) ((a2).toInt64) ((a3).toInt64) σ (fun b3 σ2 => (if b3 = true then (K true σ2) else (K false σ2))))))
set_option maxRecDepth 100000 in
set_option maxHeartbeats 4000000 in
theorem C_X7_isByte {g : GG} {a1 : Int32} {a2 : Int32} {a3 : Int32} {σ : Mm} {K : Bool → Mm → Prop} (h : f_X7_isByte a1 a2 a3 σ K) : Ct g 1 M_X7_isByte (QB g 1 K) [.ref (gad g 0 0), .int a1, .int a2, .int a3] σ := by
  unfold f_X7_isByte at h
  refine Ct.of (L := [(0, .ref (gad g 0 0)), (1, .int a1), (2, .int a2), (3, .int a3)]) (show plainName RX7 = true by decide) (Nat.le_of_ble_eq_true rfl) rfl ?_
  refine AW.iload_n dX7_isByte_0 1 rfl ?_
  refine AW.aload_n dX7_isByte_1 0 rfl ?_
  refine AW.get (k := 12) (v := .int (σ 0 0 12)) (id1_0_0) rfl rfl inGX7 (Nat.le_of_ble_eq_true rfl) w_884 rfl dX7_isByte_2 ?_
  refine AW.icmp_ge (tgt := 29) dX7_isByte_5 rfl (fun c => ?_) (fun c => ?_)
  · replace h := ite_t c h
    refine AW.iconst (v := (0 : Int32)) dX7_isByte_29 rfl ?_
    exact AW.bret false rfl rfl dX7_isByte_30 h
  · replace h := ite_f c h
    refine AW.aload_n dX7_isByte_8 0 rfl ?_
    refine AW.get (k := 11) (v := .ref (gad g 9 0)) (id1_0_0) rfl rfl inGX7 (Nat.le_of_ble_eq_true rfl) w_883 rfl dX7_isByte_9 ?_
    refine AW.iload_n dX7_isByte_12 1 rfl ?_
    obtain ⟨hq1, h⟩ := h
    refine AW.iald (jn := (a1.toNatClampNeg)) (id1_9_0) rfl hq1 rfl dX7_isByte_13 ?_
    refine AW.i2l dX7_isByte_14 ?_
    refine AW.iload_n dX7_isByte_15 2 rfl ?_
    refine AW.i2l dX7_isByte_16 ?_
    refine AW.iload_n dX7_isByte_17 3 rfl ?_
    refine AW.i2l dX7_isByte_18 ?_
    refine AW.callSB [.long (((σ 9 0 (a1.toNatClampNeg))).toInt64), .long ((a2).toInt64), .long ((a3).toInt64)] (C_X7_in h) ok_X7_in w_947 rfl (Nat.le_of_ble_eq_true rfl) (Nat.le_of_ble_eq_true rfl) rfl dX7_isByte_19 (fun b3 σ2 h => ?_)
    refine AW.ifb_eq (tgt := 29) dX7_isByte_22 rfl (fun c => ?_) (fun c => ?_)
    · replace h := ite_f c h
      refine AW.iconst (v := (0 : Int32)) dX7_isByte_29 rfl ?_
      exact AW.bret false rfl rfl dX7_isByte_30 h
    · replace h := ite_t c h
      refine AW.iconst (v := (1 : Int32)) dX7_isByte_25 rfl ?_
      refine AW.goto (tgt := 30) dX7_isByte_26 rfl ?_
      exact AW.bret true rfl rfl dX7_isByte_30 h
theorem ok_X7_isByte : OkV M_X7_isByte 3 := ⟨w_1252, wp_60, w_9, w_1253, by decide +kernel, (Nat.le_of_ble_eq_true rfl)⟩
def M_X7_token : MT := (yX7_token, cX7_token, 1, none, 3)
set_option maxRecDepth 100000 in
def f_X7_token_8 (K : Mm → Prop) (k36 : Mm → Prop) : Nat → Mm → Prop
  | 0, _ => False
  | n + 1, σ => (f_X7_isByte (σ 0 0 14) (32 : Int32) (32 : Int32) σ (fun b3 σ2 => (if b3 = true then (∃ σ4, σ4 = mset σ2 0 0 14 ((σ2 0 0 14) + (1 : Int32)) ∧ (f_X7_token_8 K k36 n σ4)) else (k36 σ2))))
set_option maxRecDepth 100000 in
set_option maxHeartbeats 4000000 in
theorem T_X7_token_8 {g : GG} {K : Mm → Prop} {k36 : Mm → Prop} (hk36 : ∀  (u : Mm), k36  u → AW g 1 M_X7_token (QV g 1 K) 36 [(0, .ref (gad g 0 0))] [] u) : ∀ (n : Nat) (σ : Mm), f_X7_token_8 K k36 n σ → AW g 1 M_X7_token (QV g 1 K) 8 [(0, .ref (gad g 0 0))] [] σ := by
  intro n
  induction n with
  | zero => intro σ h; exact False.elim h
  | succ n ih =>
    intro σ h
    rw [f_X7_token_8] at h
    refine AW.aload_n dX7_token_8 0 rfl ?_
    refine AW.aload_n dX7_token_9 0 rfl ?_
    refine AW.get (k := 14) (v := .int (σ 0 0 14)) (id1_0_0) rfl rfl inGX7 (Nat.le_of_ble_eq_true rfl) w_886 rfl dX7_token_10 ?_
    refine AW.bipush (v := (32 : Int32)) dX7_token_13 rfl ?_
    refine AW.bipush (v := (32 : Int32)) dX7_token_15 rfl ?_
    refine AW.callVB [.int (σ 0 0 14), .int (32 : Int32), .int (32 : Int32)] (C_X7_isByte h) ok_X7_isByte (id1_0_0) rfl rfl w_1250 rfl (Nat.le_of_ble_eq_true rfl) (Nat.le_of_ble_eq_true rfl) rfl dX7_token_17 (fun b3 σ2 h => ?_)
    refine AW.ifb_eq (tgt := 36) dX7_token_20 rfl (fun c => ?_) (fun c => ?_)
    · replace h := ite_f c h
      exact hk36 _ h
    · replace h := ite_t c h
      refine AW.aload_n dX7_token_23 0 rfl ?_
      refine AW.dup dX7_token_24 rfl ?_
      refine AW.get (k := 14) (v := .int (σ2 0 0 14)) (id1_0_0) rfl rfl inGX7 (Nat.le_of_ble_eq_true rfl) w_886 rfl dX7_token_25 ?_
      refine AW.iconst (v := (1 : Int32)) dX7_token_28 rfl ?_
      refine AW.iadd dX7_token_29 ?_
      refine AW.put (k := 14) (w := ((σ2 0 0 14) + (1 : Int32))) (id1_0_0) rfl rfl inGX7 tyX7_ok nmX7 (Nat.le_of_ble_eq_true rfl) w_886 rfl rfl rfl rfl (Nat.le_of_ble_eq_true rfl) rfl dX7_token_30 ?_
      obtain ⟨σ4, eσ4, h⟩ := h
      rw [← eσ4]
      refine AW.goto (tgt := 8) dX7_token_33 rfl ?_
      exact ih _ h
set_option maxRecDepth 100000 in
def f_X7_token_125 (K : Mm → Prop) (k161 : Mm → Prop) : Nat → Mm → Prop
  | 0, _ => False
  | n + 1, σ => (if (σ 0 0 13) = (1 : Int32) then (f_X7_isByte (σ 0 0 15) (97 : Int32) (122 : Int32) σ (fun b14 σ13 => (if b14 = true then (∃ σ15, σ15 = mset σ13 0 0 15 ((σ13 0 0 15) + (1 : Int32)) ∧ (f_X7_token_125 K k161 n σ15)) else (k161 σ13)))) else (k161 σ))
set_option maxRecDepth 100000 in
set_option maxHeartbeats 4000000 in
theorem T_X7_token_125 {g : GG} {K : Mm → Prop} {k161 : Mm → Prop} (hk161 : ∀  (u : Mm), k161  u → AW g 1 M_X7_token (QV g 1 K) 161 [(0, .ref (gad g 0 0))] [] u) : ∀ (n : Nat) (σ : Mm), f_X7_token_125 K k161 n σ → AW g 1 M_X7_token (QV g 1 K) 125 [(0, .ref (gad g 0 0))] [] σ := by
  intro n
  induction n with
  | zero => intro σ h; exact False.elim h
  | succ n ih =>
    intro σ h
    rw [f_X7_token_125] at h
    refine AW.aload_n dX7_token_125 0 rfl ?_
    refine AW.get (k := 13) (v := .int (σ 0 0 13)) (id1_0_0) rfl rfl inGX7 (Nat.le_of_ble_eq_true rfl) w_885 rfl dX7_token_126 ?_
    refine AW.iconst (v := (1 : Int32)) dX7_token_129 rfl ?_
    refine AW.icmp_ne (tgt := 161) dX7_token_130 rfl (fun c => ?_) (fun c => ?_)
    · replace h := ite_f c h
      exact hk161 _ h
    · replace h := ite_t c h
      refine AW.aload_n dX7_token_133 0 rfl ?_
      refine AW.aload_n dX7_token_134 0 rfl ?_
      refine AW.get (k := 15) (v := .int (σ 0 0 15)) (id1_0_0) rfl rfl inGX7 (Nat.le_of_ble_eq_true rfl) w_887 rfl dX7_token_135 ?_
      refine AW.bipush (v := (97 : Int32)) dX7_token_138 rfl ?_
      refine AW.bipush (v := (122 : Int32)) dX7_token_140 rfl ?_
      refine AW.callVB [.int (σ 0 0 15), .int (97 : Int32), .int (122 : Int32)] (C_X7_isByte h) ok_X7_isByte (id1_0_0) rfl rfl w_1250 rfl (Nat.le_of_ble_eq_true rfl) (Nat.le_of_ble_eq_true rfl) rfl dX7_token_142 (fun b14 σ13 h => ?_)
      refine AW.ifb_eq (tgt := 161) dX7_token_145 rfl (fun c => ?_) (fun c => ?_)
      · replace h := ite_f c h
        exact hk161 _ h
      · replace h := ite_t c h
        refine AW.aload_n dX7_token_148 0 rfl ?_
        refine AW.dup dX7_token_149 rfl ?_
        refine AW.get (k := 15) (v := .int (σ13 0 0 15)) (id1_0_0) rfl rfl inGX7 (Nat.le_of_ble_eq_true rfl) w_887 rfl dX7_token_150 ?_
        refine AW.iconst (v := (1 : Int32)) dX7_token_153 rfl ?_
        refine AW.iadd dX7_token_154 ?_
        refine AW.put (k := 15) (w := ((σ13 0 0 15) + (1 : Int32))) (id1_0_0) rfl rfl inGX7 tyX7_ok nmX7 (Nat.le_of_ble_eq_true rfl) w_887 rfl rfl rfl rfl (Nat.le_of_ble_eq_true rfl) rfl dX7_token_155 ?_
        obtain ⟨σ15, eσ15, h⟩ := h
        rw [← eσ15]
        refine AW.goto (tgt := 125) dX7_token_158 rfl ?_
        exact ih _ h
set_option maxRecDepth 100000 in
def f_X7_token_161 (K : Mm → Prop) : Nat → Mm → Prop
  | 0, _ => False
  | n + 1, σ => (if (σ 0 0 13) = (2 : Int32) then (f_X7_isByte (σ 0 0 15) (48 : Int32) (57 : Int32) σ (fun b18 σ17 => (if b18 = true then (if (σ17 0 0 16) ≤ (999 : Int32) then (vp_in (σ17 0 0 15) 120 ∧ (∃ σ20, σ20 = mset σ17 0 0 16 ((((10 : Int32) * (σ17 0 0 16)) + (σ17 9 0 ((σ17 0 0 15).toNatClampNeg))) - (48 : Int32)) ∧ (∃ σ21, σ21 = mset σ20 0 0 15 ((σ20 0 0 15) + (1 : Int32)) ∧ (f_X7_token_161 K n σ21)))) else (∃ σ22, σ22 = mset σ17 0 0 16 (σ17 0 0 16) ∧ (∃ σ23, σ23 = mset σ22 0 0 15 ((σ22 0 0 15) + (1 : Int32)) ∧ (f_X7_token_161 K n σ23)))) else (K σ17)))) else (K σ))
set_option maxRecDepth 100000 in
set_option maxHeartbeats 4000000 in
theorem T_X7_token_161 {g : GG} {K : Mm → Prop} : ∀ (n : Nat) (σ : Mm), f_X7_token_161 K n σ → AW g 1 M_X7_token (QV g 1 K) 161 [(0, .ref (gad g 0 0))] [] σ := by
  intro n
  induction n with
  | zero => intro σ h; exact False.elim h
  | succ n ih =>
    intro σ h
    rw [f_X7_token_161] at h
    refine AW.aload_n dX7_token_161 0 rfl ?_
    refine AW.get (k := 13) (v := .int (σ 0 0 13)) (id1_0_0) rfl rfl inGX7 (Nat.le_of_ble_eq_true rfl) w_885 rfl dX7_token_162 ?_
    refine AW.iconst (v := (2 : Int32)) dX7_token_165 rfl ?_
    refine AW.icmp_ne (tgt := 238) dX7_token_166 rfl (fun c => ?_) (fun c => ?_)
    · replace h := ite_f c h
      exact AW.vret rfl dX7_token_238 h
    · replace h := ite_t c h
      refine AW.aload_n dX7_token_169 0 rfl ?_
      refine AW.aload_n dX7_token_170 0 rfl ?_
      refine AW.get (k := 15) (v := .int (σ 0 0 15)) (id1_0_0) rfl rfl inGX7 (Nat.le_of_ble_eq_true rfl) w_887 rfl dX7_token_171 ?_
      refine AW.bipush (v := (48 : Int32)) dX7_token_174 rfl ?_
      refine AW.bipush (v := (57 : Int32)) dX7_token_176 rfl ?_
      refine AW.callVB [.int (σ 0 0 15), .int (48 : Int32), .int (57 : Int32)] (C_X7_isByte h) ok_X7_isByte (id1_0_0) rfl rfl w_1250 rfl (Nat.le_of_ble_eq_true rfl) (Nat.le_of_ble_eq_true rfl) rfl dX7_token_178 (fun b18 σ17 h => ?_)
      refine AW.ifb_eq (tgt := 238) dX7_token_181 rfl (fun c => ?_) (fun c => ?_)
      · replace h := ite_f c h
        exact AW.vret rfl dX7_token_238 h
      · replace h := ite_t c h
        refine AW.aload_n dX7_token_184 0 rfl ?_
        refine AW.aload_n dX7_token_185 0 rfl ?_
        refine AW.get (k := 16) (v := .int (σ17 0 0 16)) (id1_0_0) rfl rfl inGX7 (Nat.le_of_ble_eq_true rfl) w_888 rfl dX7_token_186 ?_
        refine AW.sipush (v := (999 : Int32)) dX7_token_189 rfl ?_
        refine AW.icmp_le (tgt := 202) dX7_token_192 rfl (fun c => ?_) (fun c => ?_)
        · replace h := ite_t c h
          refine AW.bipush (v := (10 : Int32)) dX7_token_202 rfl ?_
          refine AW.aload_n dX7_token_204 0 rfl ?_
          refine AW.get (k := 16) (v := .int (σ17 0 0 16)) (id1_0_0) rfl rfl inGX7 (Nat.le_of_ble_eq_true rfl) w_888 rfl dX7_token_205 ?_
          refine AW.imul dX7_token_208 ?_
          refine AW.aload_n dX7_token_209 0 rfl ?_
          refine AW.get (k := 11) (v := .ref (gad g 9 0)) (id1_0_0) rfl rfl inGX7 (Nat.le_of_ble_eq_true rfl) w_883 rfl dX7_token_210 ?_
          refine AW.aload_n dX7_token_213 0 rfl ?_
          refine AW.get (k := 15) (v := .int (σ17 0 0 15)) (id1_0_0) rfl rfl inGX7 (Nat.le_of_ble_eq_true rfl) w_887 rfl dX7_token_214 ?_
          obtain ⟨hq19, h⟩ := h
          refine AW.iald (jn := ((σ17 0 0 15).toNatClampNeg)) (id1_9_0) rfl hq19 rfl dX7_token_217 ?_
          refine AW.iadd dX7_token_218 ?_
          refine AW.bipush (v := (48 : Int32)) dX7_token_219 rfl ?_
          refine AW.isub dX7_token_221 ?_
          refine AW.put (k := 16) (w := ((((10 : Int32) * (σ17 0 0 16)) + (σ17 9 0 ((σ17 0 0 15).toNatClampNeg))) - (48 : Int32))) (id1_0_0) rfl rfl inGX7 tyX7_ok nmX7 (Nat.le_of_ble_eq_true rfl) w_888 rfl rfl rfl rfl (Nat.le_of_ble_eq_true rfl) rfl dX7_token_222 ?_
          obtain ⟨σ20, eσ20, h⟩ := h
          rw [← eσ20]
          refine AW.aload_n dX7_token_225 0 rfl ?_
          refine AW.dup dX7_token_226 rfl ?_
          refine AW.get (k := 15) (v := .int (σ20 0 0 15)) (id1_0_0) rfl rfl inGX7 (Nat.le_of_ble_eq_true rfl) w_887 rfl dX7_token_227 ?_
          refine AW.iconst (v := (1 : Int32)) dX7_token_230 rfl ?_
          refine AW.iadd dX7_token_231 ?_
          refine AW.put (k := 15) (w := ((σ20 0 0 15) + (1 : Int32))) (id1_0_0) rfl rfl inGX7 tyX7_ok nmX7 (Nat.le_of_ble_eq_true rfl) w_887 rfl rfl rfl rfl (Nat.le_of_ble_eq_true rfl) rfl dX7_token_232 ?_
          obtain ⟨σ21, eσ21, h⟩ := h
          rw [← eσ21]
          refine AW.goto (tgt := 161) dX7_token_235 rfl ?_
          exact ih _ h
        · replace h := ite_f c h
          refine AW.aload_n dX7_token_195 0 rfl ?_
          refine AW.get (k := 16) (v := .int (σ17 0 0 16)) (id1_0_0) rfl rfl inGX7 (Nat.le_of_ble_eq_true rfl) w_888 rfl dX7_token_196 ?_
          refine AW.goto (tgt := 222) dX7_token_199 rfl ?_
          refine AW.put (k := 16) (w := (σ17 0 0 16)) (id1_0_0) rfl rfl inGX7 tyX7_ok nmX7 (Nat.le_of_ble_eq_true rfl) w_888 rfl rfl rfl rfl (Nat.le_of_ble_eq_true rfl) rfl dX7_token_222 ?_
          obtain ⟨σ22, eσ22, h⟩ := h
          rw [← eσ22]
          refine AW.aload_n dX7_token_225 0 rfl ?_
          refine AW.dup dX7_token_226 rfl ?_
          refine AW.get (k := 15) (v := .int (σ22 0 0 15)) (id1_0_0) rfl rfl inGX7 (Nat.le_of_ble_eq_true rfl) w_887 rfl dX7_token_227 ?_
          refine AW.iconst (v := (1 : Int32)) dX7_token_230 rfl ?_
          refine AW.iadd dX7_token_231 ?_
          refine AW.put (k := 15) (w := ((σ22 0 0 15) + (1 : Int32))) (id1_0_0) rfl rfl inGX7 tyX7_ok nmX7 (Nat.le_of_ble_eq_true rfl) w_887 rfl rfl rfl rfl (Nat.le_of_ble_eq_true rfl) rfl dX7_token_232 ?_
          obtain ⟨σ23, eσ23, h⟩ := h
          rw [← eσ23]
          refine AW.goto (tgt := 161) dX7_token_235 rfl ?_
          exact ih _ h
def f_X7_token_104 (as1 : Int32) (K : Mm → Prop) (σ : Mm) : Prop := (∃ σ12, σ12 = mset σ 0 0 13 as1 ∧ (if (σ12 0 0 13) = (3 : Int32) then (∃ σ24, σ24 = mset σ12 0 0 15 ((σ12 0 0 15) + (1 : Int32)) ∧ (∃ m, f_X7_token_125 K (fun σ25 => (∃ m, f_X7_token_161 K m σ25)) m σ24)) else (∃ m, f_X7_token_125 K (fun σ16 => (∃ m, f_X7_token_161 K m σ16)) m σ12)))
set_option maxRecDepth 100000 in
set_option maxHeartbeats 4000000 in
theorem T_X7_token_104 {g : GG} {as1 : Int32} {K : Mm → Prop} {σ : Mm} (h : f_X7_token_104 as1 K σ) : AW g 1 M_X7_token (QV g 1 K) 104 [(0, .ref (gad g 0 0))] [.int as1, .ref (gad g 0 0)] σ := by
  unfold f_X7_token_104 at h
  refine AW.put (k := 13) (w := as1) (id1_0_0) rfl rfl inGX7 tyX7_ok nmX7 (Nat.le_of_ble_eq_true rfl) w_885 rfl rfl rfl rfl (Nat.le_of_ble_eq_true rfl) rfl dX7_token_104 ?_
  obtain ⟨σ12, eσ12, h⟩ := h
  rw [← eσ12]
  refine AW.aload_n dX7_token_107 0 rfl ?_
  refine AW.get (k := 13) (v := .int (σ12 0 0 13)) (id1_0_0) rfl rfl inGX7 (Nat.le_of_ble_eq_true rfl) w_885 rfl dX7_token_108 ?_
  refine AW.iconst (v := (3 : Int32)) dX7_token_111 rfl ?_
  refine AW.icmp_ne (tgt := 125) dX7_token_112 rfl (fun c => ?_) (fun c => ?_)
  · replace h := ite_f c h
    obtain ⟨m, h⟩ := h
    refine T_X7_token_125 (fun σ16 h => ?_) m _ h
    obtain ⟨m, h⟩ := h
    refine T_X7_token_161 m _ h
  · replace h := ite_t c h
    refine AW.aload_n dX7_token_115 0 rfl ?_
    refine AW.dup dX7_token_116 rfl ?_
    refine AW.get (k := 15) (v := .int (σ12 0 0 15)) (id1_0_0) rfl rfl inGX7 (Nat.le_of_ble_eq_true rfl) w_887 rfl dX7_token_117 ?_
    refine AW.iconst (v := (1 : Int32)) dX7_token_120 rfl ?_
    refine AW.iadd dX7_token_121 ?_
    refine AW.put (k := 15) (w := ((σ12 0 0 15) + (1 : Int32))) (id1_0_0) rfl rfl inGX7 tyX7_ok nmX7 (Nat.le_of_ble_eq_true rfl) w_887 rfl rfl rfl rfl (Nat.le_of_ble_eq_true rfl) rfl dX7_token_122 ?_
    obtain ⟨σ24, eσ24, h⟩ := h
    rw [← eσ24]
    obtain ⟨m, h⟩ := h
    refine T_X7_token_125 (fun σ25 h => ?_) m _ h
    obtain ⟨m, h⟩ := h
    refine T_X7_token_161 m _ h
def f_X7_token (σ : Mm) (K : Mm → Prop) : Prop := (∃ σ1, σ1 = mset σ 0 0 14 (σ 0 0 15) ∧ (∃ m, f_X7_token_8 K (fun σ5 => (∃ σ6, σ6 = mset σ5 0 0 15 (σ5 0 0 14) ∧ (∃ σ7, σ7 = mset σ6 0 0 16 (0 : Int32) ∧ (if (σ7 0 0 14) = (σ7 0 0 12) then (f_X7_token_104 (0 : Int32) K σ7) else (f_X7_isByte (σ7 0 0 14) (97 : Int32) (122 : Int32) σ7 (fun b9 σ8 => (if b9 = true then (f_X7_token_104 (1 : Int32) K σ8) else (f_X7_isByte (σ8 0 0 14) (48 : Int32) (57 : Int32) σ8 (fun b11 σ10 => (if b11 = true then (f_X7_token_104 (2 : Int32) K σ10) else (f_X7_token_104 (3 : Int32) K σ10))))))))))) m σ1))
set_option maxRecDepth 100000 in
set_option maxHeartbeats 4000000 in
theorem C_X7_token {g : GG} {σ : Mm} {K : Mm → Prop} (h : f_X7_token σ K) : Ct g 1 M_X7_token (QV g 1 K) [.ref (gad g 0 0)] σ := by
  unfold f_X7_token at h
  refine Ct.of (L := [(0, .ref (gad g 0 0))]) (show plainName RX7 = true by decide) (Nat.le_of_ble_eq_true rfl) rfl ?_
  refine AW.aload_n dX7_token_0 0 rfl ?_
  refine AW.aload_n dX7_token_1 0 rfl ?_
  refine AW.get (k := 15) (v := .int (σ 0 0 15)) (id1_0_0) rfl rfl inGX7 (Nat.le_of_ble_eq_true rfl) w_887 rfl dX7_token_2 ?_
  refine AW.put (k := 14) (w := (σ 0 0 15)) (id1_0_0) rfl rfl inGX7 tyX7_ok nmX7 (Nat.le_of_ble_eq_true rfl) w_886 rfl rfl rfl rfl (Nat.le_of_ble_eq_true rfl) rfl dX7_token_5 ?_
  obtain ⟨σ1, eσ1, h⟩ := h
  rw [← eσ1]
  obtain ⟨m, h⟩ := h
  refine T_X7_token_8 (fun σ5 h => ?_) m _ h
  refine AW.aload_n dX7_token_36 0 rfl ?_
  refine AW.aload_n dX7_token_37 0 rfl ?_
  refine AW.get (k := 14) (v := .int (σ5 0 0 14)) (id1_0_0) rfl rfl inGX7 (Nat.le_of_ble_eq_true rfl) w_886 rfl dX7_token_38 ?_
  refine AW.put (k := 15) (w := (σ5 0 0 14)) (id1_0_0) rfl rfl inGX7 tyX7_ok nmX7 (Nat.le_of_ble_eq_true rfl) w_887 rfl rfl rfl rfl (Nat.le_of_ble_eq_true rfl) rfl dX7_token_41 ?_
  obtain ⟨σ6, eσ6, h⟩ := h
  rw [← eσ6]
  refine AW.aload_n dX7_token_44 0 rfl ?_
  refine AW.iconst (v := (0 : Int32)) dX7_token_45 rfl ?_
  refine AW.put (k := 16) (w := (0 : Int32)) (id1_0_0) rfl rfl inGX7 tyX7_ok nmX7 (Nat.le_of_ble_eq_true rfl) w_888 rfl rfl rfl rfl (Nat.le_of_ble_eq_true rfl) rfl dX7_token_46 ?_
  obtain ⟨σ7, eσ7, h⟩ := h
  rw [← eσ7]
  refine AW.aload_n dX7_token_49 0 rfl ?_
  refine AW.aload_n dX7_token_50 0 rfl ?_
  refine AW.get (k := 14) (v := .int (σ7 0 0 14)) (id1_0_0) rfl rfl inGX7 (Nat.le_of_ble_eq_true rfl) w_886 rfl dX7_token_51 ?_
  refine AW.aload_n dX7_token_54 0 rfl ?_
  refine AW.get (k := 12) (v := .int (σ7 0 0 12)) (id1_0_0) rfl rfl inGX7 (Nat.le_of_ble_eq_true rfl) w_884 rfl dX7_token_55 ?_
  refine AW.icmp_ne (tgt := 65) dX7_token_58 rfl (fun c => ?_) (fun c => ?_)
  · replace h := ite_f c h
    refine AW.aload_n dX7_token_65 0 rfl ?_
    refine AW.aload_n dX7_token_66 0 rfl ?_
    refine AW.get (k := 14) (v := .int (σ7 0 0 14)) (id1_0_0) rfl rfl inGX7 (Nat.le_of_ble_eq_true rfl) w_886 rfl dX7_token_67 ?_
    refine AW.bipush (v := (97 : Int32)) dX7_token_70 rfl ?_
    refine AW.bipush (v := (122 : Int32)) dX7_token_72 rfl ?_
    refine AW.callVB [.int (σ7 0 0 14), .int (97 : Int32), .int (122 : Int32)] (C_X7_isByte h) ok_X7_isByte (id1_0_0) rfl rfl w_1250 rfl (Nat.le_of_ble_eq_true rfl) (Nat.le_of_ble_eq_true rfl) rfl dX7_token_74 (fun b9 σ8 h => ?_)
    refine AW.ifb_eq (tgt := 84) dX7_token_77 rfl (fun c => ?_) (fun c => ?_)
    · replace h := ite_f c h
      refine AW.aload_n dX7_token_84 0 rfl ?_
      refine AW.aload_n dX7_token_85 0 rfl ?_
      refine AW.get (k := 14) (v := .int (σ8 0 0 14)) (id1_0_0) rfl rfl inGX7 (Nat.le_of_ble_eq_true rfl) w_886 rfl dX7_token_86 ?_
      refine AW.bipush (v := (48 : Int32)) dX7_token_89 rfl ?_
      refine AW.bipush (v := (57 : Int32)) dX7_token_91 rfl ?_
      refine AW.callVB [.int (σ8 0 0 14), .int (48 : Int32), .int (57 : Int32)] (C_X7_isByte h) ok_X7_isByte (id1_0_0) rfl rfl w_1250 rfl (Nat.le_of_ble_eq_true rfl) (Nat.le_of_ble_eq_true rfl) rfl dX7_token_93 (fun b11 σ10 h => ?_)
      refine AW.ifb_eq (tgt := 103) dX7_token_96 rfl (fun c => ?_) (fun c => ?_)
      · replace h := ite_f c h
        refine AW.iconst (v := (3 : Int32)) dX7_token_103 rfl ?_
        exact T_X7_token_104 h
      · replace h := ite_t c h
        refine AW.iconst (v := (2 : Int32)) dX7_token_99 rfl ?_
        refine AW.goto (tgt := 104) dX7_token_100 rfl ?_
        exact T_X7_token_104 h
    · replace h := ite_t c h
      refine AW.iconst (v := (1 : Int32)) dX7_token_80 rfl ?_
      refine AW.goto (tgt := 104) dX7_token_81 rfl ?_
      exact T_X7_token_104 h
  · replace h := ite_t c h
    refine AW.iconst (v := (0 : Int32)) dX7_token_61 rfl ?_
    refine AW.goto (tgt := 104) dX7_token_62 rfl ?_
    exact T_X7_token_104 h
theorem ok_X7_token : OkV M_X7_token 0 := ⟨w_1248, wp_59, w_9, w_1249, by decide +kernel, (Nat.le_of_ble_eq_true rfl)⟩
def M_J0_coder_7d493_y : MT := (yJ0_coder_7d493, cJ0_coder_7d493, 1, some .byte, 1)
def f_J0_coder_7d493_y (i0 : Nat) (σ : Mm) (K : Int32 → Mm → Prop) : Prop := (i0 < 13 ∧ (narrow .byte (.int (0 : Int32)) = .int (0 : Int32) ∧ K (0 : Int32) σ))
set_option maxRecDepth 100000 in
set_option maxHeartbeats 4000000 in
theorem C_J0_coder_7d493_y {g : GG} {i0 : Nat} {σ : Mm} {K : Int32 → Mm → Prop} (h : f_J0_coder_7d493_y i0 σ K) : Ct g 1 M_J0_coder_7d493_y (QI g 1 K) [.ref (gaK g i0)] σ := by
  unfold f_J0_coder_7d493_y at h
  obtain ⟨hi0, h⟩ := h
  refine Ct.of (L := [(0, .ref (gaK g i0))]) (show plainName RJ0 = true by decide) (Nat.le_of_ble_eq_true rfl) rfl ?_
  refine AW.getsC w_675 dJ0_coder_7d493_0 ?_
  refine AW.if_eq (tgt := 13) dJ0_coder_7d493_3 rfl (fun c => absurd c (by decide)) (fun _ => ?_)
  refine AW.aload_n dJ0_coder_7d493_6 0 rfl ?_
  refine AW.scod hi0 w_1381 dJ0_coder_7d493_7 ?_
  refine AW.goto (tgt := 14) dJ0_coder_7d493_10 rfl ?_
  obtain ⟨hn1, h⟩ := h
  exact AW.nret rfl hn1 dJ0_coder_7d493_14 h
theorem ok_J0_coder_7d493_y : OkV M_J0_coder_7d493_y 0 := ⟨w_672, w_673, w_13, w_674, by decide +kernel, (Nat.le_of_ble_eq_true rfl)⟩
def M_J0_length_8abf5_y : MT := (yJ0_length_8abf5, cJ0_length_8abf5, 1, some .int, 2)
def f_J0_length_8abf5_y (i0 : Nat) (σ : Mm) (K : Int32 → Mm → Prop) : Prop := (i0 < 13 ∧ (f_J0_coder_7d493_y i0 σ (fun r2 σ1 => (K ((Int32.ofNat (strLn.getD i0 0)) >>> (r2 &&& 31)) σ1))))
set_option maxRecDepth 100000 in
set_option maxHeartbeats 4000000 in
theorem C_J0_length_8abf5_y {g : GG} {i0 : Nat} {σ : Mm} {K : Int32 → Mm → Prop} (h : f_J0_length_8abf5_y i0 σ K) : Ct g 1 M_J0_length_8abf5_y (QI g 1 K) [.ref (gaK g i0)] σ := by
  unfold f_J0_length_8abf5_y at h
  obtain ⟨hi0, h⟩ := h
  refine Ct.of (L := [(0, .ref (gaK g i0))]) (show plainName RJ0 = true by decide) (Nat.le_of_ble_eq_true rfl) rfl ?_
  refine AW.aload_n dJ0_length_8abf5_0 0 rfl ?_
  refine AW.sval hi0 w_1380 dJ0_length_8abf5_1 ?_
  refine AW.slen hi0 dJ0_length_8abf5_4 ?_
  refine AW.aload_n dJ0_length_8abf5_5 0 rfl ?_
  refine AW.callStrI [] (C_J0_coder_7d493_y h) ok_J0_coder_7d493_y hi0 w_671 rfl (Nat.le_of_ble_eq_true rfl) (Nat.le_of_ble_eq_true rfl) rfl dJ0_length_8abf5_6 rfl (fun r2 σ1 h => ?_)
  refine AW.ishr dJ0_length_8abf5_9 ?_
  exact AW.iret rfl dJ0_length_8abf5_10 h
theorem ok_J0_length_8abf5_y : OkV M_J0_length_8abf5_y 0 := ⟨w_668, w_669, w_13, w_670, by decide +kernel, (Nat.le_of_ble_eq_true rfl)⟩
def M_J0_isLatin1_aae02_y : MT := (yJ0_isLatin1_aae02, cJ0_isLatin1_aae02, 1, some .boolean, 1)
def f_J0_isLatin1_aae02_y (i0 : Nat) (σ : Mm) (K : Bool → Mm → Prop) : Prop := (i0 < 13 ∧ (K true σ))
set_option maxRecDepth 100000 in
set_option maxHeartbeats 4000000 in
theorem C_J0_isLatin1_aae02_y {g : GG} {i0 : Nat} {σ : Mm} {K : Bool → Mm → Prop} (h : f_J0_isLatin1_aae02_y i0 σ K) : Ct g 1 M_J0_isLatin1_aae02_y (QB g 1 K) [.ref (gaK g i0)] σ := by
  unfold f_J0_isLatin1_aae02_y at h
  obtain ⟨hi0, h⟩ := h
  refine Ct.of (L := [(0, .ref (gaK g i0))]) (show plainName RJ0 = true by decide) (Nat.le_of_ble_eq_true rfl) rfl ?_
  refine AW.getsC w_675 dJ0_isLatin1_aae02_0 ?_
  refine AW.if_eq (tgt := 17) dJ0_isLatin1_aae02_3 rfl (fun c => absurd c (by decide)) (fun _ => ?_)
  refine AW.aload_n dJ0_isLatin1_aae02_6 0 rfl ?_
  refine AW.scod hi0 w_1381 dJ0_isLatin1_aae02_7 ?_
  refine AW.if_ne (tgt := 17) dJ0_isLatin1_aae02_10 rfl (fun c => absurd c (by decide)) (fun _ => ?_)
  refine AW.iconst (v := (1 : Int32)) dJ0_isLatin1_aae02_13 rfl ?_
  refine AW.goto (tgt := 18) dJ0_isLatin1_aae02_14 rfl ?_
  exact AW.bret true rfl rfl dJ0_isLatin1_aae02_18 h
theorem ok_J0_isLatin1_aae02_y : OkV M_J0_isLatin1_aae02_y 0 := ⟨w_682, w_683, w_13, w_684, by decide +kernel, (Nat.le_of_ble_eq_true rfl)⟩
def M_J1_charAt_3b067_sby_y : MT := (yJ1_charAt_3b067, cJ1_charAt_3b067, 2, some .char, 3)
def f_J1_charAt_3b067_sby_y (i0 : Nat) (a1 : Int32) (σ : Mm) (K : Int32 → Mm → Prop) : Prop := (i0 < 13 ∧ (f_J0_checkIndex_df160 a1 (Int32.ofNat (strLn.getD i0 0)) σ (fun σ1 => (vp_in a1 (strLn.getD i0 0) ∧ (narrow .char (.int (((((strBy.getD i0 []).getD (a1.toNatClampNeg) 0) &&& (255 : Int32))).toUInt32.toUInt16.toUInt32.toInt32)) = .int (((((strBy.getD i0 []).getD (a1.toNatClampNeg) 0) &&& (255 : Int32))).toUInt32.toUInt16.toUInt32.toInt32) ∧ K (((((strBy.getD i0 []).getD (a1.toNatClampNeg) 0) &&& (255 : Int32))).toUInt32.toUInt16.toUInt32.toInt32) σ1)))))
set_option maxRecDepth 100000 in
set_option maxHeartbeats 4000000 in
theorem C_J1_charAt_3b067_sby_y {g : GG} {i0 : Nat} {a1 : Int32} {σ : Mm} {K : Int32 → Mm → Prop} (h : f_J1_charAt_3b067_sby_y i0 a1 σ K) : Ct g 1 M_J1_charAt_3b067_sby_y (QI g 1 K) [.ref (gaV g i0), .int a1] σ := by
  unfold f_J1_charAt_3b067_sby_y at h
  obtain ⟨hi0, h⟩ := h
  refine Ct.of (L := [(0, .ref (gaV g i0)), (1, .int a1)]) (show plainName RJ1 = true by decide) (Nat.le_of_ble_eq_true rfl) rfl ?_
  refine AW.iload_n dJ1_charAt_3b067_0 1 rfl ?_
  refine AW.aload_n dJ1_charAt_3b067_1 0 rfl ?_
  refine AW.slen hi0 dJ1_charAt_3b067_2 ?_
  refine AW.callSV [.int a1, .int (Int32.ofNat (strLn.getD i0 0))] (C_J0_checkIndex_df160 h) ok_J0_checkIndex_df160 w_688 rfl (Nat.le_of_ble_eq_true rfl) (Nat.le_of_ble_eq_true rfl) rfl dJ1_charAt_3b067_3 (fun σ1 h => ?_)
  refine AW.aload_n dJ1_charAt_3b067_6 0 rfl ?_
  refine AW.iload_n dJ1_charAt_3b067_7 1 rfl ?_
  obtain ⟨hq2, h⟩ := h
  refine AW.sbald hi0 hq2 dJ1_charAt_3b067_8 ?_
  refine AW.sipush (v := (255 : Int32)) dJ1_charAt_3b067_9 rfl ?_
  refine AW.iand dJ1_charAt_3b067_12 ?_
  refine AW.i2c dJ1_charAt_3b067_13 ?_
  obtain ⟨hn3, h⟩ := h
  exact AW.nret rfl hn3 dJ1_charAt_3b067_14 h
theorem ok_J1_charAt_3b067_sby_y : OkS M_J1_charAt_3b067_sby_y 2 := ⟨w_686, w_14, w_687, by decide +kernel, (Nat.le_of_ble_eq_true rfl)⟩
def M_J0_charAt_5068e_y : MT := (yJ0_charAt_5068e, cJ0_charAt_5068e, 2, some .char, 4)
def f_J0_charAt_5068e_y (i0 : Nat) (a1 : Int32) (σ : Mm) (K : Int32 → Mm → Prop) : Prop := (i0 < 13 ∧ (f_J0_isLatin1_aae02_y i0 σ (fun b2 σ1 => (if b2 = true then (f_J1_charAt_3b067_sby_y i0 a1 σ1 (fun r4 σ3 => (narrow .char (.int r4) = .int r4 ∧ K r4 σ3))) else False))))
set_option maxRecDepth 100000 in
set_option maxHeartbeats 4000000 in
theorem C_J0_charAt_5068e_y {g : GG} {i0 : Nat} {a1 : Int32} {σ : Mm} {K : Int32 → Mm → Prop} (h : f_J0_charAt_5068e_y i0 a1 σ K) : Ct g 1 M_J0_charAt_5068e_y (QI g 1 K) [.ref (gaK g i0), .int a1] σ := by
  unfold f_J0_charAt_5068e_y at h
  obtain ⟨hi0, h⟩ := h
  refine Ct.of (L := [(0, .ref (gaK g i0)), (1, .int a1)]) (show plainName RJ0 = true by decide) (Nat.le_of_ble_eq_true rfl) rfl ?_
  refine AW.aload_n dJ0_charAt_5068e_0 0 rfl ?_
  refine AW.callStrB [] (C_J0_isLatin1_aae02_y h) ok_J0_isLatin1_aae02_y hi0 w_681 rfl (Nat.le_of_ble_eq_true rfl) (Nat.le_of_ble_eq_true rfl) rfl dJ0_charAt_5068e_1 rfl (fun b2 σ1 h => ?_)
  refine AW.ifb_eq (tgt := 16) dJ0_charAt_5068e_4 rfl (fun c => ?_) (fun c => ?_)
  · replace h := ite_f c h
    refine AW.aload_n dJ0_charAt_5068e_16 0 rfl ?_
    refine AW.sval hi0 w_1380 dJ0_charAt_5068e_17 ?_
    refine AW.iload_n dJ0_charAt_5068e_20 1 rfl ?_
    exact False.elim h
  · replace h := ite_t c h
    refine AW.aload_n dJ0_charAt_5068e_7 0 rfl ?_
    refine AW.sval hi0 w_1380 dJ0_charAt_5068e_8 ?_
    refine AW.iload_n dJ0_charAt_5068e_11 1 rfl ?_
    refine AW.callSI [.ref (gaV g i0), .int a1] (C_J1_charAt_3b067_sby_y h) ok_J1_charAt_3b067_sby_y w_685 rfl (Nat.le_of_ble_eq_true rfl) (Nat.le_of_ble_eq_true rfl) rfl dJ0_charAt_5068e_12 (fun r4 σ3 h => ?_)
    obtain ⟨hn5, h⟩ := h
    exact AW.nret rfl hn5 dJ0_charAt_5068e_15 h
theorem ok_J0_charAt_5068e_y : OkV M_J0_charAt_5068e_y 1 := ⟨w_678, w_679, w_13, w_680, by decide +kernel, (Nat.le_of_ble_eq_true rfl)⟩
