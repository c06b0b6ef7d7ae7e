def M_X7_frees : MT := (yX7_frees, cX7_frees, 10, some .int, 8)
def f_X7_frees_136 (a2 : Int32) (a6 : Int32) (a7 : Int32) (a9 : Int32) (K : Int32 → Mm → Prop) (k45 : Int32 → Int32 → Int32 → Mm → Prop) (σ : Mm) : Prop := (k45 (((10 : Int32) * a6) + a7) a9 (a7 + (1 : Int32)) σ)
set_option maxRecDepth 100000 in
set_option maxHeartbeats 4000000 in
theorem T_X7_frees_136 {g : GG} {a2 : Int32} {a6 : Int32} {a7 : Int32} {a9 : Int32} {K : Int32 → Mm → Prop} {k45 : Int32 → Int32 → Int32 → Mm → Prop} {σ : Mm} (hk45 : ∀ (x4 : Int32) (x5 : Int32) (x7 : Int32) (u : Mm), k45 x4 x5 x7 u → AW g 1 M_X7_frees (QI g 1 K) 45 [(0, .ref (gad g 0 0)), (2, .int a2), (4, .int x4), (5, .int x5), (6, .int a6), (7, .int x7)] [] u) (h : f_X7_frees_136 a2 a6 a7 a9 K k45 σ) : AW g 1 M_X7_frees (QI g 1 K) 136 [(0, .ref (gad g 0 0)), (2, .int a2), (6, .int a6), (7, .int a7), (9, .int a9)] [] σ := by
  unfold f_X7_frees_136 at h
  refine AW.bipush (v := (10 : Int32)) dX7_frees_136 rfl ?_
  refine AW.iload dX7_frees_138 2 rfl ?_
  refine AW.imul dX7_frees_140 ?_
  refine AW.iload dX7_frees_141 3 rfl ?_
  refine AW.iadd dX7_frees_143 ?_
  refine AW.istore (L' := [(0, .ref (gad g 0 0)), (2, .int a2), (4, .int (((10 : Int32) * a6) + a7)), (6, .int a6), (7, .int a7), (9, .int a9)]) dX7_frees_144 (Nat.le_of_ble_eq_true rfl) rfl ?_
  refine AW.iload dX7_frees_146 5 rfl ?_
  refine AW.istore (L' := [(0, .ref (gad g 0 0)), (2, .int a2), (4, .int (((10 : Int32) * a6) + a7)), (5, .int a9), (6, .int a6), (7, .int a7), (9, .int a9)]) dX7_frees_148 (Nat.le_of_ble_eq_true rfl) rfl ?_
  refine AW.iinc (v := (a7 + (1 : Int32))) (L' := [(0, .ref (gad g 0 0)), (2, .int a2), (4, .int (((10 : Int32) * a6) + a7)), (5, .int a9), (6, .int a6), (7, .int (a7 + (1 : Int32))), (9, .int a9)]) dX7_frees_150 5 rfl rfl (Nat.le_of_ble_eq_true rfl) rfl ?_
  refine AW.goto (tgt := 45) dX7_frees_153 rfl ?_
  refine AW.eqL [0, 1, 2, 3, 4, 5] rfl ?_
  exact hk45 _ _ _ _ h
set_option maxRecDepth 100000 in
def f_X7_frees_45 (a2 : Int32) (a6 : Int32) (K : Int32 → Mm → Prop) (k156 : Int32 → Int32 → Mm → Prop) : Nat → Int32 → Int32 → Int32 → Mm → Prop
  | 0, _, _, _, _ => False
  | n + 1, a4, a5, a7, σ => (if (8 : Int32) ≤ a7 then (k156 a4 a5 σ) else (f_X7_has a2 a6 σ (fun b7 σ6 => (if b7 = true then (f_X7_has a2 a7 σ6 (fun b9 σ8 => (if b9 = true then (f_X7_areFriends a6 a7 σ8 (fun b11 σ10 => (if b11 = true then (f_X7_how a6 a7 σ10 (fun r13 σ12 => (f_X7_befriends a6 a7 (0 : Int32) σ12 (fun σ14 => (f_X7_seatingsOf a2 (-1 : Int32) σ14 (fun r16 σ15 => (f_X7_befriends a6 a7 r13 σ15 (fun σ17 => (if a4 < 0 then (f_X7_frees_136 a2 a6 a7 r16 K (f_X7_frees_45 a2 a6 K k156 n) σ17) else (if a5 < r16 then (f_X7_frees_136 a2 a6 a7 r16 K (f_X7_frees_45 a2 a6 K k156 n) σ17) else (f_X7_frees_45 a2 a6 K k156 n a4 a5 (a7 + (1 : Int32)) σ17))))))))))) else (f_X7_frees_45 a2 a6 K k156 n a4 a5 (a7 + (1 : Int32)) σ10)))) else (f_X7_frees_45 a2 a6 K k156 n a4 a5 (a7 + (1 : Int32)) σ8)))) else (f_X7_frees_45 a2 a6 K k156 n a4 a5 (a7 + (1 : Int32)) σ6)))))
set_option maxRecDepth 100000 in
set_option maxHeartbeats 4000000 in
theorem T_X7_frees_45 {g : GG} {a2 : Int32} {a6 : Int32} {K : Int32 → Mm → Prop} {k156 : Int32 → Int32 → Mm → Prop} (hk156 : ∀ (x4 : Int32) (x5 : Int32) (u : Mm), k156 x4 x5 u → AW g 1 M_X7_frees (QI g 1 K) 156 [(0, .ref (gad g 0 0)), (2, .int a2), (4, .int x4), (5, .int x5), (6, .int a6)] [] u) : ∀ (n : Nat) (a4 : Int32) (a5 : Int32) (a7 : Int32) (σ : Mm), f_X7_frees_45 a2 a6 K k156 n a4 a5 a7 σ → AW g 1 M_X7_frees (QI g 1 K) 45 [(0, .ref (gad g 0 0)), (2, .int a2), (4, .int a4), (5, .int a5), (6, .int a6), (7, .int a7)] [] σ := by
  intro n
  induction n with
  | zero => intro a4 a5 a7 σ h; exact False.elim h
  | succ n ih =>
    intro a4 a5 a7 σ h
    rw [f_X7_frees_45] at h
    refine AW.iload dX7_frees_45 5 rfl ?_
    refine AW.bipush (v := (8 : Int32)) dX7_frees_47 rfl ?_
    refine AW.icmp_ge (tgt := 156) dX7_frees_49 rfl (fun c => ?_) (fun c => ?_)
    · replace h := ite_t c h
      refine AW.eqL [0, 1, 2, 3, 4] rfl ?_
      exact hk156 _ _ _ h
    · replace h := ite_f c h
      refine AW.iload_n dX7_frees_52 1 rfl ?_
      refine AW.iload dX7_frees_53 4 rfl ?_
      refine AW.callSB [.int a2, .int a6] (C_X7_has h) ok_X7_has w_1125 rfl (Nat.le_of_ble_eq_true rfl) (Nat.le_of_ble_eq_true rfl) rfl dX7_frees_55 (fun b7 σ6 h => ?_)
      refine AW.ifb_eq (tgt := 150) dX7_frees_58 rfl (fun c => ?_) (fun c => ?_)
      · replace h := ite_f c h
        refine AW.iinc (v := (a7 + (1 : Int32))) (L' := [(0, .ref (gad g 0 0)), (2, .int a2), (4, .int a4), (5, .int a5), (6, .int a6), (7, .int (a7 + (1 : Int32)))]) dX7_frees_150 5 rfl rfl (Nat.le_of_ble_eq_true rfl) rfl ?_
        refine AW.goto (tgt := 45) dX7_frees_153 rfl ?_
        exact ih _ _ _ _ h
      · replace h := ite_t c h
        refine AW.iload_n dX7_frees_61 1 rfl ?_
        refine AW.iload dX7_frees_62 5 rfl ?_
        refine AW.callSB [.int a2, .int a7] (C_X7_has h) ok_X7_has w_1125 rfl (Nat.le_of_ble_eq_true rfl) (Nat.le_of_ble_eq_true rfl) rfl dX7_frees_64 (fun b9 σ8 h => ?_)
        refine AW.ifb_eq (tgt := 150) dX7_frees_67 rfl (fun c => ?_) (fun c => ?_)
        · replace h := ite_f c h
          refine AW.iinc (v := (a7 + (1 : Int32))) (L' := [(0, .ref (gad g 0 0)), (2, .int a2), (4, .int a4), (5, .int a5), (6, .int a6), (7, .int (a7 + (1 : Int32)))]) dX7_frees_150 5 rfl rfl (Nat.le_of_ble_eq_true rfl) rfl ?_
          refine AW.goto (tgt := 45) dX7_frees_153 rfl ?_
          exact ih _ _ _ _ h
        · replace h := ite_t c h
          refine AW.aload_n dX7_frees_70 0 rfl ?_
          refine AW.iload dX7_frees_71 4 rfl ?_
          refine AW.iload dX7_frees_73 5 rfl ?_
          refine AW.callVB [.int a6, .int a7] (C_X7_areFriends h) ok_X7_areFriends (id1_0_0) rfl rfl w_990 rfl (Nat.le_of_ble_eq_true rfl) (Nat.le_of_ble_eq_true rfl) rfl dX7_frees_75 (fun b11 σ10 h => ?_)
          refine AW.ifb_ne (tgt := 84) dX7_frees_78 rfl (fun c => ?_) (fun c => ?_)
          · replace h := ite_t c h
            refine AW.aload_n dX7_frees_84 0 rfl ?_
            refine AW.iload dX7_frees_85 4 rfl ?_
            refine AW.iload dX7_frees_87 5 rfl ?_
            refine AW.callVI [.int a6, .int a7] (C_X7_how h) ok_X7_how (id1_0_0) rfl rfl w_956 rfl (Nat.le_of_ble_eq_true rfl) (Nat.le_of_ble_eq_true rfl) rfl dX7_frees_89 (fun r13 σ12 h => ?_)
            refine AW.istore (L' := [(0, .ref (gad g 0 0)), (2, .int a2), (4, .int a4), (5, .int a5), (6, .int a6), (7, .int a7), (8, .int r13)]) dX7_frees_92 (Nat.le_of_ble_eq_true rfl) rfl ?_
            refine AW.aload_n dX7_frees_94 0 rfl ?_
            refine AW.iload dX7_frees_95 4 rfl ?_
            refine AW.iload dX7_frees_97 5 rfl ?_
            refine AW.iconst (v := (0 : Int32)) dX7_frees_99 rfl ?_
            refine AW.callVV [.int a6, .int a7, .int (0 : Int32)] (C_X7_befriends h) ok_X7_befriends (id1_0_0) rfl rfl w_960 rfl (Nat.le_of_ble_eq_true rfl) (Nat.le_of_ble_eq_true rfl) rfl dX7_frees_100 (fun σ14 h => ?_)
            refine AW.aload_n dX7_frees_103 0 rfl ?_
            refine AW.iload_n dX7_frees_104 1 rfl ?_
            refine AW.iconst (v := (-1 : Int32)) dX7_frees_105 rfl ?_
            refine AW.callVI [.int a2, .int (-1 : Int32)] (C_X7_seatingsOf h) ok_X7_seatingsOf (id1_0_0) rfl rfl w_1158 rfl (Nat.le_of_ble_eq_true rfl) (Nat.le_of_ble_eq_true rfl) rfl dX7_frees_106 (fun r16 σ15 h => ?_)
            refine AW.istore (L' := [(0, .ref (gad g 0 0)), (2, .int a2), (4, .int a4), (5, .int a5), (6, .int a6), (7, .int a7), (8, .int r13), (9, .int r16)]) dX7_frees_109 (Nat.le_of_ble_eq_true rfl) rfl ?_
            refine AW.aload_n dX7_frees_111 0 rfl ?_
            refine AW.iload dX7_frees_112 4 rfl ?_
            refine AW.iload dX7_frees_114 5 rfl ?_
            refine AW.iload dX7_frees_116 6 rfl ?_
            refine AW.callVV [.int a6, .int a7, .int r13] (C_X7_befriends h) ok_X7_befriends (id1_0_0) rfl rfl w_960 rfl (Nat.le_of_ble_eq_true rfl) (Nat.le_of_ble_eq_true rfl) rfl dX7_frees_118 (fun σ17 h => ?_)
            refine AW.iload dX7_frees_121 2 rfl ?_
            refine AW.if_lt (tgt := 136) dX7_frees_123 rfl (fun c => ?_) (fun c => ?_)
            · replace h := ite_t c h
              refine AW.eqL [0, 1, 4, 5, 7] rfl ?_
              exact T_X7_frees_136 ih h
            · replace h := ite_f c h
              refine AW.iload dX7_frees_126 7 rfl ?_
              refine AW.iload dX7_frees_128 3 rfl ?_
              refine AW.icmp_gt (tgt := 136) dX7_frees_130 rfl (fun c => ?_) (fun c => ?_)
              · replace h := ite_t c h
                refine AW.eqL [0, 1, 4, 5, 7] rfl ?_
                exact T_X7_frees_136 ih h
              · replace h := ite_f c h
                refine AW.goto (tgt := 150) dX7_frees_133 rfl ?_
                refine AW.iinc (v := (a7 + (1 : Int32))) (L' := [(0, .ref (gad g 0 0)), (2, .int a2), (4, .int a4), (5, .int a5), (6, .int a6), (7, .int (a7 + (1 : Int32))), (8, .int r13), (9, .int r16)]) dX7_frees_150 5 rfl rfl (Nat.le_of_ble_eq_true rfl) rfl ?_
                refine AW.goto (tgt := 45) dX7_frees_153 rfl ?_
                refine AW.eqL [0, 1, 2, 3, 4, 5] rfl ?_
                exact ih _ _ _ _ h
          · replace h := ite_f c h
            refine AW.goto (tgt := 150) dX7_frees_81 rfl ?_
            refine AW.iinc (v := (a7 + (1 : Int32))) (L' := [(0, .ref (gad g 0 0)), (2, .int a2), (4, .int a4), (5, .int a5), (6, .int a6), (7, .int (a7 + (1 : Int32)))]) dX7_frees_150 5 rfl rfl (Nat.le_of_ble_eq_true rfl) rfl ?_
            refine AW.goto (tgt := 45) dX7_frees_153 rfl ?_
            exact ih _ _ _ _ h
set_option maxRecDepth 100000 in
def f_X7_frees_32 (a2 : Int32) (K : Int32 → Mm → Prop) : Nat → Int32 → Int32 → Int32 → Mm → Prop
  | 0, _, _, _, _ => False
  | n + 1, a4, a5, a6, σ => (if (8 : Int32) ≤ a6 then (f_X7_orNone a4 σ (fun r5 σ4 => (K r5 σ4))) else (∃ m, f_X7_frees_45 a2 a6 K (fun a4x18 a5x18 σ18 => (f_X7_frees_32 a2 K n a4x18 a5x18 (a6 + (1 : Int32)) σ18)) m a4 a5 (a6 + (1 : Int32)) σ))
set_option maxRecDepth 100000 in
set_option maxHeartbeats 4000000 in
theorem T_X7_frees_32 {g : GG} {a2 : Int32} {K : Int32 → Mm → Prop} : ∀ (n : Nat) (a4 : Int32) (a5 : Int32) (a6 : Int32) (σ : Mm), f_X7_frees_32 a2 K n a4 a5 a6 σ → AW g 1 M_X7_frees (QI g 1 K) 32 [(0, .ref (gad g 0 0)), (2, .int a2), (4, .int a4), (5, .int a5), (6, .int a6)] [] σ := by
  intro n
  induction n with
  | zero => intro a4 a5 a6 σ h; exact False.elim h
  | succ n ih =>
    intro a4 a5 a6 σ h
    rw [f_X7_frees_32] at h
    refine AW.iload dX7_frees_32 4 rfl ?_
    refine AW.bipush (v := (8 : Int32)) dX7_frees_34 rfl ?_
    refine AW.icmp_ge (tgt := 162) dX7_frees_36 rfl (fun c => ?_) (fun c => ?_)
    · replace h := ite_t c h
      refine AW.aload_n dX7_frees_162 0 rfl ?_
      refine AW.iload dX7_frees_163 2 rfl ?_
      refine AW.callVI [.int a4] (C_X7_orNone h) ok_X7_orNone (id1_0_0) rfl rfl w_1080 rfl (Nat.le_of_ble_eq_true rfl) (Nat.le_of_ble_eq_true rfl) rfl dX7_frees_165 (fun r5 σ4 h => ?_)
      exact AW.iret rfl dX7_frees_168 h
    · replace h := ite_f c h
      refine AW.iload dX7_frees_39 4 rfl ?_
      refine AW.iconst (v := (1 : Int32)) dX7_frees_41 rfl ?_
      refine AW.iadd dX7_frees_42 ?_
      refine AW.istore (L' := [(0, .ref (gad g 0 0)), (2, .int a2), (4, .int a4), (5, .int a5), (6, .int a6), (7, .int (a6 + (1 : Int32)))]) dX7_frees_43 (Nat.le_of_ble_eq_true rfl) rfl ?_
      obtain ⟨m, h⟩ := h
      refine T_X7_frees_45 (fun a4x18 a5x18 σ18 h => ?_) m _ _ _ _ h
      refine AW.iinc (v := (a6 + (1 : Int32))) (L' := [(0, .ref (gad g 0 0)), (2, .int a2), (4, .int a4x18), (5, .int a5x18), (6, .int (a6 + (1 : Int32)))]) dX7_frees_156 4 rfl rfl (Nat.le_of_ble_eq_true rfl) rfl ?_
      refine AW.goto (tgt := 32) dX7_frees_159 rfl ?_
      exact ih _ _ _ _ h
def f_X7_frees (a1 : Int32) (a2 : Int32) (σ : Mm) (K : Int32 → Mm → Prop) : Prop := (f_X7_wrongSet a1 a2 (1 : Int32) σ (fun r2 σ1 => (if 0 ≤ r2 then (f_X7_looksAt a1 σ1 (fun σ3 => (∃ m, f_X7_frees_32 a2 K m (-1 : Int32) (0 : Int32) (0 : Int32) σ3))) else (f_X7_finds r2 σ1 (fun r20 σ19 => (K r20 σ19))))))
set_option maxRecDepth 100000 in
set_option maxHeartbeats 4000000 in
theorem C_X7_frees {g : GG} {a1 : Int32} {a2 : Int32} {σ : Mm} {K : Int32 → Mm → Prop} (h : f_X7_frees a1 a2 σ K) : Ct g 1 M_X7_frees (QI g 1 K) [.ref (gad g 0 0), .int a1, .int a2] σ := by
  unfold f_X7_frees at h
  refine Ct.of (L := [(0, .ref (gad g 0 0)), (1, .int a1), (2, .int a2)]) (show plainName RX7 = true by decide) (Nat.le_of_ble_eq_true rfl) rfl ?_
  refine AW.aload_n dX7_frees_0 0 rfl ?_
  refine AW.iload_n dX7_frees_1 1 rfl ?_
  refine AW.iload_n dX7_frees_2 2 rfl ?_
  refine AW.iconst (v := (1 : Int32)) dX7_frees_3 rfl ?_
  refine AW.callVI [.int a1, .int a2, .int (1 : Int32)] (C_X7_wrongSet h) ok_X7_wrongSet (id1_0_0) rfl rfl w_1146 rfl (Nat.le_of_ble_eq_true rfl) (Nat.le_of_ble_eq_true rfl) rfl dX7_frees_4 (fun r2 σ1 h => ?_)
  refine AW.istore_n (L' := [(0, .ref (gad g 0 0)), (1, .int a1), (2, .int a2), (3, .int r2)]) dX7_frees_7 (Nat.le_of_ble_eq_true rfl) rfl ?_
  refine AW.iload_n dX7_frees_8 3 rfl ?_
  refine AW.if_ge (tgt := 18) dX7_frees_9 rfl (fun c => ?_) (fun c => ?_)
  · replace h := ite_t c h
    refine AW.aload_n dX7_frees_18 0 rfl ?_
    refine AW.iload_n dX7_frees_19 1 rfl ?_
    refine AW.callVV [.int a1] (C_X7_looksAt h) ok_X7_looksAt (id1_0_0) rfl rfl w_1020 rfl (Nat.le_of_ble_eq_true rfl) (Nat.le_of_ble_eq_true rfl) rfl dX7_frees_20 (fun σ3 h => ?_)
    refine AW.iconst (v := (-1 : Int32)) dX7_frees_23 rfl ?_
    refine AW.istore (L' := [(0, .ref (gad g 0 0)), (1, .int a1), (2, .int a2), (3, .int r2), (4, .int (-1 : Int32))]) dX7_frees_24 (Nat.le_of_ble_eq_true rfl) rfl ?_
    refine AW.iconst (v := (0 : Int32)) dX7_frees_26 rfl ?_
    refine AW.istore (L' := [(0, .ref (gad g 0 0)), (1, .int a1), (2, .int a2), (3, .int r2), (4, .int (-1 : Int32)), (5, .int (0 : Int32))]) dX7_frees_27 (Nat.le_of_ble_eq_true rfl) rfl ?_
    refine AW.iconst (v := (0 : Int32)) dX7_frees_29 rfl ?_
    refine AW.istore (L' := [(0, .ref (gad g 0 0)), (1, .int a1), (2, .int a2), (3, .int r2), (4, .int (-1 : Int32)), (5, .int (0 : Int32)), (6, .int (0 : Int32))]) dX7_frees_30 (Nat.le_of_ble_eq_true rfl) rfl ?_
    obtain ⟨m, h⟩ := h
    refine AW.eqL [0, 2, 4, 5, 6] rfl ?_
    refine T_X7_frees_32 m _ _ _ _ h
  · replace h := ite_f c h
    refine AW.aload_n dX7_frees_12 0 rfl ?_
    refine AW.iload_n dX7_frees_13 3 rfl ?_
    refine AW.callVI [.int r2] (C_X7_finds h) ok_X7_finds (id1_0_0) rfl rfl w_952 rfl (Nat.le_of_ble_eq_true rfl) (Nat.le_of_ble_eq_true rfl) rfl dX7_frees_14 (fun r20 σ19 h => ?_)
    exact AW.iret rfl dX7_frees_17 h
theorem ok_X7_frees : OkV M_X7_frees 2 := ⟨w_1175, w_1176, w_9, w_1177, by decide +kernel, (Nat.le_of_ble_eq_true rfl)⟩
def M_X7_often : MT := (yX7_often, cX7_often, 6, some .int, 8)
def f_X7_often_33 (a1 : Int32) (a2 : Int32) (a3 : Int32) (a4 : Int32) (as3 : Int32) (as2 : Int32) (as1 : Int32) (K : Int32 → Mm → Prop) (σ : Mm) : Prop := (f_X7_wrongSet as1 as2 as3 σ (fun r4 σ3 => (if 0 ≤ r4 then (f_X7_looksAt a1 σ3 (fun σ5 => (f_X7_seatingsOf a2 (-1 : Int32) σ5 (fun r7 σ6 => (vp_in (((8 : Int32) * a3) + a4) 64 ∧ (K (σ6 6 0 ((((8 : Int32) * a3) + a4).toNatClampNeg)) σ6)))))) else (f_X7_finds r4 σ3 (fun r10 σ9 => (K r10 σ9))))))
set_option maxRecDepth 100000 in
set_option maxHeartbeats 4000000 in
theorem T_X7_often_33 {g : GG} {a1 : Int32} {a2 : Int32} {a3 : Int32} {a4 : Int32} {as3 : Int32} {as2 : Int32} {as1 : Int32} {K : Int32 → Mm → Prop} {σ : Mm} (h : f_X7_often_33 a1 a2 a3 a4 as3 as2 as1 K σ) : AW g 1 M_X7_often (QI g 1 K) 33 [(0, .ref (gad g 0 0)), (1, .int a1), (2, .int a2), (3, .int a3), (4, .int a4)] [.int as3, .int as2, .int as1, .ref (gad g 0 0)] σ := by
  unfold f_X7_often_33 at h
  refine AW.callVI [.int as1, .int as2, .int as3] (C_X7_wrongSet h) ok_X7_wrongSet (id1_0_0) rfl rfl w_1146 rfl (Nat.le_of_ble_eq_true rfl) (Nat.le_of_ble_eq_true rfl) rfl dX7_often_33 (fun r4 σ3 h => ?_)
  refine AW.istore (L' := [(0, .ref (gad g 0 0)), (1, .int a1), (2, .int a2), (3, .int a3), (4, .int a4), (5, .int r4)]) dX7_often_36 (Nat.le_of_ble_eq_true rfl) rfl ?_
  refine AW.iload dX7_often_38 5 rfl ?_
  refine AW.if_ge (tgt := 50) dX7_often_40 rfl (fun c => ?_) (fun c => ?_)
  · replace h := ite_t c h
    refine AW.aload_n dX7_often_50 0 rfl ?_
    refine AW.iload_n dX7_often_51 1 rfl ?_
    refine AW.callVV [.int a1] (C_X7_looksAt h) ok_X7_looksAt (id1_0_0) rfl rfl w_1020 rfl (Nat.le_of_ble_eq_true rfl) (Nat.le_of_ble_eq_true rfl) rfl dX7_often_52 (fun σ5 h => ?_)
    refine AW.aload_n dX7_often_55 0 rfl ?_
    refine AW.iload_n dX7_often_56 2 rfl ?_
    refine AW.iconst (v := (-1 : Int32)) dX7_often_57 rfl ?_
    refine AW.callVI [.int a2, .int (-1 : Int32)] (C_X7_seatingsOf h) ok_X7_seatingsOf (id1_0_0) rfl rfl w_1158 rfl (Nat.le_of_ble_eq_true rfl) (Nat.le_of_ble_eq_true rfl) rfl dX7_often_58 (fun r7 σ6 h => ?_)
    refine AW.pop dX7_often_61 rfl ?_
    refine AW.aload_n dX7_often_62 0 rfl ?_
    refine AW.get (k := 8) (v := .ref (gad g 6 0)) (id1_0_0) rfl rfl inGX7 (Nat.le_of_ble_eq_true rfl) w_880 rfl dX7_often_63 ?_
    refine AW.bipush (v := (8 : Int32)) dX7_often_66 rfl ?_
    refine AW.iload_n dX7_often_68 3 rfl ?_
    refine AW.imul dX7_often_69 ?_
    refine AW.iload dX7_often_70 4 rfl ?_
    refine AW.iadd dX7_often_72 ?_
    obtain ⟨hq8, h⟩ := h
    refine AW.iald (jn := ((((8 : Int32) * a3) + a4).toNatClampNeg)) (id1_6_0) rfl hq8 rfl dX7_often_73 ?_
    exact AW.iret rfl dX7_often_74 h
  · replace h := ite_f c h
    refine AW.aload_n dX7_often_43 0 rfl ?_
    refine AW.iload dX7_often_44 5 rfl ?_
    refine AW.callVI [.int r4] (C_X7_finds h) ok_X7_finds (id1_0_0) rfl rfl w_952 rfl (Nat.le_of_ble_eq_true rfl) (Nat.le_of_ble_eq_true rfl) rfl dX7_often_46 (fun r10 σ9 h => ?_)
    exact AW.iret rfl dX7_often_49 h
def f_X7_often_32 (a1 : Int32) (a2 : Int32) (a3 : Int32) (a4 : Int32) (as2 : Int32) (as1 : Int32) (K : Int32 → Mm → Prop) (σ : Mm) : Prop := (f_X7_often_33 a1 a2 a3 a4 (0 : Int32) as2 as1 K σ)
set_option maxRecDepth 100000 in
set_option maxHeartbeats 4000000 in
theorem T_X7_often_32 {g : GG} {a1 : Int32} {a2 : Int32} {a3 : Int32} {a4 : Int32} {as2 : Int32} {as1 : Int32} {K : Int32 → Mm → Prop} {σ : Mm} (h : f_X7_often_32 a1 a2 a3 a4 as2 as1 K σ) : AW g 1 M_X7_often (QI g 1 K) 32 [(0, .ref (gad g 0 0)), (1, .int a1), (2, .int a2), (3, .int a3), (4, .int a4)] [.int as2, .int as1, .ref (gad g 0 0)] σ := by
  unfold f_X7_often_32 at h
  refine AW.iconst (v := (0 : Int32)) dX7_often_32 rfl ?_
  exact T_X7_often_33 h
def f_X7_often (a1 : Int32) (a2 : Int32) (a3 : Int32) (a4 : Int32) (σ : Mm) (K : Int32 → Mm → Prop) : Prop := (f_X7_isSeat a1 a4 σ (fun b2 σ1 => (if b2 = true then (f_X7_isPerson a3 σ1 (fun b12 σ11 => (if b12 = true then (f_X7_has a2 a3 σ11 (fun b14 σ13 => (if b14 = true then (f_X7_often_33 a1 a2 a3 a4 (1 : Int32) a2 a1 K σ13) else (f_X7_often_32 a1 a2 a3 a4 a2 a1 K σ13)))) else (f_X7_often_32 a1 a2 a3 a4 a2 a1 K σ11)))) else (f_X7_often_32 a1 a2 a3 a4 a2 a1 K σ1))))
set_option maxRecDepth 100000 in
set_option maxHeartbeats 4000000 in
theorem C_X7_often {g : GG} {a1 : Int32} {a2 : Int32} {a3 : Int32} {a4 : Int32} {σ : Mm} {K : Int32 → Mm → Prop} (h : f_X7_often a1 a2 a3 a4 σ K) : Ct g 1 M_X7_often (QI g 1 K) [.ref (gad g 0 0), .int a1, .int a2, .int a3, .int a4] σ := by
  unfold f_X7_often at h
  refine Ct.of (L := [(0, .ref (gad g 0 0)), (1, .int a1), (2, .int a2), (3, .int a3), (4, .int a4)]) (show plainName RX7 = true by decide) (Nat.le_of_ble_eq_true rfl) rfl ?_
  refine AW.aload_n dX7_often_0 0 rfl ?_
  refine AW.iload_n dX7_often_1 1 rfl ?_
  refine AW.iload_n dX7_often_2 2 rfl ?_
  refine AW.aload_n dX7_often_3 0 rfl ?_
  refine AW.iload_n dX7_often_4 1 rfl ?_
  refine AW.iload dX7_often_5 4 rfl ?_
  refine AW.callVB [.int a1, .int a4] (C_X7_isSeat h) ok_X7_isSeat (id1_0_0) rfl rfl w_1068 rfl (Nat.le_of_ble_eq_true rfl) (Nat.le_of_ble_eq_true rfl) rfl dX7_often_7 (fun b2 σ1 h => ?_)
  refine AW.ifb_eq (tgt := 32) dX7_often_10 rfl (fun c => ?_) (fun c => ?_)
  · replace h := ite_f c h
    exact T_X7_often_32 h
  · replace h := ite_t c h
    refine AW.iload_n dX7_often_13 3 rfl ?_
    refine AW.callSB [.int a3] (C_X7_isPerson h) ok_X7_isPerson w_943 rfl (Nat.le_of_ble_eq_true rfl) (Nat.le_of_ble_eq_true rfl) rfl dX7_often_14 (fun b12 σ11 h => ?_)
    refine AW.ifb_eq (tgt := 32) dX7_often_17 rfl (fun c => ?_) (fun c => ?_)
    · replace h := ite_f c h
      exact T_X7_often_32 h
    · replace h := ite_t c h
      refine AW.iload_n dX7_often_20 2 rfl ?_
      refine AW.iload_n dX7_often_21 3 rfl ?_
      refine AW.callSB [.int a2, .int a3] (C_X7_has h) ok_X7_has w_1125 rfl (Nat.le_of_ble_eq_true rfl) (Nat.le_of_ble_eq_true rfl) rfl dX7_often_22 (fun b14 σ13 h => ?_)
      refine AW.ifb_eq (tgt := 32) dX7_often_25 rfl (fun c => ?_) (fun c => ?_)
      · replace h := ite_f c h
        exact T_X7_often_32 h
      · replace h := ite_t c h
        refine AW.iconst (v := (1 : Int32)) dX7_often_28 rfl ?_
        refine AW.goto (tgt := 33) dX7_often_29 rfl ?_
        exact T_X7_often_33 h
theorem ok_X7_often : OkV M_X7_often 4 := ⟨w_1179, w_1180, w_9, w_1181, by decide +kernel, (Nat.le_of_ble_eq_true rfl)⟩
def M_X7_needs : MT := (yX7_needs, cX7_needs, 3, some .int, 8)
set_option maxRecDepth 100000 in
def f_X7_needs_52 (a2 : Int32) (K : Int32 → Mm → Prop) : Nat → Mm → Prop
  | 0, _ => False
  | n + 1, σ => (if (8 : Int32) < (σ 0 0 7) then (f_X7_finds (-1000004 : Int32) σ (fun r14 σ13 => (K r14 σ13))) else (f_X7_seatingsOf a2 (-1 : Int32) σ (fun r16 σ15 => (if r16 ≤ 0 then (∃ σ17, σ17 = mset σ15 0 0 7 ((σ15 0 0 7) + (1 : Int32)) ∧ (f_X7_needs_52 a2 K n σ17)) else (K (σ15 0 0 7) σ15)))))
set_option maxRecDepth 100000 in
set_option maxHeartbeats 4000000 in
theorem T_X7_needs_52 {g : GG} {a2 : Int32} {K : Int32 → Mm → Prop} : ∀ (n : Nat) (σ : Mm), f_X7_needs_52 a2 K n σ → AW g 1 M_X7_needs (QI g 1 K) 52 [(0, .ref (gad g 0 0)), (2, .int a2)] [] σ := by
  intro n
  induction n with
  | zero => intro σ h; exact False.elim h
  | succ n ih =>
    intro σ h
    rw [f_X7_needs_52] at h
    refine AW.aload_n dX7_needs_52 0 rfl ?_
    refine AW.get (k := 7) (v := .int (σ 0 0 7)) (id1_0_0) rfl rfl inGX7 (Nat.le_of_ble_eq_true rfl) w_879 rfl dX7_needs_53 ?_
    refine AW.bipush (v := (8 : Int32)) dX7_needs_56 rfl ?_
    refine AW.icmp_gt (tgt := 88) dX7_needs_58 rfl (fun c => ?_) (fun c => ?_)
    · replace h := ite_t c h
      refine AW.aload_n dX7_needs_88 0 rfl ?_
      refine AW.ldc (v := (-1000004 : Int32)) dX7_needs_89 w_1084 ?_
      refine AW.callVI [.int (-1000004 : Int32)] (C_X7_finds h) ok_X7_finds (id1_0_0) rfl rfl w_952 rfl (Nat.le_of_ble_eq_true rfl) (Nat.le_of_ble_eq_true rfl) rfl dX7_needs_91 (fun r14 σ13 h => ?_)
      exact AW.iret rfl dX7_needs_94 h
    · replace h := ite_f c h
      refine AW.aload_n dX7_needs_61 0 rfl ?_
      refine AW.iload_n dX7_needs_62 1 rfl ?_
      refine AW.iconst (v := (-1 : Int32)) dX7_needs_63 rfl ?_
      refine AW.callVI [.int a2, .int (-1 : Int32)] (C_X7_seatingsOf h) ok_X7_seatingsOf (id1_0_0) rfl rfl w_1158 rfl (Nat.le_of_ble_eq_true rfl) (Nat.le_of_ble_eq_true rfl) rfl dX7_needs_64 (fun r16 σ15 h => ?_)
      refine AW.if_le (tgt := 75) dX7_needs_67 rfl (fun c => ?_) (fun c => ?_)
      · replace h := ite_t c h
        refine AW.aload_n dX7_needs_75 0 rfl ?_
        refine AW.dup dX7_needs_76 rfl ?_
        refine AW.get (k := 7) (v := .int (σ15 0 0 7)) (id1_0_0) rfl rfl inGX7 (Nat.le_of_ble_eq_true rfl) w_879 rfl dX7_needs_77 ?_
        refine AW.iconst (v := (1 : Int32)) dX7_needs_80 rfl ?_
        refine AW.iadd dX7_needs_81 ?_
        refine AW.put (k := 7) (w := ((σ15 0 0 7) + (1 : Int32))) (id1_0_0) rfl rfl inGX7 tyX7_ok nmX7 (Nat.le_of_ble_eq_true rfl) w_879 rfl rfl rfl rfl (Nat.le_of_ble_eq_true rfl) rfl dX7_needs_82 ?_
        obtain ⟨σ17, eσ17, h⟩ := h
        rw [← eσ17]
        refine AW.goto (tgt := 52) dX7_needs_85 rfl ?_
        exact ih _ h
      · replace h := ite_f c h
        refine AW.aload_n dX7_needs_70 0 rfl ?_
        refine AW.get (k := 7) (v := .int (σ15 0 0 7)) (id1_0_0) rfl rfl inGX7 (Nat.le_of_ble_eq_true rfl) w_879 rfl dX7_needs_71 ?_
        exact AW.iret rfl dX7_needs_74 h
def f_X7_needs (a1 : Int32) (a2 : Int32) (σ : Mm) (K : Int32 → Mm → Prop) : Prop := (f_X7_isBench a1 σ (fun b2 σ1 => (if b2 = true then (f_X7_isSet a2 σ1 (fun b6 σ5 => (if b6 = true then (f_X7_many a2 σ5 (fun r8 σ7 => (if r8 ≤ (6 : Int32) then (f_X7_kindOf a1 σ7 (fun r10 σ9 => (∃ σ11, σ11 = mset σ9 0 0 6 r10 ∧ (∃ σ12, σ12 = mset σ11 0 0 7 (1 : Int32) ∧ (∃ m, f_X7_needs_52 a2 K m σ12))))) else (f_X7_finds (-1000007 : Int32) σ7 (fun r19 σ18 => (K r19 σ18)))))) else (f_X7_finds (-1000001 : Int32) σ5 (fun r21 σ20 => (K r21 σ20)))))) else (f_X7_finds (-1000001 : Int32) σ1 (fun r4 σ3 => (K r4 σ3))))))
set_option maxRecDepth 100000 in
set_option maxHeartbeats 4000000 in
theorem C_X7_needs {g : GG} {a1 : Int32} {a2 : Int32} {σ : Mm} {K : Int32 → Mm → Prop} (h : f_X7_needs a1 a2 σ K) : Ct g 1 M_X7_needs (QI g 1 K) [.ref (gad g 0 0), .int a1, .int a2] σ := by
  unfold f_X7_needs at h
  refine Ct.of (L := [(0, .ref (gad g 0 0)), (1, .int a1), (2, .int a2)]) (show plainName RX7 = true by decide) (Nat.le_of_ble_eq_true rfl) rfl ?_
  refine AW.aload_n dX7_needs_0 0 rfl ?_
  refine AW.iload_n dX7_needs_1 1 rfl ?_
  refine AW.callVB [.int a1] (C_X7_isBench h) ok_X7_isBench (id1_0_0) rfl rfl w_1015 rfl (Nat.le_of_ble_eq_true rfl) (Nat.le_of_ble_eq_true rfl) rfl dX7_needs_2 (fun b2 σ1 h => ?_)
  refine AW.ifb_eq (tgt := 15) dX7_needs_5 rfl (fun c => ?_) (fun c => ?_)
  · replace h := ite_f c h
    refine AW.aload_n dX7_needs_15 0 rfl ?_
    refine AW.ldc (v := (-1000001 : Int32)) dX7_needs_16 w_951 ?_
    refine AW.callVI [.int (-1000001 : Int32)] (C_X7_finds h) ok_X7_finds (id1_0_0) rfl rfl w_952 rfl (Nat.le_of_ble_eq_true rfl) (Nat.le_of_ble_eq_true rfl) rfl dX7_needs_18 (fun r4 σ3 h => ?_)
    exact AW.iret rfl dX7_needs_21 h
  · replace h := ite_t c h
    refine AW.iload_n dX7_needs_8 2 rfl ?_
    refine AW.callSB [.int a2] (C_X7_isSet h) ok_X7_isSet w_1150 rfl (Nat.le_of_ble_eq_true rfl) (Nat.le_of_ble_eq_true rfl) rfl dX7_needs_9 (fun b6 σ5 h => ?_)
    refine AW.ifb_ne (tgt := 22) dX7_needs_12 rfl (fun c => ?_) (fun c => ?_)
    · replace h := ite_t c h
      refine AW.iload_n dX7_needs_22 2 rfl ?_
      refine AW.callSI [.int a2] (C_X7_many h) ok_X7_many w_1154 rfl (Nat.le_of_ble_eq_true rfl) (Nat.le_of_ble_eq_true rfl) rfl dX7_needs_23 (fun r8 σ7 h => ?_)
      refine AW.bipush (v := (6 : Int32)) dX7_needs_26 rfl ?_
      refine AW.icmp_le (tgt := 38) dX7_needs_28 rfl (fun c => ?_) (fun c => ?_)
      · replace h := ite_t c h
        refine AW.aload_n dX7_needs_38 0 rfl ?_
        refine AW.aload_n dX7_needs_39 0 rfl ?_
        refine AW.iload_n dX7_needs_40 1 rfl ?_
        refine AW.callVI [.int a1] (C_X7_kindOf h) ok_X7_kindOf (id1_0_0) rfl rfl w_1024 rfl (Nat.le_of_ble_eq_true rfl) (Nat.le_of_ble_eq_true rfl) rfl dX7_needs_41 (fun r10 σ9 h => ?_)
        refine AW.put (k := 6) (w := r10) (id1_0_0) rfl rfl inGX7 tyX7_ok nmX7 (Nat.le_of_ble_eq_true rfl) w_878 rfl rfl rfl rfl (Nat.le_of_ble_eq_true rfl) rfl dX7_needs_44 ?_
        obtain ⟨σ11, eσ11, h⟩ := h
        rw [← eσ11]
        refine AW.aload_n dX7_needs_47 0 rfl ?_
        refine AW.iconst (v := (1 : Int32)) dX7_needs_48 rfl ?_
        refine AW.put (k := 7) (w := (1 : Int32)) (id1_0_0) rfl rfl inGX7 tyX7_ok nmX7 (Nat.le_of_ble_eq_true rfl) w_879 rfl rfl rfl rfl (Nat.le_of_ble_eq_true rfl) rfl dX7_needs_49 ?_
        obtain ⟨σ12, eσ12, h⟩ := h
        rw [← eσ12]
        obtain ⟨m, h⟩ := h
        refine AW.eqL [0, 2] rfl ?_
        refine T_X7_needs_52 m _ h
      · replace h := ite_f c h
        refine AW.aload_n dX7_needs_31 0 rfl ?_
        refine AW.ldc (v := (-1000007 : Int32)) dX7_needs_32 w_1157 ?_
        refine AW.callVI [.int (-1000007 : Int32)] (C_X7_finds h) ok_X7_finds (id1_0_0) rfl rfl w_952 rfl (Nat.le_of_ble_eq_true rfl) (Nat.le_of_ble_eq_true rfl) rfl dX7_needs_34 (fun r19 σ18 h => ?_)
        exact AW.iret rfl dX7_needs_37 h
    · replace h := ite_f c h
      refine AW.aload_n dX7_needs_15 0 rfl ?_
      refine AW.ldc (v := (-1000001 : Int32)) dX7_needs_16 w_951 ?_
      refine AW.callVI [.int (-1000001 : Int32)] (C_X7_finds h) ok_X7_finds (id1_0_0) rfl rfl w_952 rfl (Nat.le_of_ble_eq_true rfl) (Nat.le_of_ble_eq_true rfl) rfl dX7_needs_18 (fun r21 σ20 h => ?_)
      exact AW.iret rfl dX7_needs_21 h
theorem ok_X7_needs : OkV M_X7_needs 2 := ⟨w_1183, w_1184, w_9, w_1185, by decide +kernel, (Nat.le_of_ble_eq_true rfl)⟩
def M_X7_gainOn : MT := (yX7_gainOn, cX7_gainOn, 4, some .int, 3)
set_option maxRecDepth 100000 in
def f_X7_gainOn_4 (a1 : Int32) (K : Int32 → Mm → Prop) : Nat → Int32 → Int32 → Mm → Prop
  | 0, _, _, _ => False
  | n + 1, a2, a3, σ => (if (1 : Int32) < a3 then (K a2 σ) else (f_X7_isThere (a1 + a3) σ (fun b2 σ1 => (if b2 = true then (vp_in (a1 + a3) 8 ∧ (if (σ1 5 0 ((a1 + a3).toNatClampNeg)) < 0 then (f_X7_gainOn_4 a1 K n (a2 + (0 : Int32)) (a3 + (2 : Int32)) σ1) else (vp_in a1 8 ∧ (vp_in (a1 + a3) 8 ∧ (f_X7_how (σ1 5 0 (a1.toNatClampNeg)) (σ1 5 0 ((a1 + a3).toNatClampNeg)) σ1 (fun r7 σ6 => (if r7 ≤ 0 then (f_X7_gainOn_4 a1 K n (a2 + (0 : Int32)) (a3 + (2 : Int32)) σ6) else (f_X7_gainOn_4 a1 K n (a2 + (1 : Int32)) (a3 + (2 : Int32)) σ6)))))))) else (f_X7_gainOn_4 a1 K n (a2 + (0 : Int32)) (a3 + (2 : Int32)) σ1)))))
set_option maxRecDepth 100000 in
set_option maxHeartbeats 4000000 in
theorem T_X7_gainOn_4 {g : GG} {a1 : Int32} {K : Int32 → Mm → Prop} : ∀ (n : Nat) (a2 : Int32) (a3 : Int32) (σ : Mm), f_X7_gainOn_4 a1 K n a2 a3 σ → AW g 1 M_X7_gainOn (QI g 1 K) 4 [(0, .ref (gad g 0 0)), (1, .int a1), (2, .int a2), (3, .int a3)] [] σ := by
  intro n
  induction n with
  | zero => intro a2 a3 σ h; exact False.elim h
  | succ n ih =>
    intro a2 a3 σ h
    rw [f_X7_gainOn_4] at h
    refine AW.iload_n dX7_gainOn_4 3 rfl ?_
    refine AW.iconst (v := (1 : Int32)) dX7_gainOn_5 rfl ?_
    refine AW.icmp_gt (tgt := 65) dX7_gainOn_6 rfl (fun c => ?_) (fun c => ?_)
    · replace h := ite_t c h
      refine AW.iload_n dX7_gainOn_65 2 rfl ?_
      exact AW.iret rfl dX7_gainOn_66 h
    · replace h := ite_f c h
      refine AW.iload_n dX7_gainOn_9 2 rfl ?_
      refine AW.aload_n dX7_gainOn_10 0 rfl ?_
      refine AW.iload_n dX7_gainOn_11 1 rfl ?_
      refine AW.iload_n dX7_gainOn_12 3 rfl ?_
      refine AW.iadd dX7_gainOn_13 ?_
      refine AW.callVB [.int (a1 + a3)] (C_X7_isThere h) ok_X7_isThere (id1_0_0) rfl rfl w_1052 rfl (Nat.le_of_ble_eq_true rfl) (Nat.le_of_ble_eq_true rfl) rfl dX7_gainOn_14 (fun b2 σ1 h => ?_)
      refine AW.ifb_eq (tgt := 56) dX7_gainOn_17 rfl (fun c => ?_) (fun c => ?_)
      · replace h := ite_f c h
        refine AW.iconst (v := (0 : Int32)) dX7_gainOn_56 rfl ?_
        refine AW.iadd dX7_gainOn_57 ?_
        refine AW.istore_n (L' := [(0, .ref (gad g 0 0)), (1, .int a1), (2, .int (a2 + (0 : Int32))), (3, .int a3)]) dX7_gainOn_58 (Nat.le_of_ble_eq_true rfl) rfl ?_
        refine AW.iinc (v := (a3 + (2 : Int32))) (L' := [(0, .ref (gad g 0 0)), (1, .int a1), (2, .int (a2 + (0 : Int32))), (3, .int (a3 + (2 : Int32)))]) dX7_gainOn_59 3 rfl rfl (Nat.le_of_ble_eq_true rfl) rfl ?_
        refine AW.goto (tgt := 4) dX7_gainOn_62 rfl ?_
        exact ih _ _ _ h
      · replace h := ite_t c h
        refine AW.aload_n dX7_gainOn_20 0 rfl ?_
        refine AW.get (k := 5) (v := .ref (gad g 5 0)) (id1_0_0) rfl rfl inGX7 (Nat.le_of_ble_eq_true rfl) w_877 rfl dX7_gainOn_21 ?_
        refine AW.iload_n dX7_gainOn_24 1 rfl ?_
        refine AW.iload_n dX7_gainOn_25 3 rfl ?_
        refine AW.iadd dX7_gainOn_26 ?_
        obtain ⟨hq3, h⟩ := h
        refine AW.iald (jn := ((a1 + a3).toNatClampNeg)) (id1_5_0) rfl hq3 rfl dX7_gainOn_27 ?_
        refine AW.if_lt (tgt := 56) dX7_gainOn_28 rfl (fun c => ?_) (fun c => ?_)
        · replace h := ite_t c h
          refine AW.iconst (v := (0 : Int32)) dX7_gainOn_56 rfl ?_
          refine AW.iadd dX7_gainOn_57 ?_
          refine AW.istore_n (L' := [(0, .ref (gad g 0 0)), (1, .int a1), (2, .int (a2 + (0 : Int32))), (3, .int a3)]) dX7_gainOn_58 (Nat.le_of_ble_eq_true rfl) rfl ?_
          refine AW.iinc (v := (a3 + (2 : Int32))) (L' := [(0, .ref (gad g 0 0)), (1, .int a1), (2, .int (a2 + (0 : Int32))), (3, .int (a3 + (2 : Int32)))]) dX7_gainOn_59 3 rfl rfl (Nat.le_of_ble_eq_true rfl) rfl ?_
          refine AW.goto (tgt := 4) dX7_gainOn_62 rfl ?_
          exact ih _ _ _ h
        · replace h := ite_f c h
          refine AW.aload_n dX7_gainOn_31 0 rfl ?_
          refine AW.aload_n dX7_gainOn_32 0 rfl ?_
          refine AW.get (k := 5) (v := .ref (gad g 5 0)) (id1_0_0) rfl rfl inGX7 (Nat.le_of_ble_eq_true rfl) w_877 rfl dX7_gainOn_33 ?_
          refine AW.iload_n dX7_gainOn_36 1 rfl ?_
          obtain ⟨hq4, h⟩ := h
          refine AW.iald (jn := (a1.toNatClampNeg)) (id1_5_0) rfl hq4 rfl dX7_gainOn_37 ?_
          refine AW.aload_n dX7_gainOn_38 0 rfl ?_
          refine AW.get (k := 5) (v := .ref (gad g 5 0)) (id1_0_0) rfl rfl inGX7 (Nat.le_of_ble_eq_true rfl) w_877 rfl dX7_gainOn_39 ?_
          refine AW.iload_n dX7_gainOn_42 1 rfl ?_
          refine AW.iload_n dX7_gainOn_43 3 rfl ?_
          refine AW.iadd dX7_gainOn_44 ?_
          obtain ⟨hq5, h⟩ := h
          refine AW.iald (jn := ((a1 + a3).toNatClampNeg)) (id1_5_0) rfl hq5 rfl dX7_gainOn_45 ?_
          refine AW.callVI [.int (σ1 5 0 (a1.toNatClampNeg)), .int (σ1 5 0 ((a1 + a3).toNatClampNeg))] (C_X7_how h) ok_X7_how (id1_0_0) rfl rfl w_956 rfl (Nat.le_of_ble_eq_true rfl) (Nat.le_of_ble_eq_true rfl) rfl dX7_gainOn_46 (fun r7 σ6 h => ?_)
          refine AW.if_le (tgt := 56) dX7_gainOn_49 rfl (fun c => ?_) (fun c => ?_)
          · replace h := ite_t c h
            refine AW.iconst (v := (0 : Int32)) dX7_gainOn_56 rfl ?_
            refine AW.iadd dX7_gainOn_57 ?_
            refine AW.istore_n (L' := [(0, .ref (gad g 0 0)), (1, .int a1), (2, .int (a2 + (0 : Int32))), (3, .int a3)]) dX7_gainOn_58 (Nat.le_of_ble_eq_true rfl) rfl ?_
            refine AW.iinc (v := (a3 + (2 : Int32))) (L' := [(0, .ref (gad g 0 0)), (1, .int a1), (2, .int (a2 + (0 : Int32))), (3, .int (a3 + (2 : Int32)))]) dX7_gainOn_59 3 rfl rfl (Nat.le_of_ble_eq_true rfl) rfl ?_
            refine AW.goto (tgt := 4) dX7_gainOn_62 rfl ?_
            exact ih _ _ _ h
          · replace h := ite_f c h
            refine AW.iconst (v := (1 : Int32)) dX7_gainOn_52 rfl ?_
            refine AW.goto (tgt := 57) dX7_gainOn_53 rfl ?_
            refine AW.iadd dX7_gainOn_57 ?_
            refine AW.istore_n (L' := [(0, .ref (gad g 0 0)), (1, .int a1), (2, .int (a2 + (1 : Int32))), (3, .int a3)]) dX7_gainOn_58 (Nat.le_of_ble_eq_true rfl) rfl ?_
            refine AW.iinc (v := (a3 + (2 : Int32))) (L' := [(0, .ref (gad g 0 0)), (1, .int a1), (2, .int (a2 + (1 : Int32))), (3, .int (a3 + (2 : Int32)))]) dX7_gainOn_59 3 rfl rfl (Nat.le_of_ble_eq_true rfl) rfl ?_
            refine AW.goto (tgt := 4) dX7_gainOn_62 rfl ?_
            exact ih _ _ _ h
def f_X7_gainOn (a1 : Int32) (σ : Mm) (K : Int32 → Mm → Prop) : Prop := (∃ m, f_X7_gainOn_4 a1 K m (0 : Int32) (-1 : Int32) σ)
set_option maxRecDepth 100000 in
set_option maxHeartbeats 4000000 in
theorem C_X7_gainOn {g : GG} {a1 : Int32} {σ : Mm} {K : Int32 → Mm → Prop} (h : f_X7_gainOn a1 σ K) : Ct g 1 M_X7_gainOn (QI g 1 K) [.ref (gad g 0 0), .int a1] σ := by
  unfold f_X7_gainOn at h
  refine Ct.of (L := [(0, .ref (gad g 0 0)), (1, .int a1)]) (show plainName RX7 = true by decide) (Nat.le_of_ble_eq_true rfl) rfl ?_
  refine AW.iconst (v := (0 : Int32)) dX7_gainOn_0 rfl ?_
  refine AW.istore_n (L' := [(0, .ref (gad g 0 0)), (1, .int a1), (2, .int (0 : Int32))]) dX7_gainOn_1 (Nat.le_of_ble_eq_true rfl) rfl ?_
  refine AW.iconst (v := (-1 : Int32)) dX7_gainOn_2 rfl ?_
  refine AW.istore_n (L' := [(0, .ref (gad g 0 0)), (1, .int a1), (2, .int (0 : Int32)), (3, .int (-1 : Int32))]) dX7_gainOn_3 (Nat.le_of_ble_eq_true rfl) rfl ?_
  obtain ⟨m, h⟩ := h
  refine T_X7_gainOn_4 m _ _ _ h
theorem ok_X7_gainOn : OkV M_X7_gainOn 1 := ⟨w_1192, wp_54, w_9, w_1193, by decide +kernel, (Nat.le_of_ble_eq_true rfl)⟩
def M_X7_gain : MT := (yX7_gain, cX7_gain, 3, some .int, 4)
def f_X7_gain (a1 : Int32) (σ : Mm) (K : Int32 → Mm → Prop) : Prop := (f_X7_isPerson a1 σ (fun b2 σ1 => (if b2 = true then (f_X7_whereIs a1 σ1 (fun r4 σ3 => (if 0 ≤ r4 then (f_X7_looksAt (r4 / (10 : Int32)) σ3 (fun σ5 => (f_X7_gainOn (r4 - r4 / (10 : Int32) * (10 : Int32)) σ5 (fun r7 σ6 => (K r7 σ6))))) else (f_X7_finds (-1000005 : Int32) σ3 (fun r9 σ8 => (K r9 σ8)))))) else (f_X7_finds (-1000001 : Int32) σ1 (fun r11 σ10 => (K r11 σ10))))))
set_option maxRecDepth 100000 in
set_option maxHeartbeats 4000000 in
theorem C_X7_gain {g : GG} {a1 : Int32} {σ : Mm} {K : Int32 → Mm → Prop} (h : f_X7_gain a1 σ K) : Ct g 1 M_X7_gain (QI g 1 K) [.ref (gad g 0 0), .int a1] σ := by
  unfold f_X7_gain at h
  refine Ct.of (L := [(0, .ref (gad g 0 0)), (1, .int a1)]) (show plainName RX7 = true by decide) (Nat.le_of_ble_eq_true rfl) rfl ?_
  refine AW.iload_n dX7_gain_0 1 rfl ?_
  refine AW.callSB [.int a1] (C_X7_isPerson h) ok_X7_isPerson w_943 rfl (Nat.le_of_ble_eq_true rfl) (Nat.le_of_ble_eq_true rfl) rfl dX7_gain_1 (fun b2 σ1 h => ?_)
  refine AW.ifb_ne (tgt := 14) dX7_gain_4 rfl (fun c => ?_) (fun c => ?_)
  · replace h := ite_t c h
    refine AW.aload_n dX7_gain_14 0 rfl ?_
    refine AW.iload_n dX7_gain_15 1 rfl ?_
    refine AW.callVI [.int a1] (C_X7_whereIs h) ok_X7_whereIs (id1_0_0) rfl rfl w_1094 rfl (Nat.le_of_ble_eq_true rfl) (Nat.le_of_ble_eq_true rfl) rfl dX7_gain_16 (fun r4 σ3 h => ?_)
    refine AW.istore_n (L' := [(0, .ref (gad g 0 0)), (1, .int a1), (2, .int r4)]) dX7_gain_19 (Nat.le_of_ble_eq_true rfl) rfl ?_
    refine AW.iload_n dX7_gain_20 2 rfl ?_
    refine AW.if_ge (tgt := 31) dX7_gain_21 rfl (fun c => ?_) (fun c => ?_)
    · replace h := ite_t c h
      refine AW.aload_n dX7_gain_31 0 rfl ?_
      refine AW.iload_n dX7_gain_32 2 rfl ?_
      refine AW.bipush (v := (10 : Int32)) dX7_gain_33 rfl ?_
      refine AW.idiv dX7_gain_35 (by decide) ?_
      refine AW.callVV [.int (r4 / (10 : Int32))] (C_X7_looksAt h) ok_X7_looksAt (id1_0_0) rfl rfl w_1020 rfl (Nat.le_of_ble_eq_true rfl) (Nat.le_of_ble_eq_true rfl) rfl dX7_gain_36 (fun σ5 h => ?_)
      refine AW.aload_n dX7_gain_39 0 rfl ?_
      refine AW.iload_n dX7_gain_40 2 rfl ?_
      refine AW.bipush (v := (10 : Int32)) dX7_gain_41 rfl ?_
      refine AW.irem dX7_gain_43 (by decide) ?_
      refine AW.callVI [.int (r4 - r4 / (10 : Int32) * (10 : Int32))] (C_X7_gainOn h) ok_X7_gainOn (id1_0_0) rfl rfl w_1190 rfl (Nat.le_of_ble_eq_true rfl) (Nat.le_of_ble_eq_true rfl) rfl dX7_gain_44 (fun r7 σ6 h => ?_)
      exact AW.iret rfl dX7_gain_47 h
    · replace h := ite_f c h
      refine AW.aload_n dX7_gain_24 0 rfl ?_
      refine AW.ldc (v := (-1000005 : Int32)) dX7_gain_25 w_1089 ?_
      refine AW.callVI [.int (-1000005 : Int32)] (C_X7_finds h) ok_X7_finds (id1_0_0) rfl rfl w_952 rfl (Nat.le_of_ble_eq_true rfl) (Nat.le_of_ble_eq_true rfl) rfl dX7_gain_27 (fun r9 σ8 h => ?_)
      exact AW.iret rfl dX7_gain_30 h
  · replace h := ite_f c h
    refine AW.aload_n dX7_gain_7 0 rfl ?_
    refine AW.ldc (v := (-1000001 : Int32)) dX7_gain_8 w_951 ?_
    refine AW.callVI [.int (-1000001 : Int32)] (C_X7_finds h) ok_X7_finds (id1_0_0) rfl rfl w_952 rfl (Nat.le_of_ble_eq_true rfl) (Nat.le_of_ble_eq_true rfl) rfl dX7_gain_10 (fun r11 σ10 h => ?_)
    exact AW.iret rfl dX7_gain_13 h
theorem ok_X7_gain : OkV M_X7_gain 1 := ⟨w_1187, w_1188, w_9, w_1189, by decide +kernel, (Nat.le_of_ble_eq_true rfl)⟩
def M_X7_worth : MT := (yX7_worth, cX7_worth, 4, some .int, 4)
set_option maxRecDepth 100000 in
def f_X7_worth_24 (K : Int32 → Mm → Prop) : Nat → Int32 → Int32 → Mm → Prop
  | 0, _, _, _ => False
  | n + 1, a2, a3, σ => (if (σ 0 0 7) ≤ a3 then (K a2 σ) else (vp_in a3 8 ∧ (if 0 ≤ (σ 5 0 (a3.toNatClampNeg)) then (f_X7_gainOn a3 σ (fun r6 σ5 => (f_X7_worth_24 K n (a2 + r6) (a3 + (1 : Int32)) σ5))) else (f_X7_worth_24 K n (a2 + (0 : Int32)) (a3 + (1 : Int32)) σ))))
set_option maxRecDepth 100000 in
set_option maxHeartbeats 4000000 in
theorem T_X7_worth_24 {g : GG} {K : Int32 → Mm → Prop} : ∀ (n : Nat) (a2 : Int32) (a3 : Int32) (σ : Mm), f_X7_worth_24 K n a2 a3 σ → AW g 1 M_X7_worth (QI g 1 K) 24 [(0, .ref (gad g 0 0)), (2, .int a2), (3, .int a3)] [] σ := by
  intro n
  induction n with
  | zero => intro a2 a3 σ h; exact False.elim h
  | succ n ih =>
    intro a2 a3 σ h
    rw [f_X7_worth_24] at h
    refine AW.iload_n dX7_worth_24 2 rfl ?_
    refine AW.aload_n dX7_worth_25 0 rfl ?_
    refine AW.get (k := 7) (v := .int (σ 0 0 7)) (id1_0_0) rfl rfl inGX7 (Nat.le_of_ble_eq_true rfl) w_879 rfl dX7_worth_26 ?_
    refine AW.icmp_ge (tgt := 59) dX7_worth_29 rfl (fun c => ?_) (fun c => ?_)
    · replace h := ite_t c h
      refine AW.iload_n dX7_worth_59 1 rfl ?_
      exact AW.iret rfl dX7_worth_60 h
    · replace h := ite_f c h
      refine AW.iload_n dX7_worth_32 1 rfl ?_
      refine AW.aload_n dX7_worth_33 0 rfl ?_
      refine AW.get (k := 5) (v := .ref (gad g 5 0)) (id1_0_0) rfl rfl inGX7 (Nat.le_of_ble_eq_true rfl) w_877 rfl dX7_worth_34 ?_
      refine AW.iload_n dX7_worth_37 2 rfl ?_
      obtain ⟨hq4, h⟩ := h
      refine AW.iald (jn := (a3.toNatClampNeg)) (id1_5_0) rfl hq4 rfl dX7_worth_38 ?_
      refine AW.if_ge (tgt := 46) dX7_worth_39 rfl (fun c => ?_) (fun c => ?_)
      · replace h := ite_t c h
        refine AW.aload_n dX7_worth_46 0 rfl ?_
        refine AW.iload_n dX7_worth_47 2 rfl ?_
        refine AW.callVI [.int a3] (C_X7_gainOn h) ok_X7_gainOn (id1_0_0) rfl rfl w_1190 rfl (Nat.le_of_ble_eq_true rfl) (Nat.le_of_ble_eq_true rfl) rfl dX7_worth_48 (fun r6 σ5 h => ?_)
        refine AW.iadd dX7_worth_51 ?_
        refine AW.istore_n (L' := [(0, .ref (gad g 0 0)), (2, .int (a2 + r6)), (3, .int a3)]) dX7_worth_52 (Nat.le_of_ble_eq_true rfl) rfl ?_
        refine AW.iinc (v := (a3 + (1 : Int32))) (L' := [(0, .ref (gad g 0 0)), (2, .int (a2 + r6)), (3, .int (a3 + (1 : Int32)))]) dX7_worth_53 2 rfl rfl (Nat.le_of_ble_eq_true rfl) rfl ?_
        refine AW.goto (tgt := 24) dX7_worth_56 rfl ?_
        exact ih _ _ _ h
      · replace h := ite_f c h
        refine AW.iconst (v := (0 : Int32)) dX7_worth_42 rfl ?_
        refine AW.goto (tgt := 51) dX7_worth_43 rfl ?_
        refine AW.iadd dX7_worth_51 ?_
        refine AW.istore_n (L' := [(0, .ref (gad g 0 0)), (2, .int (a2 + (0 : Int32))), (3, .int a3)]) dX7_worth_52 (Nat.le_of_ble_eq_true rfl) rfl ?_
        refine AW.iinc (v := (a3 + (1 : Int32))) (L' := [(0, .ref (gad g 0 0)), (2, .int (a2 + (0 : Int32))), (3, .int (a3 + (1 : Int32)))]) dX7_worth_53 2 rfl rfl (Nat.le_of_ble_eq_true rfl) rfl ?_
        refine AW.goto (tgt := 24) dX7_worth_56 rfl ?_
        exact ih _ _ _ h
def f_X7_worth (a1 : Int32) (σ : Mm) (K : Int32 → Mm → Prop) : Prop := (f_X7_isBench a1 σ (fun b2 σ1 => (if b2 = true then (f_X7_looksAt a1 σ1 (fun σ3 => (∃ m, f_X7_worth_24 K m (0 : Int32) (0 : Int32) σ3))) else (f_X7_finds (-1000001 : Int32) σ1 (fun r8 σ7 => (K r8 σ7))))))
set_option maxRecDepth 100000 in
set_option maxHeartbeats 4000000 in
theorem C_X7_worth {g : GG} {a1 : Int32} {σ : Mm} {K : Int32 → Mm → Prop} (h : f_X7_worth a1 σ K) : Ct g 1 M_X7_worth (QI g 1 K) [.ref (gad g 0 0), .int a1] σ := by
  unfold f_X7_worth at h
  refine Ct.of (L := [(0, .ref (gad g 0 0)), (1, .int a1)]) (show plainName RX7 = true by decide) (Nat.le_of_ble_eq_true rfl) rfl ?_
  refine AW.aload_n dX7_worth_0 0 rfl ?_
  refine AW.iload_n dX7_worth_1 1 rfl ?_
  refine AW.callVB [.int a1] (C_X7_isBench h) ok_X7_isBench (id1_0_0) rfl rfl w_1015 rfl (Nat.le_of_ble_eq_true rfl) (Nat.le_of_ble_eq_true rfl) rfl dX7_worth_2 (fun b2 σ1 h => ?_)
  refine AW.ifb_ne (tgt := 15) dX7_worth_5 rfl (fun c => ?_) (fun c => ?_)
  · replace h := ite_t c h
    refine AW.aload_n dX7_worth_15 0 rfl ?_
    refine AW.iload_n dX7_worth_16 1 rfl ?_
    refine AW.callVV [.int a1] (C_X7_looksAt h) ok_X7_looksAt (id1_0_0) rfl rfl w_1020 rfl (Nat.le_of_ble_eq_true rfl) (Nat.le_of_ble_eq_true rfl) rfl dX7_worth_17 (fun σ3 h => ?_)
    refine AW.iconst (v := (0 : Int32)) dX7_worth_20 rfl ?_
    refine AW.istore_n (L' := [(0, .ref (gad g 0 0)), (1, .int a1), (2, .int (0 : Int32))]) dX7_worth_21 (Nat.le_of_ble_eq_true rfl) rfl ?_
    refine AW.iconst (v := (0 : Int32)) dX7_worth_22 rfl ?_
    refine AW.istore_n (L' := [(0, .ref (gad g 0 0)), (1, .int a1), (2, .int (0 : Int32)), (3, .int (0 : Int32))]) dX7_worth_23 (Nat.le_of_ble_eq_true rfl) rfl ?_
    obtain ⟨m, h⟩ := h
    refine AW.eqL [0, 2, 3] rfl ?_
    refine T_X7_worth_24 m _ _ _ h
  · replace h := ite_f c h
    refine AW.aload_n dX7_worth_8 0 rfl ?_
    refine AW.ldc (v := (-1000001 : Int32)) dX7_worth_9 w_951 ?_
    refine AW.callVI [.int (-1000001 : Int32)] (C_X7_finds h) ok_X7_finds (id1_0_0) rfl rfl w_952 rfl (Nat.le_of_ble_eq_true rfl) (Nat.le_of_ble_eq_true rfl) rfl dX7_worth_11 (fun r8 σ7 h => ?_)
    exact AW.iret rfl dX7_worth_14 h
theorem ok_X7_worth : OkV M_X7_worth 1 := ⟨w_1195, w_1196, w_9, w_1197, by decide +kernel, (Nat.le_of_ble_eq_true rfl)⟩
def M_X7_seatOf : MT := (yX7_seatOf, cX7_seatOf, 3, some .int, 1)
set_option maxRecDepth 100000 in
def f_X7_seatOf_2 (a1 : Int32) (K : Int32 → Mm → Prop) : Nat → Int32 → Mm → Prop
  | 0, _, _ => False
  | n + 1, a2, σ => (if (σ 0 0 7) ≤ a2 then (K (-1 : Int32) σ) else (vp_in a2 8 ∧ (if (σ 5 0 (a2.toNatClampNeg)) = a1 then (K a2 σ) else (f_X7_seatOf_2 a1 K n (a2 + (1 : Int32)) σ))))
set_option maxRecDepth 100000 in
set_option maxHeartbeats 4000000 in
theorem T_X7_seatOf_2 {g : GG} {a1 : Int32} {K : Int32 → Mm → Prop} : ∀ (n : Nat) (a2 : Int32) (σ : Mm), f_X7_seatOf_2 a1 K n a2 σ → AW g 1 M_X7_seatOf (QI g 1 K) 2 [(0, .ref (gad g 0 0)), (1, .int a1), (2, .int a2)] [] σ := by
  intro n
  induction n with
  | zero => intro a2 σ h; exact False.elim h
  | succ n ih =>
    intro a2 σ h
    rw [f_X7_seatOf_2] at h
    refine AW.iload_n dX7_seatOf_2 2 rfl ?_
    refine AW.aload_n dX7_seatOf_3 0 rfl ?_
    refine AW.get (k := 7) (v := .int (σ 0 0 7)) (id1_0_0) rfl rfl inGX7 (Nat.le_of_ble_eq_true rfl) w_879 rfl dX7_seatOf_4 ?_
    refine AW.icmp_ge (tgt := 28) dX7_seatOf_7 rfl (fun c => ?_) (fun c => ?_)
    · replace h := ite_t c h
      refine AW.iconst (v := (-1 : Int32)) dX7_seatOf_28 rfl ?_
      exact AW.iret rfl dX7_seatOf_29 h
    · replace h := ite_f c h
      refine AW.aload_n dX7_seatOf_10 0 rfl ?_
      refine AW.get (k := 5) (v := .ref (gad g 5 0)) (id1_0_0) rfl rfl inGX7 (Nat.le_of_ble_eq_true rfl) w_877 rfl dX7_seatOf_11 ?_
      refine AW.iload_n dX7_seatOf_14 2 rfl ?_
      obtain ⟨hq1, h⟩ := h
      refine AW.iald (jn := (a2.toNatClampNeg)) (id1_5_0) rfl hq1 rfl dX7_seatOf_15 ?_
      refine AW.iload_n dX7_seatOf_16 1 rfl ?_
      refine AW.icmp_ne (tgt := 22) dX7_seatOf_17 rfl (fun c => ?_) (fun c => ?_)
      · replace h := ite_f c h
        refine AW.iinc (v := (a2 + (1 : Int32))) (L' := [(0, .ref (gad g 0 0)), (1, .int a1), (2, .int (a2 + (1 : Int32)))]) dX7_seatOf_22 2 rfl rfl (Nat.le_of_ble_eq_true rfl) rfl ?_
        refine AW.goto (tgt := 2) dX7_seatOf_25 rfl ?_
        exact ih _ _ h
      · replace h := ite_t c h
        refine AW.iload_n dX7_seatOf_20 2 rfl ?_
        exact AW.iret rfl dX7_seatOf_21 h
def f_X7_seatOf (a1 : Int32) (σ : Mm) (K : Int32 → Mm → Prop) : Prop := (∃ m, f_X7_seatOf_2 a1 K m (0 : Int32) σ)
set_option maxRecDepth 100000 in
set_option maxHeartbeats 4000000 in
theorem C_X7_seatOf {g : GG} {a1 : Int32} {σ : Mm} {K : Int32 → Mm → Prop} (h : f_X7_seatOf a1 σ K) : Ct g 1 M_X7_seatOf (QI g 1 K) [.ref (gad g 0 0), .int a1] σ := by
  unfold f_X7_seatOf at h
  refine Ct.of (L := [(0, .ref (gad g 0 0)), (1, .int a1)]) (show plainName RX7 = true by decide) (Nat.le_of_ble_eq_true rfl) rfl ?_
  refine AW.iconst (v := (0 : Int32)) dX7_seatOf_0 rfl ?_
  refine AW.istore_n (L' := [(0, .ref (gad g 0 0)), (1, .int a1), (2, .int (0 : Int32))]) dX7_seatOf_1 (Nat.le_of_ble_eq_true rfl) rfl ?_
  obtain ⟨m, h⟩ := h
  refine T_X7_seatOf_2 m _ _ h
theorem ok_X7_seatOf : OkV M_X7_seatOf 1 := ⟨w_1204, wp_55, w_9, w_1205, by decide +kernel, (Nat.le_of_ble_eq_true rfl)⟩
def M_X7_changes : MT := (yX7_changes, cX7_changes, 4, none, 1)
def f_X7_changes (a1 : Int32) (a2 : Int32) (σ : Mm) (K : Mm → Prop) : Prop := (vp_in a1 8 ∧ (vp_in a2 8 ∧ (vp_in a1 8 ∧ (∃ σ4, σ4 = mset σ 5 0 (a1.toNatClampNeg) (σ 5 0 (a2.toNatClampNeg)) ∧ (vp_in a2 8 ∧ (∃ σ6, σ6 = mset σ4 5 0 (a2.toNatClampNeg) (σ 5 0 (a1.toNatClampNeg)) ∧ (K σ6)))))))
set_option maxRecDepth 100000 in
set_option maxHeartbeats 4000000 in
theorem C_X7_changes {g : GG} {a1 : Int32} {a2 : Int32} {σ : Mm} {K : Mm → Prop} (h : f_X7_changes a1 a2 σ K) : Ct g 1 M_X7_changes (QV g 1 K) [.ref (gad g 0 0), .int a1, .int a2] σ := by
  unfold f_X7_changes at h
  refine Ct.of (L := [(0, .ref (gad g 0 0)), (1, .int a1), (2, .int a2)]) (show plainName RX7 = true by decide) (Nat.le_of_ble_eq_true rfl) rfl ?_
  refine AW.aload_n dX7_changes_0 0 rfl ?_
  refine AW.get (k := 5) (v := .ref (gad g 5 0)) (id1_0_0) rfl rfl inGX7 (Nat.le_of_ble_eq_true rfl) w_877 rfl dX7_changes_1 ?_
  refine AW.iload_n dX7_changes_4 1 rfl ?_
  obtain ⟨hq1, h⟩ := h
  refine AW.iald (jn := (a1.toNatClampNeg)) (id1_5_0) rfl hq1 rfl dX7_changes_5 ?_
  refine AW.istore_n (L' := [(0, .ref (gad g 0 0)), (1, .int a1), (2, .int a2), (3, .int (σ 5 0 (a1.toNatClampNeg)))]) dX7_changes_6 (Nat.le_of_ble_eq_true rfl) rfl ?_
  refine AW.aload_n dX7_changes_7 0 rfl ?_
  refine AW.get (k := 5) (v := .ref (gad g 5 0)) (id1_0_0) rfl rfl inGX7 (Nat.le_of_ble_eq_true rfl) w_877 rfl dX7_changes_8 ?_
  refine AW.iload_n dX7_changes_11 1 rfl ?_
  refine AW.aload_n dX7_changes_12 0 rfl ?_
  refine AW.get (k := 5) (v := .ref (gad g 5 0)) (id1_0_0) rfl rfl inGX7 (Nat.le_of_ble_eq_true rfl) w_877 rfl dX7_changes_13 ?_
  refine AW.iload_n dX7_changes_16 2 rfl ?_
  obtain ⟨hq2, h⟩ := h
  refine AW.iald (jn := (a2.toNatClampNeg)) (id1_5_0) rfl hq2 rfl dX7_changes_17 ?_
  obtain ⟨hq3, h⟩ := h
  refine AW.iast (jn := (a1.toNatClampNeg)) (id1_5_0) (fun _ => rfl) hq3 rfl dX7_changes_18 ?_
  obtain ⟨σ4, eσ4, h⟩ := h
  rw [← eσ4]
  refine AW.aload_n dX7_changes_19 0 rfl ?_
  refine AW.get (k := 5) (v := .ref (gad g 5 0)) (id1_0_0) rfl rfl inGX7 (Nat.le_of_ble_eq_true rfl) w_877 rfl dX7_changes_20 ?_
  refine AW.iload_n dX7_changes_23 2 rfl ?_
  refine AW.iload_n dX7_changes_24 3 rfl ?_
  obtain ⟨hq5, h⟩ := h
  refine AW.iast (jn := (a2.toNatClampNeg)) (id1_5_0) (fun _ => rfl) hq5 rfl dX7_changes_25 ?_
  obtain ⟨σ6, eσ6, h⟩ := h
  rw [← eσ6]
  exact AW.vret rfl dX7_changes_26 h
theorem ok_X7_changes : OkV M_X7_changes 2 := ⟨w_1212, wp_57, w_9, w_1213, by decide +kernel, (Nat.le_of_ble_eq_true rfl)⟩
def M_X7_wouldChange : MT := (yX7_wouldChange, cX7_wouldChange, 6, some .boolean, 7)
def f_X7_wouldChange_50 (a1 : Int32) (a2 : Int32) (as0 : Int32) (K : Bool → Mm → Prop) (σ : Mm) : Prop := (f_X7_changes a1 a2 σ (fun σ8 => (∃ b0 : Bool, as0 = b2i b0 ∧ K b0 σ8)))
set_option maxRecDepth 100000 in
set_option maxHeartbeats 4000000 in
theorem T_X7_wouldChange_50 {g : GG} {a1 : Int32} {a2 : Int32} {as0 : Int32} {K : Bool → Mm → Prop} {σ : Mm} (h : f_X7_wouldChange_50 a1 a2 as0 K σ) : AW g 1 M_X7_wouldChange (QB g 1 K) 50 [(0, .ref (gad g 0 0)), (1, .int a1), (2, .int a2)] [.int as0] σ := by
  unfold f_X7_wouldChange_50 at h
  refine AW.istore (L' := [(0, .ref (gad g 0 0)), (1, .int a1), (2, .int a2), (5, .int as0)]) dX7_wouldChange_50 (Nat.le_of_ble_eq_true rfl) rfl ?_
  refine AW.aload_n dX7_wouldChange_52 0 rfl ?_
  refine AW.iload_n dX7_wouldChange_53 1 rfl ?_
  refine AW.iload_n dX7_wouldChange_54 2 rfl ?_
  refine AW.callVV [.int a1, .int a2] (C_X7_changes h) ok_X7_changes (id1_0_0) rfl rfl w_1210 rfl (Nat.le_of_ble_eq_true rfl) (Nat.le_of_ble_eq_true rfl) rfl dX7_wouldChange_55 (fun σ8 h => ?_)
  refine AW.iload dX7_wouldChange_58 3 rfl ?_
  obtain ⟨b0, hb0, h⟩ := h
  exact AW.bret b0 hb0 rfl dX7_wouldChange_60 h
def f_X7_wouldChange_49 (a1 : Int32) (a2 : Int32) (K : Bool → Mm → Prop) (σ : Mm) : Prop := (f_X7_wouldChange_50 a1 a2 (0 : Int32) K σ)
set_option maxRecDepth 100000 in
set_option maxHeartbeats 4000000 in
theorem T_X7_wouldChange_49 {g : GG} {a1 : Int32} {a2 : Int32} {K : Bool → Mm → Prop} {σ : Mm} (h : f_X7_wouldChange_49 a1 a2 K σ) : AW g 1 M_X7_wouldChange (QB g 1 K) 49 [(0, .ref (gad g 0 0)), (1, .int a1), (2, .int a2)] [] σ := by
  unfold f_X7_wouldChange_49 at h
  refine AW.iconst (v := (0 : Int32)) dX7_wouldChange_49 rfl ?_
  exact T_X7_wouldChange_50 h
def f_X7_wouldChange (a1 : Int32) (a2 : Int32) (σ : Mm) (K : Bool → Mm → Prop) : Prop := (f_X7_gainOn a1 σ (fun r2 σ1 => (f_X7_gainOn a2 σ1 (fun r4 σ3 => (f_X7_changes a1 a2 σ3 (fun σ5 => (f_X7_gainOn a2 σ5 (fun r7 σ6 => (if r7 ≤ r2 then (f_X7_wouldChange_49 a1 a2 K σ6) else (f_X7_gainOn a1 σ6 (fun r10 σ9 => (if r10 ≤ r4 then (f_X7_wouldChange_49 a1 a2 K σ9) else (f_X7_holdsNow σ9 (fun b12 σ11 => (if b12 = true then (f_X7_wouldChange_50 a1 a2 (1 : Int32) K σ11) else (f_X7_wouldChange_49 a1 a2 K σ11))))))))))))))))
set_option maxRecDepth 100000 in
set_option maxHeartbeats 4000000 in
theorem C_X7_wouldChange {g : GG} {a1 : Int32} {a2 : Int32} {σ : Mm} {K : Bool → Mm → Prop} (h : f_X7_wouldChange a1 a2 σ K) : Ct g 1 M_X7_wouldChange (QB g 1 K) [.ref (gad g 0 0), .int a1, .int a2] σ := by
  unfold f_X7_wouldChange at h
  refine Ct.of (L := [(0, .ref (gad g 0 0)), (1, .int a1), (2, .int a2)]) (show plainName RX7 = true by decide) (Nat.le_of_ble_eq_true rfl) rfl ?_
  refine AW.aload_n dX7_wouldChange_0 0 rfl ?_
  refine AW.iload_n dX7_wouldChange_1 1 rfl ?_
  refine AW.callVI [.int a1] (C_X7_gainOn h) ok_X7_gainOn (id1_0_0) rfl rfl w_1190 rfl (Nat.le_of_ble_eq_true rfl) (Nat.le_of_ble_eq_true rfl) rfl dX7_wouldChange_2 (fun r2 σ1 h => ?_)
  refine AW.istore_n (L' := [(0, .ref (gad g 0 0)), (1, .int a1), (2, .int a2), (3, .int r2)]) dX7_wouldChange_5 (Nat.le_of_ble_eq_true rfl) rfl ?_
  refine AW.aload_n dX7_wouldChange_6 0 rfl ?_
  refine AW.iload_n dX7_wouldChange_7 2 rfl ?_
  refine AW.callVI [.int a2] (C_X7_gainOn h) ok_X7_gainOn (id1_0_0) rfl rfl w_1190 rfl (Nat.le_of_ble_eq_true rfl) (Nat.le_of_ble_eq_true rfl) rfl dX7_wouldChange_8 (fun r4 σ3 h => ?_)
  refine AW.istore (L' := [(0, .ref (gad g 0 0)), (1, .int a1), (2, .int a2), (3, .int r2), (4, .int r4)]) dX7_wouldChange_11 (Nat.le_of_ble_eq_true rfl) rfl ?_
  refine AW.aload_n dX7_wouldChange_13 0 rfl ?_
  refine AW.iload_n dX7_wouldChange_14 1 rfl ?_
  refine AW.iload_n dX7_wouldChange_15 2 rfl ?_
  refine AW.callVV [.int a1, .int a2] (C_X7_changes h) ok_X7_changes (id1_0_0) rfl rfl w_1210 rfl (Nat.le_of_ble_eq_true rfl) (Nat.le_of_ble_eq_true rfl) rfl dX7_wouldChange_16 (fun σ5 h => ?_)
  refine AW.aload_n dX7_wouldChange_19 0 rfl ?_
  refine AW.iload_n dX7_wouldChange_20 2 rfl ?_
  refine AW.callVI [.int a2] (C_X7_gainOn h) ok_X7_gainOn (id1_0_0) rfl rfl w_1190 rfl (Nat.le_of_ble_eq_true rfl) (Nat.le_of_ble_eq_true rfl) rfl dX7_wouldChange_21 (fun r7 σ6 h => ?_)
  refine AW.iload_n dX7_wouldChange_24 3 rfl ?_
  refine AW.icmp_le (tgt := 49) dX7_wouldChange_25 rfl (fun c => ?_) (fun c => ?_)
  · replace h := ite_t c h
    refine AW.eqL [0, 1, 2] rfl ?_
    exact T_X7_wouldChange_49 h
  · replace h := ite_f c h
    refine AW.aload_n dX7_wouldChange_28 0 rfl ?_
    refine AW.iload_n dX7_wouldChange_29 1 rfl ?_
    refine AW.callVI [.int a1] (C_X7_gainOn h) ok_X7_gainOn (id1_0_0) rfl rfl w_1190 rfl (Nat.le_of_ble_eq_true rfl) (Nat.le_of_ble_eq_true rfl) rfl dX7_wouldChange_30 (fun r10 σ9 h => ?_)
    refine AW.iload dX7_wouldChange_33 4 rfl ?_
    refine AW.icmp_le (tgt := 49) dX7_wouldChange_35 rfl (fun c => ?_) (fun c => ?_)
    · replace h := ite_t c h
      refine AW.eqL [0, 1, 2] rfl ?_
      exact T_X7_wouldChange_49 h
    · replace h := ite_f c h
      refine AW.aload_n dX7_wouldChange_38 0 rfl ?_
      refine AW.callVB [] (C_X7_holdsNow h) ok_X7_holdsNow (id1_0_0) rfl rfl w_1040 rfl (Nat.le_of_ble_eq_true rfl) (Nat.le_of_ble_eq_true rfl) rfl dX7_wouldChange_39 (fun b12 σ11 h => ?_)
      refine AW.ifb_eq (tgt := 49) dX7_wouldChange_42 rfl (fun c => ?_) (fun c => ?_)
      · replace h := ite_f c h
        refine AW.eqL [0, 1, 2] rfl ?_
        exact T_X7_wouldChange_49 h
      · replace h := ite_t c h
        refine AW.iconst (v := (1 : Int32)) dX7_wouldChange_45 rfl ?_
        refine AW.goto (tgt := 50) dX7_wouldChange_46 rfl ?_
        refine AW.eqL [0, 1, 2] rfl ?_
        exact T_X7_wouldChange_50 h
theorem ok_X7_wouldChange : OkV M_X7_wouldChange 2 := ⟨w_1208, wp_56, w_9, w_1209, by decide +kernel, (Nat.le_of_ble_eq_true rfl)⟩
def M_X7_exchange : MT := (yX7_exchange, cX7_exchange, 6, some .int, 8)
set_option maxRecDepth 100000 in
def f_X7_exchange_32 (a1 : Int32) (a2 : Int32) (K : Int32 → Mm → Prop) (k76 : Int32 → Int32 → Int32 → Int32 → Mm → Prop) (k102 : Mm → Prop) : Nat → Int32 → Mm → Prop
  | 0, _, _ => False
  | n + 1, a3, σ => (if (8 : Int32) ≤ a3 then (k102 σ) else (f_X7_seatOf a2 σ (fun r7 σ6 => (f_X7_seatOf a3 σ6 (fun r9 σ8 => (if r7 < 0 then (f_X7_exchange_32 a1 a2 K k76 k102 n (a3 + (1 : Int32)) σ8) else (if r9 < 0 then (f_X7_exchange_32 a1 a2 K k76 k102 n (a3 + (1 : Int32)) σ8) else (f_X7_wouldChange r7 r9 σ8 (fun b11 σ10 => (if b11 = true then (k76 a2 a3 r7 r9 σ10) else (f_X7_exchange_32 a1 a2 K k76 k102 n (a3 + (1 : Int32)) σ10)))))))))))
set_option maxRecDepth 100000 in
set_option maxHeartbeats 4000000 in
theorem T_X7_exchange_32 {g : GG} {a1 : Int32} {a2 : Int32} {K : Int32 → Mm → Prop} {k76 : Int32 → Int32 → Int32 → Int32 → Mm → Prop} {k102 : Mm → Prop} (hk76 : ∀ (x2 : Int32) (x3 : Int32) (x4 : Int32) (x5 : Int32) (u : Mm), k76 x2 x3 x4 x5 u → AW g 1 M_X7_exchange (QI g 1 K) 76 [(0, .ref (gad g 0 0)), (1, .int a1), (2, .int x2), (3, .int x3), (4, .int x4), (5, .int x5)] [] u) (hk102 : ∀  (u : Mm), k102  u → AW g 1 M_X7_exchange (QI g 1 K) 102 [(0, .ref (gad g 0 0)), (1, .int a1), (2, .int a2)] [] u) : ∀ (n : Nat) (a3 : Int32) (σ : Mm), f_X7_exchange_32 a1 a2 K k76 k102 n a3 σ → AW g 1 M_X7_exchange (QI g 1 K) 32 [(0, .ref (gad g 0 0)), (1, .int a1), (2, .int a2), (3, .int a3)] [] σ := by
  intro n
  induction n with
  | zero => intro a3 σ h; exact False.elim h
  | succ n ih =>
    intro a3 σ h
    rw [f_X7_exchange_32] at h
    refine AW.iload_n dX7_exchange_32 3 rfl ?_
    refine AW.bipush (v := (8 : Int32)) dX7_exchange_33 rfl ?_
    refine AW.icmp_ge (tgt := 102) dX7_exchange_35 rfl (fun c => ?_) (fun c => ?_)
    · replace h := ite_t c h
      refine AW.eqL [0, 1, 2] rfl ?_
      exact hk102 _ h
    · replace h := ite_f c h
      refine AW.aload_n dX7_exchange_38 0 rfl ?_
      refine AW.iload_n dX7_exchange_39 2 rfl ?_
      refine AW.callVI [.int a2] (C_X7_seatOf h) ok_X7_seatOf (id1_0_0) rfl rfl w_1202 rfl (Nat.le_of_ble_eq_true rfl) (Nat.le_of_ble_eq_true rfl) rfl dX7_exchange_40 (fun r7 σ6 h => ?_)
      refine AW.istore (L' := [(0, .ref (gad g 0 0)), (1, .int a1), (2, .int a2), (3, .int a3), (4, .int r7)]) dX7_exchange_43 (Nat.le_of_ble_eq_true rfl) rfl ?_
      refine AW.aload_n dX7_exchange_45 0 rfl ?_
      refine AW.iload_n dX7_exchange_46 3 rfl ?_
      refine AW.callVI [.int a3] (C_X7_seatOf h) ok_X7_seatOf (id1_0_0) rfl rfl w_1202 rfl (Nat.le_of_ble_eq_true rfl) (Nat.le_of_ble_eq_true rfl) rfl dX7_exchange_47 (fun r9 σ8 h => ?_)
      refine AW.istore (L' := [(0, .ref (gad g 0 0)), (1, .int a1), (2, .int a2), (3, .int a3), (4, .int r7), (5, .int r9)]) dX7_exchange_50 (Nat.le_of_ble_eq_true rfl) rfl ?_
      refine AW.iload dX7_exchange_52 4 rfl ?_
      refine AW.if_lt (tgt := 96) dX7_exchange_54 rfl (fun c => ?_) (fun c => ?_)
      · replace h := ite_t c h
        refine AW.iinc (v := (a3 + (1 : Int32))) (L' := [(0, .ref (gad g 0 0)), (1, .int a1), (2, .int a2), (3, .int (a3 + (1 : Int32))), (4, .int r7), (5, .int r9)]) dX7_exchange_96 3 rfl rfl (Nat.le_of_ble_eq_true rfl) rfl ?_
        refine AW.goto (tgt := 32) dX7_exchange_99 rfl ?_
        refine AW.eqL [0, 1, 2, 3] rfl ?_
        exact ih _ _ h
      · replace h := ite_f c h
        refine AW.iload dX7_exchange_57 5 rfl ?_
        refine AW.if_lt (tgt := 96) dX7_exchange_59 rfl (fun c => ?_) (fun c => ?_)
        · replace h := ite_t c h
          refine AW.iinc (v := (a3 + (1 : Int32))) (L' := [(0, .ref (gad g 0 0)), (1, .int a1), (2, .int a2), (3, .int (a3 + (1 : Int32))), (4, .int r7), (5, .int r9)]) dX7_exchange_96 3 rfl rfl (Nat.le_of_ble_eq_true rfl) rfl ?_
          refine AW.goto (tgt := 32) dX7_exchange_99 rfl ?_
          refine AW.eqL [0, 1, 2, 3] rfl ?_
          exact ih _ _ h
        · replace h := ite_f c h
          refine AW.aload_n dX7_exchange_62 0 rfl ?_
          refine AW.iload dX7_exchange_63 4 rfl ?_
          refine AW.iload dX7_exchange_65 5 rfl ?_
          refine AW.callVB [.int r7, .int r9] (C_X7_wouldChange h) ok_X7_wouldChange (id1_0_0) rfl rfl w_1206 rfl (Nat.le_of_ble_eq_true rfl) (Nat.le_of_ble_eq_true rfl) rfl dX7_exchange_67 (fun b11 σ10 h => ?_)
          refine AW.ifb_ne (tgt := 76) dX7_exchange_70 rfl (fun c => ?_) (fun c => ?_)
          · replace h := ite_t c h
            exact hk76 _ _ _ _ _ h
          · replace h := ite_f c h
            refine AW.goto (tgt := 96) dX7_exchange_73 rfl ?_
            refine AW.iinc (v := (a3 + (1 : Int32))) (L' := [(0, .ref (gad g 0 0)), (1, .int a1), (2, .int a2), (3, .int (a3 + (1 : Int32))), (4, .int r7), (5, .int r9)]) dX7_exchange_96 3 rfl rfl (Nat.le_of_ble_eq_true rfl) rfl ?_
            refine AW.goto (tgt := 32) dX7_exchange_99 rfl ?_
            refine AW.eqL [0, 1, 2, 3] rfl ?_
            exact ih _ _ h
set_option maxRecDepth 100000 in
def f_X7_exchange_22 (a1 : Int32) (K : Int32 → Mm → Prop) (k76 : Int32 → Int32 → Int32 → Int32 → Mm → Prop) : Nat → Int32 → Mm → Prop
  | 0, _, _ => False
  | n + 1, a2, σ => (if (8 : Int32) ≤ a2 then (f_X7_finds (-1000004 : Int32) σ (fun r5 σ4 => (K r5 σ4))) else (∃ m, f_X7_exchange_32 a1 a2 K k76 (fun σ12 => (f_X7_exchange_22 a1 K k76 n (a2 + (1 : Int32)) σ12)) m (a2 + (1 : Int32)) σ))
set_option maxRecDepth 100000 in
set_option maxHeartbeats 4000000 in
theorem T_X7_exchange_22 {g : GG} {a1 : Int32} {K : Int32 → Mm → Prop} {k76 : Int32 → Int32 → Int32 → Int32 → Mm → Prop} (hk76 : ∀ (x2 : Int32) (x3 : Int32) (x4 : Int32) (x5 : Int32) (u : Mm), k76 x2 x3 x4 x5 u → AW g 1 M_X7_exchange (QI g 1 K) 76 [(0, .ref (gad g 0 0)), (1, .int a1), (2, .int x2), (3, .int x3), (4, .int x4), (5, .int x5)] [] u) : ∀ (n : Nat) (a2 : Int32) (σ : Mm), f_X7_exchange_22 a1 K k76 n a2 σ → AW g 1 M_X7_exchange (QI g 1 K) 22 [(0, .ref (gad g 0 0)), (1, .int a1), (2, .int a2)] [] σ := by
  intro n
  induction n with
  | zero => intro a2 σ h; exact False.elim h
  | succ n ih =>
    intro a2 σ h
    rw [f_X7_exchange_22] at h
    refine AW.iload_n dX7_exchange_22 2 rfl ?_
    refine AW.bipush (v := (8 : Int32)) dX7_exchange_23 rfl ?_
    refine AW.icmp_ge (tgt := 108) dX7_exchange_25 rfl (fun c => ?_) (fun c => ?_)
    · replace h := ite_t c h
      refine AW.aload_n dX7_exchange_108 0 rfl ?_
      refine AW.ldc (v := (-1000004 : Int32)) dX7_exchange_109 w_1084 ?_
      refine AW.callVI [.int (-1000004 : Int32)] (C_X7_finds h) ok_X7_finds (id1_0_0) rfl rfl w_952 rfl (Nat.le_of_ble_eq_true rfl) (Nat.le_of_ble_eq_true rfl) rfl dX7_exchange_111 (fun r5 σ4 h => ?_)
      exact AW.iret rfl dX7_exchange_114 h
    · replace h := ite_f c h
      refine AW.iload_n dX7_exchange_28 2 rfl ?_
      refine AW.iconst (v := (1 : Int32)) dX7_exchange_29 rfl ?_
      refine AW.iadd dX7_exchange_30 ?_
      refine AW.istore_n (L' := [(0, .ref (gad g 0 0)), (1, .int a1), (2, .int a2), (3, .int (a2 + (1 : Int32)))]) dX7_exchange_31 (Nat.le_of_ble_eq_true rfl) rfl ?_
      obtain ⟨m, h⟩ := h
      refine T_X7_exchange_32 hk76 (fun σ12 h => ?_) m _ _ h
      refine AW.iinc (v := (a2 + (1 : Int32))) (L' := [(0, .ref (gad g 0 0)), (1, .int a1), (2, .int (a2 + (1 : Int32)))]) dX7_exchange_102 2 rfl rfl (Nat.le_of_ble_eq_true rfl) rfl ?_
      refine AW.goto (tgt := 22) dX7_exchange_105 rfl ?_
      exact ih _ _ h
def f_X7_exchange (a1 : Int32) (σ : Mm) (K : Int32 → Mm → Prop) : Prop := (f_X7_isBench a1 σ (fun b2 σ1 => (if b2 = true then (f_X7_looksAt a1 σ1 (fun σ3 => (∃ m, f_X7_exchange_22 a1 K (fun a2x13 a3x13 a4x13 a5x13 σ13 => (f_X7_changes a4x13 a5x13 σ13 (fun σ14 => (f_X7_laysDown a1 σ14 (fun σ15 => (K (((10 : Int32) * a2x13) + a3x13) σ15)))))) m (0 : Int32) σ3))) else (f_X7_finds (-1000001 : Int32) σ1 (fun r17 σ16 => (K r17 σ16))))))
set_option maxRecDepth 100000 in
set_option maxHeartbeats 4000000 in
theorem C_X7_exchange {g : GG} {a1 : Int32} {σ : Mm} {K : Int32 → Mm → Prop} (h : f_X7_exchange a1 σ K) : Ct g 1 M_X7_exchange (QI g 1 K) [.ref (gad g 0 0), .int a1] σ := by
  unfold f_X7_exchange at h
  refine Ct.of (L := [(0, .ref (gad g 0 0)), (1, .int a1)]) (show plainName RX7 = true by decide) (Nat.le_of_ble_eq_true rfl) rfl ?_
  refine AW.aload_n dX7_exchange_0 0 rfl ?_
  refine AW.iload_n dX7_exchange_1 1 rfl ?_
  refine AW.callVB [.int a1] (C_X7_isBench h) ok_X7_isBench (id1_0_0) rfl rfl w_1015 rfl (Nat.le_of_ble_eq_true rfl) (Nat.le_of_ble_eq_true rfl) rfl dX7_exchange_2 (fun b2 σ1 h => ?_)
  refine AW.ifb_ne (tgt := 15) dX7_exchange_5 rfl (fun c => ?_) (fun c => ?_)
  · replace h := ite_t c h
    refine AW.aload_n dX7_exchange_15 0 rfl ?_
    refine AW.iload_n dX7_exchange_16 1 rfl ?_
    refine AW.callVV [.int a1] (C_X7_looksAt h) ok_X7_looksAt (id1_0_0) rfl rfl w_1020 rfl (Nat.le_of_ble_eq_true rfl) (Nat.le_of_ble_eq_true rfl) rfl dX7_exchange_17 (fun σ3 h => ?_)
    refine AW.iconst (v := (0 : Int32)) dX7_exchange_20 rfl ?_
    refine AW.istore_n (L' := [(0, .ref (gad g 0 0)), (1, .int a1), (2, .int (0 : Int32))]) dX7_exchange_21 (Nat.le_of_ble_eq_true rfl) rfl ?_
    obtain ⟨m, h⟩ := h
    refine T_X7_exchange_22 (fun a2x13 a3x13 a4x13 a5x13 σ13 h => ?_) m _ _ h
    refine AW.aload_n dX7_exchange_76 0 rfl ?_
    refine AW.iload dX7_exchange_77 4 rfl ?_
    refine AW.iload dX7_exchange_79 5 rfl ?_
    refine AW.callVV [.int a4x13, .int a5x13] (C_X7_changes h) ok_X7_changes (id1_0_0) rfl rfl w_1210 rfl (Nat.le_of_ble_eq_true rfl) (Nat.le_of_ble_eq_true rfl) rfl dX7_exchange_81 (fun σ14 h => ?_)
    refine AW.aload_n dX7_exchange_84 0 rfl ?_
    refine AW.iload_n dX7_exchange_85 1 rfl ?_
    refine AW.callVV [.int a1] (C_X7_laysDown h) ok_X7_laysDown (id1_0_0) rfl rfl w_1166 rfl (Nat.le_of_ble_eq_true rfl) (Nat.le_of_ble_eq_true rfl) rfl dX7_exchange_86 (fun σ15 h => ?_)
    refine AW.bipush (v := (10 : Int32)) dX7_exchange_89 rfl ?_
    refine AW.iload_n dX7_exchange_91 2 rfl ?_
    refine AW.imul dX7_exchange_92 ?_
    refine AW.iload_n dX7_exchange_93 3 rfl ?_
    refine AW.iadd dX7_exchange_94 ?_
    exact AW.iret rfl dX7_exchange_95 h
  · replace h := ite_f c h
    refine AW.aload_n dX7_exchange_8 0 rfl ?_
    refine AW.ldc (v := (-1000001 : Int32)) dX7_exchange_9 w_951 ?_
    refine AW.callVI [.int (-1000001 : Int32)] (C_X7_finds h) ok_X7_finds (id1_0_0) rfl rfl w_952 rfl (Nat.le_of_ble_eq_true rfl) (Nat.le_of_ble_eq_true rfl) rfl dX7_exchange_11 (fun r17 σ16 h => ?_)
    exact AW.iret rfl dX7_exchange_14 h
theorem ok_X7_exchange : OkV M_X7_exchange 1 := ⟨w_1199, w_1200, w_9, w_1201, by decide +kernel, (Nat.le_of_ble_eq_true rfl)⟩
