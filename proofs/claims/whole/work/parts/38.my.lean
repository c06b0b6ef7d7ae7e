def M_X7_judge : MT := (yX7_judge, cX7_judge, 6, some .int, 7)
def f_X7_judge_110 (a1 : Int32) (a2 : Int32) (a3 : Int32) (a4 : Int32) (a5 : Int32) (K : Int32 → Mm → Prop) (k51 : Int32 → Int32 → Mm → Prop) (σ : Mm) : Prop := (if (8 : Int32) ≤ a5 then (k51 (a3 ||| (0 : Int32)) (a4 + (1 : Int32)) σ) else (k51 (a3 ||| ((1 : Int32) <<< (a5 &&& 31))) (a4 + (1 : Int32)) σ))
set_option maxRecDepth 100000 in
set_option maxHeartbeats 4000000 in
theorem T_X7_judge_110 {g : GG} {a1 : Int32} {a2 : Int32} {a3 : Int32} {a4 : Int32} {a5 : Int32} {K : Int32 → Mm → Prop} {k51 : Int32 → Int32 → Mm → Prop} {σ : Mm} (hk51 : ∀ (x3 : Int32) (x4 : Int32) (u : Mm), k51 x3 x4 u → AW g 1 M_X7_judge (QI g 1 K) 51 [(0, .ref (gad g 0 0)), (1, .int a1), (2, .int a2), (3, .int x3), (4, .int x4)] [] u) (h : f_X7_judge_110 a1 a2 a3 a4 a5 K k51 σ) : AW g 1 M_X7_judge (QI g 1 K) 110 [(0, .ref (gad g 0 0)), (1, .int a1), (2, .int a2), (3, .int a3), (4, .int a4), (5, .int a5)] [] σ := by
  unfold f_X7_judge_110 at h
  refine AW.iload_n dX7_judge_110 3 rfl ?_
  refine AW.iload dX7_judge_111 5 rfl ?_
  refine AW.bipush (v := (8 : Int32)) dX7_judge_113 rfl ?_
  refine AW.icmp_ge (tgt := 125) dX7_judge_115 rfl (fun c => ?_) (fun c => ?_)
  · replace h := ite_t c h
    refine AW.iconst (v := (0 : Int32)) dX7_judge_125 rfl ?_
    refine AW.ior dX7_judge_126 ?_
    refine AW.istore_n (L' := [(0, .ref (gad g 0 0)), (1, .int a1), (2, .int a2), (3, .int (a3 ||| (0 : Int32))), (4, .int a4), (5, .int a5)]) dX7_judge_127 (Nat.le_of_ble_eq_true rfl) rfl ?_
    refine AW.iinc (v := (a4 + (1 : Int32))) (L' := [(0, .ref (gad g 0 0)), (1, .int a1), (2, .int a2), (3, .int (a3 ||| (0 : Int32))), (4, .int (a4 + (1 : Int32))), (5, .int a5)]) dX7_judge_128 4 rfl rfl (Nat.le_of_ble_eq_true rfl) rfl ?_
    refine AW.goto (tgt := 51) dX7_judge_131 rfl ?_
    refine AW.eqL [0, 1, 2, 3, 4] rfl ?_
    exact hk51 _ _ _ h
  · replace h := ite_f c h
    refine AW.iconst (v := (1 : Int32)) dX7_judge_118 rfl ?_
    refine AW.iload dX7_judge_119 5 rfl ?_
    refine AW.ishl dX7_judge_121 ?_
    refine AW.goto (tgt := 126) dX7_judge_122 rfl ?_
    refine AW.ior dX7_judge_126 ?_
    refine AW.istore_n (L' := [(0, .ref (gad g 0 0)), (1, .int a1), (2, .int a2), (3, .int (a3 ||| ((1 : Int32) <<< (a5 &&& 31)))), (4, .int a4), (5, .int a5)]) dX7_judge_127 (Nat.le_of_ble_eq_true rfl) rfl ?_
    refine AW.iinc (v := (a4 + (1 : Int32))) (L' := [(0, .ref (gad g 0 0)), (1, .int a1), (2, .int a2), (3, .int (a3 ||| ((1 : Int32) <<< (a5 &&& 31)))), (4, .int (a4 + (1 : Int32))), (5, .int a5)]) dX7_judge_128 4 rfl rfl (Nat.le_of_ble_eq_true rfl) rfl ?_
    refine AW.goto (tgt := 51) dX7_judge_131 rfl ?_
    refine AW.eqL [0, 1, 2, 3, 4] rfl ?_
    exact hk51 _ _ _ h
set_option maxRecDepth 100000 in
def f_X7_judge_51 (a1 : Int32) (a2 : Int32) (K : Int32 → Mm → Prop) (k134 : Mm → Prop) : Nat → Int32 → Int32 → Mm → Prop
  | 0, _, _, _ => False
  | n + 1, a3, a4, σ => (vp_in a1 4 ∧ (if (σ 11 0 (a1.toNatClampNeg)) ≤ a4 then (k134 σ) else (vp_in (((40 : Int32) * a1) + a4) 160 ∧ (f_X7_in (((σ 12 0 ((((40 : Int32) * a1) + a4).toNatClampNeg))).toInt64) (0 : Int64) (8 : Int64) σ (fun b9 σ8 => (if b9 = true then (if (8 : Int32) ≤ (σ 12 0 ((((40 : Int32) * a1) + a4).toNatClampNeg)) then (f_X7_judge_110 a1 a2 a3 a4 (σ 12 0 ((((40 : Int32) * a1) + a4).toNatClampNeg)) K (f_X7_judge_51 a1 a2 K k134 n) σ8) else (f_X7_has a3 (σ 12 0 ((((40 : Int32) * a1) + a4).toNatClampNeg)) σ8 (fun b11 σ10 => (if b11 = true then (K ((1 : Int32) + a4) σ10) else (f_X7_judge_110 a1 a2 a3 a4 (σ 12 0 ((((40 : Int32) * a1) + a4).toNatClampNeg)) K (f_X7_judge_51 a1 a2 K k134 n) σ10))))) else (K ((1 : Int32) + a4) σ8)))))))
set_option maxRecDepth 100000 in
set_option maxHeartbeats 4000000 in
theorem T_X7_judge_51 {g : GG} {a1 : Int32} {a2 : Int32} {K : Int32 → Mm → Prop} {k134 : Mm → Prop} (hk134 : ∀  (u : Mm), k134  u → AW g 1 M_X7_judge (QI g 1 K) 134 [(0, .ref (gad g 0 0)), (1, .int a1), (2, .int a2)] [] u) : ∀ (n : Nat) (a3 : Int32) (a4 : Int32) (σ : Mm), f_X7_judge_51 a1 a2 K k134 n a3 a4 σ → AW g 1 M_X7_judge (QI g 1 K) 51 [(0, .ref (gad g 0 0)), (1, .int a1), (2, .int a2), (3, .int a3), (4, .int a4)] [] σ := by
  intro n
  induction n with
  | zero => intro a3 a4 σ h; exact False.elim h
  | succ n ih =>
    intro a3 a4 σ h
    rw [f_X7_judge_51] at h
    refine AW.iload dX7_judge_51 4 rfl ?_
    refine AW.aload_n dX7_judge_53 0 rfl ?_
    refine AW.get (k := 19) (v := .ref (gad g 11 0)) (id1_0_0) rfl rfl inGX7 (Nat.le_of_ble_eq_true rfl) w_891 rfl dX7_judge_54 ?_
    refine AW.iload_n dX7_judge_57 1 rfl ?_
    obtain ⟨hq6, h⟩ := h
    refine AW.iald (jn := (a1.toNatClampNeg)) (id1_11_0) rfl hq6 rfl dX7_judge_58 ?_
    refine AW.icmp_ge (tgt := 134) dX7_judge_59 rfl (fun c => ?_) (fun c => ?_)
    · replace h := ite_t c h
      refine AW.eqL [0, 1, 2] rfl ?_
      exact hk134 _ h
    · replace h := ite_f c h
      refine AW.aload_n dX7_judge_62 0 rfl ?_
      refine AW.get (k := 20) (v := .ref (gad g 12 0)) (id1_0_0) rfl rfl inGX7 (Nat.le_of_ble_eq_true rfl) w_892 rfl dX7_judge_63 ?_
      refine AW.bipush (v := (40 : Int32)) dX7_judge_66 rfl ?_
      refine AW.iload_n dX7_judge_68 1 rfl ?_
      refine AW.imul dX7_judge_69 ?_
      refine AW.iload dX7_judge_70 4 rfl ?_
      refine AW.iadd dX7_judge_72 ?_
      obtain ⟨hq7, h⟩ := h
      refine AW.iald (jn := ((((40 : Int32) * a1) + a4).toNatClampNeg)) (id1_12_0) rfl hq7 rfl dX7_judge_73 ?_
      refine AW.istore (L' := [(0, .ref (gad g 0 0)), (1, .int a1), (2, .int a2), (3, .int a3), (4, .int a4), (5, .int (σ 12 0 ((((40 : Int32) * a1) + a4).toNatClampNeg)))]) dX7_judge_74 (Nat.le_of_ble_eq_true rfl) rfl ?_
      refine AW.iload dX7_judge_76 5 rfl ?_
      refine AW.i2l dX7_judge_78 ?_
      refine AW.lconst (v := (0 : Int64)) dX7_judge_79 rfl ?_
      refine AW.ldc2 (v := (8 : Int64)) dX7_judge_80 w_1002 ?_
      refine AW.callSB [.long (((σ 12 0 ((((40 : Int32) * a1) + a4).toNatClampNeg))).toInt64), .long (0 : Int64), .long (8 : Int64)] (C_X7_in h) ok_X7_in w_947 rfl (Nat.le_of_ble_eq_true rfl) (Nat.le_of_ble_eq_true rfl) rfl dX7_judge_83 (fun b9 σ8 h => ?_)
      refine AW.ifb_eq (tgt := 105) dX7_judge_86 rfl (fun c => ?_) (fun c => ?_)
      · replace h := ite_f c h
        refine AW.iconst (v := (1 : Int32)) dX7_judge_105 rfl ?_
        refine AW.iload dX7_judge_106 4 rfl ?_
        refine AW.iadd dX7_judge_108 ?_
        exact AW.iret rfl dX7_judge_109 h
      · replace h := ite_t c h
        refine AW.iload dX7_judge_89 5 rfl ?_
        refine AW.bipush (v := (8 : Int32)) dX7_judge_91 rfl ?_
        refine AW.icmp_ge (tgt := 110) dX7_judge_93 rfl (fun c => ?_) (fun c => ?_)
        · replace h := ite_t c h
          exact T_X7_judge_110 ih h
        · replace h := ite_f c h
          refine AW.iload_n dX7_judge_96 3 rfl ?_
          refine AW.iload dX7_judge_97 5 rfl ?_
          refine AW.callSB [.int a3, .int (σ 12 0 ((((40 : Int32) * a1) + a4).toNatClampNeg))] (C_X7_has h) ok_X7_has w_1125 rfl (Nat.le_of_ble_eq_true rfl) (Nat.le_of_ble_eq_true rfl) rfl dX7_judge_99 (fun b11 σ10 h => ?_)
          refine AW.ifb_eq (tgt := 110) dX7_judge_102 rfl (fun c => ?_) (fun c => ?_)
          · replace h := ite_f c h
            exact T_X7_judge_110 ih h
          · replace h := ite_t c h
            refine AW.iconst (v := (1 : Int32)) dX7_judge_105 rfl ?_
            refine AW.iload dX7_judge_106 4 rfl ?_
            refine AW.iadd dX7_judge_108 ?_
            exact AW.iret rfl dX7_judge_109 h
set_option maxRecDepth 100000 in
def f_X7_judge_159 (a1 : Int32) (K : Int32 → Mm → Prop) : Nat → Int32 → Mm → Prop
  | 0, _, _ => False
  | n + 1, a4, σ => (if (σ 0 0 7) ≤ a4 then (f_X7_holdsNow σ (fun b18 σ17 => (if b18 = true then (K (0 : Int32) σ17) else (K (42 : Int32) σ17)))) else (vp_in (((40 : Int32) * a1) + a4) 160 ∧ (if (σ 12 0 ((((40 : Int32) * a1) + a4).toNatClampNeg)) = (8 : Int32) then (vp_in a4 8 ∧ (∃ σ24, σ24 = mset σ 5 0 (a4.toNatClampNeg) (-1 : Int32) ∧ (f_X7_judge_159 a1 K n (a4 + (1 : Int32)) σ24))) else (vp_in (((40 : Int32) * a1) + a4) 160 ∧ (vp_in a4 8 ∧ (∃ σ22, σ22 = mset σ 5 0 (a4.toNatClampNeg) (σ 12 0 ((((40 : Int32) * a1) + a4).toNatClampNeg)) ∧ (f_X7_judge_159 a1 K n (a4 + (1 : Int32)) σ22)))))))
set_option maxRecDepth 100000 in
set_option maxHeartbeats 4000000 in
theorem T_X7_judge_159 {g : GG} {a1 : Int32} {K : Int32 → Mm → Prop} : ∀ (n : Nat) (a4 : Int32) (σ : Mm), f_X7_judge_159 a1 K n a4 σ → AW g 1 M_X7_judge (QI g 1 K) 159 [(0, .ref (gad g 0 0)), (1, .int a1), (4, .int a4)] [] σ := by
  intro n
  induction n with
  | zero => intro a4 σ h; exact False.elim h
  | succ n ih =>
    intro a4 σ h
    rw [f_X7_judge_159] at h
    refine AW.iload dX7_judge_159 2 rfl ?_
    refine AW.aload_n dX7_judge_161 0 rfl ?_
    refine AW.get (k := 7) (v := .int (σ 0 0 7)) (id1_0_0) rfl rfl inGX7 (Nat.le_of_ble_eq_true rfl) w_879 rfl dX7_judge_162 ?_
    refine AW.icmp_ge (tgt := 214) dX7_judge_165 rfl (fun c => ?_) (fun c => ?_)
    · replace h := ite_t c h
      refine AW.aload_n dX7_judge_214 0 rfl ?_
      refine AW.callVB [] (C_X7_holdsNow h) ok_X7_holdsNow (id1_0_0) rfl rfl w_1040 rfl (Nat.le_of_ble_eq_true rfl) (Nat.le_of_ble_eq_true rfl) rfl dX7_judge_215 (fun b18 σ17 h => ?_)
      refine AW.ifb_eq (tgt := 225) dX7_judge_218 rfl (fun c => ?_) (fun c => ?_)
      · replace h := ite_f c h
        refine AW.bipush (v := (42 : Int32)) dX7_judge_225 rfl ?_
        exact AW.iret rfl dX7_judge_227 h
      · replace h := ite_t c h
        refine AW.iconst (v := (0 : Int32)) dX7_judge_221 rfl ?_
        refine AW.goto (tgt := 227) dX7_judge_222 rfl ?_
        exact AW.iret rfl dX7_judge_227 h
    · replace h := ite_f c h
      refine AW.aload_n dX7_judge_168 0 rfl ?_
      refine AW.get (k := 5) (v := .ref (gad g 5 0)) (id1_0_0) rfl rfl inGX7 (Nat.le_of_ble_eq_true rfl) w_877 rfl dX7_judge_169 ?_
      refine AW.iload dX7_judge_172 2 rfl ?_
      refine AW.aload_n dX7_judge_174 0 rfl ?_
      refine AW.get (k := 20) (v := .ref (gad g 12 0)) (id1_0_0) rfl rfl inGX7 (Nat.le_of_ble_eq_true rfl) w_892 rfl dX7_judge_175 ?_
      refine AW.bipush (v := (40 : Int32)) dX7_judge_178 rfl ?_
      refine AW.iload_n dX7_judge_180 1 rfl ?_
      refine AW.imul dX7_judge_181 ?_
      refine AW.iload dX7_judge_182 2 rfl ?_
      refine AW.iadd dX7_judge_184 ?_
      obtain ⟨hq19, h⟩ := h
      refine AW.iald (jn := ((((40 : Int32) * a1) + a4).toNatClampNeg)) (id1_12_0) rfl hq19 rfl dX7_judge_185 ?_
      refine AW.bipush (v := (8 : Int32)) dX7_judge_186 rfl ?_
      refine AW.icmp_ne (tgt := 195) dX7_judge_188 rfl (fun c => ?_) (fun c => ?_)
      · replace h := ite_f c h
        refine AW.aload_n dX7_judge_195 0 rfl ?_
        refine AW.get (k := 20) (v := .ref (gad g 12 0)) (id1_0_0) rfl rfl inGX7 (Nat.le_of_ble_eq_true rfl) w_892 rfl dX7_judge_196 ?_
        refine AW.bipush (v := (40 : Int32)) dX7_judge_199 rfl ?_
        refine AW.iload_n dX7_judge_201 1 rfl ?_
        refine AW.imul dX7_judge_202 ?_
        refine AW.iload dX7_judge_203 2 rfl ?_
        refine AW.iadd dX7_judge_205 ?_
        obtain ⟨hq20, h⟩ := h
        refine AW.iald (jn := ((((40 : Int32) * a1) + a4).toNatClampNeg)) (id1_12_0) rfl hq20 rfl dX7_judge_206 ?_
        obtain ⟨hq21, h⟩ := h
        refine AW.iast (jn := (a4.toNatClampNeg)) (id1_5_0) (fun _ => rfl) hq21 rfl dX7_judge_207 ?_
        obtain ⟨σ22, eσ22, h⟩ := h
        rw [← eσ22]
        refine AW.iinc (v := (a4 + (1 : Int32))) (L' := [(0, .ref (gad g 0 0)), (1, .int a1), (4, .int (a4 + (1 : Int32)))]) dX7_judge_208 2 rfl rfl (Nat.le_of_ble_eq_true rfl) rfl ?_
        refine AW.goto (tgt := 159) dX7_judge_211 rfl ?_
        exact ih _ _ h
      · replace h := ite_t c h
        refine AW.iconst (v := (-1 : Int32)) dX7_judge_191 rfl ?_
        refine AW.goto (tgt := 207) dX7_judge_192 rfl ?_
        obtain ⟨hq23, h⟩ := h
        refine AW.iast (jn := (a4.toNatClampNeg)) (id1_5_0) (fun _ => rfl) hq23 rfl dX7_judge_207 ?_
        obtain ⟨σ24, eσ24, h⟩ := h
        rw [← eσ24]
        refine AW.iinc (v := (a4 + (1 : Int32))) (L' := [(0, .ref (gad g 0 0)), (1, .int a1), (4, .int (a4 + (1 : Int32)))]) dX7_judge_208 2 rfl rfl (Nat.le_of_ble_eq_true rfl) rfl ?_
        refine AW.goto (tgt := 159) dX7_judge_211 rfl ?_
        exact ih _ _ h
def f_X7_judge (a1 : Int32) (a2 : Int32) (σ : Mm) (K : Int32 → Mm → Prop) : Prop := (f_X7_isSheet a1 σ (fun b2 σ1 => (if b2 = true then (vp_in a1 4 ∧ (if (σ1 10 0 (a1.toNatClampNeg)) = 0 then (f_X7_finds (-1000006 : Int32) σ1 (fun r28 σ27 => (K r28 σ27))) else (f_X7_isBench a2 σ1 (fun b5 σ4 => (if b5 = true then (∃ m, f_X7_judge_51 a1 a2 K (fun σ12 => (vp_in a1 4 ∧ (f_X7_seatsOf a2 σ12 (fun r15 σ14 => (if (σ12 11 0 (a1.toNatClampNeg)) = r15 then (f_X7_looksAt a2 σ14 (fun σ16 => (∃ m, f_X7_judge_159 a1 K m (0 : Int32) σ16))) else (K (41 : Int32) σ14)))))) m (0 : Int32) (0 : Int32) σ4) else (f_X7_finds (-1000001 : Int32) σ4 (fun r26 σ25 => (K r26 σ25)))))))) else (f_X7_finds (-1000001 : Int32) σ1 (fun r30 σ29 => (K r30 σ29))))))
set_option maxRecDepth 100000 in
set_option maxHeartbeats 4000000 in
theorem C_X7_judge {g : GG} {a1 : Int32} {a2 : Int32} {σ : Mm} {K : Int32 → Mm → Prop} (h : f_X7_judge a1 a2 σ K) : Ct g 1 M_X7_judge (QI g 1 K) [.ref (gad g 0 0), .int a1, .int a2] σ := by
  unfold f_X7_judge at h
  refine Ct.of (L := [(0, .ref (gad g 0 0)), (1, .int a1), (2, .int a2)]) (show plainName RX7 = true by decide) (Nat.le_of_ble_eq_true rfl) rfl ?_
  refine AW.iload_n dX7_judge_0 1 rfl ?_
  refine AW.callSB [.int a1] (C_X7_isSheet h) ok_X7_isSheet w_1331 rfl (Nat.le_of_ble_eq_true rfl) (Nat.le_of_ble_eq_true rfl) rfl dX7_judge_1 (fun b2 σ1 h => ?_)
  refine AW.ifb_ne (tgt := 14) dX7_judge_4 rfl (fun c => ?_) (fun c => ?_)
  · replace h := ite_t c h
    refine AW.aload_n dX7_judge_14 0 rfl ?_
    refine AW.get (k := 18) (v := .ref (gad g 10 0)) (id1_0_0) rfl rfl inGX7 (Nat.le_of_ble_eq_true rfl) w_890 rfl dX7_judge_15 ?_
    refine AW.iload_n dX7_judge_18 1 rfl ?_
    obtain ⟨hq3, h⟩ := h
    refine AW.iald (jn := (a1.toNatClampNeg)) (id1_10_0) rfl hq3 rfl dX7_judge_19 ?_
    refine AW.if_ne (tgt := 31) dX7_judge_20 rfl (fun c => ?_) (fun c => ?_)
    · replace h := ite_f c h
      refine AW.aload_n dX7_judge_31 0 rfl ?_
      refine AW.iload_n dX7_judge_32 2 rfl ?_
      refine AW.callVB [.int a2] (C_X7_isBench h) ok_X7_isBench (id1_0_0) rfl rfl w_1015 rfl (Nat.le_of_ble_eq_true rfl) (Nat.le_of_ble_eq_true rfl) rfl dX7_judge_33 (fun b5 σ4 h => ?_)
      refine AW.ifb_ne (tgt := 46) dX7_judge_36 rfl (fun c => ?_) (fun c => ?_)
      · replace h := ite_t c h
        refine AW.iconst (v := (0 : Int32)) dX7_judge_46 rfl ?_
        refine AW.istore_n (L' := [(0, .ref (gad g 0 0)), (1, .int a1), (2, .int a2), (3, .int (0 : Int32))]) dX7_judge_47 (Nat.le_of_ble_eq_true rfl) rfl ?_
        refine AW.iconst (v := (0 : Int32)) dX7_judge_48 rfl ?_
        refine AW.istore (L' := [(0, .ref (gad g 0 0)), (1, .int a1), (2, .int a2), (3, .int (0 : Int32)), (4, .int (0 : Int32))]) dX7_judge_49 (Nat.le_of_ble_eq_true rfl) rfl ?_
        obtain ⟨m, h⟩ := h
        refine T_X7_judge_51 (fun σ12 h => ?_) m _ _ _ h
        refine AW.aload_n dX7_judge_134 0 rfl ?_
        refine AW.get (k := 19) (v := .ref (gad g 11 0)) (id1_0_0) rfl rfl inGX7 (Nat.le_of_ble_eq_true rfl) w_891 rfl dX7_judge_135 ?_
        refine AW.iload_n dX7_judge_138 1 rfl ?_
        obtain ⟨hq13, h⟩ := h
        refine AW.iald (jn := (a1.toNatClampNeg)) (id1_11_0) rfl hq13 rfl dX7_judge_139 ?_
        refine AW.aload_n dX7_judge_140 0 rfl ?_
        refine AW.iload_n dX7_judge_141 2 rfl ?_
        refine AW.callVI [.int a2] (C_X7_seatsOf h) ok_X7_seatsOf (id1_0_0) rfl rfl w_1028 rfl (Nat.le_of_ble_eq_true rfl) (Nat.le_of_ble_eq_true rfl) rfl dX7_judge_142 (fun r15 σ14 h => ?_)
        refine AW.icmp_eq (tgt := 151) dX7_judge_145 rfl (fun c => ?_) (fun c => ?_)
        · replace h := ite_t c h
          refine AW.aload_n dX7_judge_151 0 rfl ?_
          refine AW.iload_n dX7_judge_152 2 rfl ?_
          refine AW.callVV [.int a2] (C_X7_looksAt h) ok_X7_looksAt (id1_0_0) rfl rfl w_1020 rfl (Nat.le_of_ble_eq_true rfl) (Nat.le_of_ble_eq_true rfl) rfl dX7_judge_153 (fun σ16 h => ?_)
          refine AW.iconst (v := (0 : Int32)) dX7_judge_156 rfl ?_
          refine AW.istore (L' := [(0, .ref (gad g 0 0)), (1, .int a1), (2, .int a2), (4, .int (0 : Int32))]) dX7_judge_157 (Nat.le_of_ble_eq_true rfl) rfl ?_
          obtain ⟨m, h⟩ := h
          refine AW.eqL [0, 1, 3] rfl ?_
          refine T_X7_judge_159 m _ _ h
        · replace h := ite_f c h
          refine AW.bipush (v := (41 : Int32)) dX7_judge_148 rfl ?_
          exact AW.iret rfl dX7_judge_150 h
      · replace h := ite_f c h
        refine AW.aload_n dX7_judge_39 0 rfl ?_
        refine AW.ldc (v := (-1000001 : Int32)) dX7_judge_40 w_951 ?_
        refine AW.callVI [.int (-1000001 : Int32)] (C_X7_finds h) ok_X7_finds (id1_0_0) rfl rfl w_952 rfl (Nat.le_of_ble_eq_true rfl) (Nat.le_of_ble_eq_true rfl) rfl dX7_judge_42 (fun r26 σ25 h => ?_)
        exact AW.iret rfl dX7_judge_45 h
    · replace h := ite_t c h
      refine AW.aload_n dX7_judge_23 0 rfl ?_
      refine AW.ldcw (v := (-1000006 : Int32)) dX7_judge_24 w_1322 ?_
      refine AW.callVI [.int (-1000006 : Int32)] (C_X7_finds h) ok_X7_finds (id1_0_0) rfl rfl w_952 rfl (Nat.le_of_ble_eq_true rfl) (Nat.le_of_ble_eq_true rfl) rfl dX7_judge_27 (fun r28 σ27 h => ?_)
      exact AW.iret rfl dX7_judge_30 h
  · replace h := ite_f c h
    refine AW.aload_n dX7_judge_7 0 rfl ?_
    refine AW.ldc (v := (-1000001 : Int32)) dX7_judge_8 w_951 ?_
    refine AW.callVI [.int (-1000001 : Int32)] (C_X7_finds h) ok_X7_finds (id1_0_0) rfl rfl w_952 rfl (Nat.le_of_ble_eq_true rfl) (Nat.le_of_ble_eq_true rfl) rfl dX7_judge_10 (fun r30 σ29 h => ?_)
    exact AW.iret rfl dX7_judge_13 h
theorem ok_X7_judge : OkV M_X7_judge 2 := ⟨w_1352, w_1353, w_9, w_1354, by decide +kernel, (Nat.le_of_ble_eq_true rfl)⟩
def M_X7_row_1_2 : MT := (yX7_row, cX7_row, 3, none, 1)
set_option maxRecDepth 100000 in
def f_X7_row_1_2_2 (K : Mm → Prop) : Nat → Int32 → Mm → Prop
  | 0, _, _ => False
  | n + 1, a2, σ => (if (136 : Int32) ≤ a2 then (K σ) else (vp_in a2 136 ∧ (vp_in a2 136 ∧ (∃ σ3, σ3 = mset σ 2 0 (a2.toNatClampNeg) (σ 1 0 (a2.toNatClampNeg)) ∧ (f_X7_row_1_2_2 K n (a2 + (1 : Int32)) σ3)))))
set_option maxRecDepth 100000 in
set_option maxHeartbeats 4000000 in
theorem T_X7_row_1_2_2 {g : GG} {K : Mm → Prop} : ∀ (n : Nat) (a2 : Int32) (σ : Mm), f_X7_row_1_2_2 K n a2 σ → AW g 1 M_X7_row_1_2 (QV g 1 K) 2 [(0, .ref (gad g 1 0)), (1, .ref (gad g 2 0)), (2, .int a2)] [] σ := by
  intro n
  induction n with
  | zero => intro a2 σ h; exact False.elim h
  | succ n ih =>
    intro a2 σ h
    rw [f_X7_row_1_2_2] at h
    refine AW.iload_n dX7_row_2 2 rfl ?_
    refine AW.sipush (v := (136 : Int32)) dX7_row_3 rfl ?_
    refine AW.icmp_ge (tgt := 21) dX7_row_6 rfl (fun c => ?_) (fun c => ?_)
    · replace h := ite_t c h
      exact AW.vret rfl dX7_row_21 h
    · replace h := ite_f c h
      refine AW.aload_n dX7_row_9 1 rfl ?_
      refine AW.iload_n dX7_row_10 2 rfl ?_
      refine AW.aload_n dX7_row_11 0 rfl ?_
      refine AW.iload_n dX7_row_12 2 rfl ?_
      obtain ⟨hq1, h⟩ := h
      refine AW.iald (jn := (a2.toNatClampNeg)) (id1_1_0) rfl hq1 rfl dX7_row_13 ?_
      obtain ⟨hq2, h⟩ := h
      refine AW.iast (jn := (a2.toNatClampNeg)) (id1_2_0) (fun _ => rfl) hq2 rfl dX7_row_14 ?_
      obtain ⟨σ3, eσ3, h⟩ := h
      rw [← eσ3]
      refine AW.iinc (v := (a2 + (1 : Int32))) (L' := [(0, .ref (gad g 1 0)), (1, .ref (gad g 2 0)), (2, .int (a2 + (1 : Int32)))]) dX7_row_15 2 rfl rfl (Nat.le_of_ble_eq_true rfl) rfl ?_
      refine AW.goto (tgt := 2) dX7_row_18 rfl ?_
      exact ih _ _ h
def f_X7_row_1_2 (σ : Mm) (K : Mm → Prop) : Prop := (∃ m, f_X7_row_1_2_2 K m (0 : Int32) σ)
set_option maxRecDepth 100000 in
set_option maxHeartbeats 4000000 in
theorem C_X7_row_1_2 {g : GG} {σ : Mm} {K : Mm → Prop} (h : f_X7_row_1_2 σ K) : Ct g 1 M_X7_row_1_2 (QV g 1 K) [.ref (gad g 1 0), .ref (gad g 2 0)] σ := by
  unfold f_X7_row_1_2 at h
  refine Ct.of (L := [(0, .ref (gad g 1 0)), (1, .ref (gad g 2 0))]) (show plainName RX7 = true by decide) (Nat.le_of_ble_eq_true rfl) rfl ?_
  refine AW.iconst (v := (0 : Int32)) dX7_row_0 rfl ?_
  refine AW.istore_n (L' := [(0, .ref (gad g 1 0)), (1, .ref (gad g 2 0)), (2, .int (0 : Int32))]) dX7_row_1 (Nat.le_of_ble_eq_true rfl) rfl ?_
  obtain ⟨m, h⟩ := h
  refine T_X7_row_1_2_2 m _ _ h
theorem ok_X7_row_1_2 : OkS M_X7_row_1_2 2 := ⟨w_1123, w_9, w_1124, by decide +kernel, (Nat.le_of_ble_eq_true rfl)⟩
def M_X7_image : MT := (yX7_image, cX7_image, 1, some .int, 2)
def f_X7_image (σ : Mm) (K : Int32 → Mm → Prop) : Prop := (f_X7_row_1_2 σ (fun σ1 => (∃ σ2, σ2 = mset σ1 0 0 3 (1 : Int32) ∧ (K (1 : Int32) σ2))))
set_option maxRecDepth 100000 in
set_option maxHeartbeats 4000000 in
theorem C_X7_image {g : GG} {σ : Mm} {K : Int32 → Mm → Prop} (h : f_X7_image σ K) : Ct g 1 M_X7_image (QI g 1 K) [.ref (gad g 0 0)] σ := by
  unfold f_X7_image at h
  refine Ct.of (L := [(0, .ref (gad g 0 0))]) (show plainName RX7 = true by decide) (Nat.le_of_ble_eq_true rfl) rfl ?_
  refine AW.aload_n dX7_image_0 0 rfl ?_
  refine AW.get (k := 0) (v := .ref (gad g 1 0)) (id1_0_0) rfl rfl inGX7 (Nat.le_of_ble_eq_true rfl) w_872 rfl dX7_image_1 ?_
  refine AW.aload_n dX7_image_4 0 rfl ?_
  refine AW.get (k := 1) (v := .ref (gad g 2 0)) (id1_0_0) rfl rfl inGX7 (Nat.le_of_ble_eq_true rfl) w_873 rfl dX7_image_5 ?_
  refine AW.callSV [.ref (gad g 1 0), .ref (gad g 2 0)] (C_X7_row_1_2 h) ok_X7_row_1_2 w_1122 rfl (Nat.le_of_ble_eq_true rfl) (Nat.le_of_ble_eq_true rfl) rfl dX7_image_8 (fun σ1 h => ?_)
  refine AW.aload_n dX7_image_11 0 rfl ?_
  refine AW.iconst (v := (1 : Int32)) dX7_image_12 rfl ?_
  refine AW.put (k := 3) (w := (1 : Int32)) (id1_0_0) rfl rfl inGX7 tyX7_ok nmX7 (Nat.le_of_ble_eq_true rfl) w_875 rfl rfl rfl rfl (Nat.le_of_ble_eq_true rfl) rfl dX7_image_13 ?_
  obtain ⟨σ2, eσ2, h⟩ := h
  rw [← eσ2]
  refine AW.iconst (v := (1 : Int32)) dX7_image_16 rfl ?_
  exact AW.iret rfl dX7_image_17 h
theorem ok_X7_image : OkV M_X7_image 0 := ⟨w_1356, w_1357, w_9, w_1358, by decide +kernel, (Nat.le_of_ble_eq_true rfl)⟩
def M_X7_row_2_1 : MT := (yX7_row, cX7_row, 3, none, 1)
set_option maxRecDepth 100000 in
def f_X7_row_2_1_2 (K : Mm → Prop) : Nat → Int32 → Mm → Prop
  | 0, _, _ => False
  | n + 1, a2, σ => (if (136 : Int32) ≤ a2 then (K σ) else (vp_in a2 136 ∧ (vp_in a2 136 ∧ (∃ σ3, σ3 = mset σ 1 0 (a2.toNatClampNeg) (σ 2 0 (a2.toNatClampNeg)) ∧ (f_X7_row_2_1_2 K n (a2 + (1 : Int32)) σ3)))))
set_option maxRecDepth 100000 in
set_option maxHeartbeats 4000000 in
theorem T_X7_row_2_1_2 {g : GG} {K : Mm → Prop} : ∀ (n : Nat) (a2 : Int32) (σ : Mm), f_X7_row_2_1_2 K n a2 σ → AW g 1 M_X7_row_2_1 (QV g 1 K) 2 [(0, .ref (gad g 2 0)), (1, .ref (gad g 1 0)), (2, .int a2)] [] σ := by
  intro n
  induction n with
  | zero => intro a2 σ h; exact False.elim h
  | succ n ih =>
    intro a2 σ h
    rw [f_X7_row_2_1_2] at h
    refine AW.iload_n dX7_row_2 2 rfl ?_
    refine AW.sipush (v := (136 : Int32)) dX7_row_3 rfl ?_
    refine AW.icmp_ge (tgt := 21) dX7_row_6 rfl (fun c => ?_) (fun c => ?_)
    · replace h := ite_t c h
      exact AW.vret rfl dX7_row_21 h
    · replace h := ite_f c h
      refine AW.aload_n dX7_row_9 1 rfl ?_
      refine AW.iload_n dX7_row_10 2 rfl ?_
      refine AW.aload_n dX7_row_11 0 rfl ?_
      refine AW.iload_n dX7_row_12 2 rfl ?_
      obtain ⟨hq1, h⟩ := h
      refine AW.iald (jn := (a2.toNatClampNeg)) (id1_2_0) rfl hq1 rfl dX7_row_13 ?_
      obtain ⟨hq2, h⟩ := h
      refine AW.iast (jn := (a2.toNatClampNeg)) (id1_1_0) (fun _ => rfl) hq2 rfl dX7_row_14 ?_
      obtain ⟨σ3, eσ3, h⟩ := h
      rw [← eσ3]
      refine AW.iinc (v := (a2 + (1 : Int32))) (L' := [(0, .ref (gad g 2 0)), (1, .ref (gad g 1 0)), (2, .int (a2 + (1 : Int32)))]) dX7_row_15 2 rfl rfl (Nat.le_of_ble_eq_true rfl) rfl ?_
      refine AW.goto (tgt := 2) dX7_row_18 rfl ?_
      exact ih _ _ h
def f_X7_row_2_1 (σ : Mm) (K : Mm → Prop) : Prop := (∃ m, f_X7_row_2_1_2 K m (0 : Int32) σ)
set_option maxRecDepth 100000 in
set_option maxHeartbeats 4000000 in
theorem C_X7_row_2_1 {g : GG} {σ : Mm} {K : Mm → Prop} (h : f_X7_row_2_1 σ K) : Ct g 1 M_X7_row_2_1 (QV g 1 K) [.ref (gad g 2 0), .ref (gad g 1 0)] σ := by
  unfold f_X7_row_2_1 at h
  refine Ct.of (L := [(0, .ref (gad g 2 0)), (1, .ref (gad g 1 0))]) (show plainName RX7 = true by decide) (Nat.le_of_ble_eq_true rfl) rfl ?_
  refine AW.iconst (v := (0 : Int32)) dX7_row_0 rfl ?_
  refine AW.istore_n (L' := [(0, .ref (gad g 2 0)), (1, .ref (gad g 1 0)), (2, .int (0 : Int32))]) dX7_row_1 (Nat.le_of_ble_eq_true rfl) rfl ?_
  obtain ⟨m, h⟩ := h
  refine T_X7_row_2_1_2 m _ _ h
theorem ok_X7_row_2_1 : OkS M_X7_row_2_1 2 := ⟨w_1123, w_9, w_1124, by decide +kernel, (Nat.le_of_ble_eq_true rfl)⟩
def M_X7_undo : MT := (yX7_undo, cX7_undo, 1, some .int, 2)
def f_X7_undo (σ : Mm) (K : Int32 → Mm → Prop) : Prop := (if (σ 0 0 3) = 0 then (f_X7_finds (-1000004 : Int32) σ (fun r3 σ2 => (K r3 σ2))) else (f_X7_row_2_1 σ (fun σ1 => (K (σ1 1 0 3) σ1))))
set_option maxRecDepth 100000 in
set_option maxHeartbeats 4000000 in
theorem C_X7_undo {g : GG} {σ : Mm} {K : Int32 → Mm → Prop} (h : f_X7_undo σ K) : Ct g 1 M_X7_undo (QI g 1 K) [.ref (gad g 0 0)] σ := by
  unfold f_X7_undo at h
  refine Ct.of (L := [(0, .ref (gad g 0 0))]) (show plainName RX7 = true by decide) (Nat.le_of_ble_eq_true rfl) rfl ?_
  refine AW.aload_n dX7_undo_0 0 rfl ?_
  refine AW.get (k := 3) (v := .int (σ 0 0 3)) (id1_0_0) rfl rfl inGX7 (Nat.le_of_ble_eq_true rfl) w_875 rfl dX7_undo_1 ?_
  refine AW.if_ne (tgt := 14) dX7_undo_4 rfl (fun c => ?_) (fun c => ?_)
  · replace h := ite_f c h
    refine AW.aload_n dX7_undo_14 0 rfl ?_
    refine AW.get (k := 1) (v := .ref (gad g 2 0)) (id1_0_0) rfl rfl inGX7 (Nat.le_of_ble_eq_true rfl) w_873 rfl dX7_undo_15 ?_
    refine AW.aload_n dX7_undo_18 0 rfl ?_
    refine AW.get (k := 0) (v := .ref (gad g 1 0)) (id1_0_0) rfl rfl inGX7 (Nat.le_of_ble_eq_true rfl) w_872 rfl dX7_undo_19 ?_
    refine AW.callSV [.ref (gad g 2 0), .ref (gad g 1 0)] (C_X7_row_2_1 h) ok_X7_row_2_1 w_1122 rfl (Nat.le_of_ble_eq_true rfl) (Nat.le_of_ble_eq_true rfl) rfl dX7_undo_22 (fun σ1 h => ?_)
    refine AW.aload_n dX7_undo_25 0 rfl ?_
    refine AW.get (k := 0) (v := .ref (gad g 1 0)) (id1_0_0) rfl rfl inGX7 (Nat.le_of_ble_eq_true rfl) w_872 rfl dX7_undo_26 ?_
    refine AW.iconst (v := (3 : Int32)) dX7_undo_29 rfl ?_
    refine AW.iald (jn := 3) (id1_1_0) rfl (by unfold vp_in; decide) rfl dX7_undo_30 ?_
    exact AW.iret rfl dX7_undo_31 h
  · replace h := ite_t c h
    refine AW.aload_n dX7_undo_7 0 rfl ?_
    refine AW.ldc (v := (-1000004 : Int32)) dX7_undo_8 w_1084 ?_
    refine AW.callVI [.int (-1000004 : Int32)] (C_X7_finds h) ok_X7_finds (id1_0_0) rfl rfl w_952 rfl (Nat.le_of_ble_eq_true rfl) (Nat.le_of_ble_eq_true rfl) rfl dX7_undo_10 (fun r3 σ2 h => ?_)
    exact AW.iret rfl dX7_undo_13 h
theorem ok_X7_undo : OkV M_X7_undo 0 := ⟨w_1360, w_1361, w_9, w_1362, by decide +kernel, (Nat.le_of_ble_eq_true rfl)⟩
def M_X7_tear : MT := (yX7_tear, cX7_tear, 2, some .int, 1)
def f_X7_tear (σ : Mm) (K : Int32 → Mm → Prop) : Prop := (if (σ 0 0 3) = 0 then (∃ σ1, σ1 = mset σ 0 0 3 (0 : Int32) ∧ (K (0 : Int32) σ1)) else (∃ σ2, σ2 = mset σ 0 0 3 (0 : Int32) ∧ (K (1 : Int32) σ2)))
set_option maxRecDepth 100000 in
set_option maxHeartbeats 4000000 in
theorem C_X7_tear {g : GG} {σ : Mm} {K : Int32 → Mm → Prop} (h : f_X7_tear σ K) : Ct g 1 M_X7_tear (QI g 1 K) [.ref (gad g 0 0)] σ := by
  unfold f_X7_tear at h
  refine Ct.of (L := [(0, .ref (gad g 0 0))]) (show plainName RX7 = true by decide) (Nat.le_of_ble_eq_true rfl) rfl ?_
  refine AW.aload_n dX7_tear_0 0 rfl ?_
  refine AW.get (k := 3) (v := .int (σ 0 0 3)) (id1_0_0) rfl rfl inGX7 (Nat.le_of_ble_eq_true rfl) w_875 rfl dX7_tear_1 ?_
  refine AW.if_eq (tgt := 11) dX7_tear_4 rfl (fun c => ?_) (fun c => ?_)
  · replace h := ite_t c h
    refine AW.iconst (v := (0 : Int32)) dX7_tear_11 rfl ?_
    refine AW.istore_n (L' := [(0, .ref (gad g 0 0)), (1, .int (0 : Int32))]) dX7_tear_12 (Nat.le_of_ble_eq_true rfl) rfl ?_
    refine AW.aload_n dX7_tear_13 0 rfl ?_
    refine AW.iconst (v := (0 : Int32)) dX7_tear_14 rfl ?_
    refine AW.put (k := 3) (w := (0 : Int32)) (id1_0_0) rfl rfl inGX7 tyX7_ok nmX7 (Nat.le_of_ble_eq_true rfl) w_875 rfl rfl rfl rfl (Nat.le_of_ble_eq_true rfl) rfl dX7_tear_15 ?_
    obtain ⟨σ1, eσ1, h⟩ := h
    rw [← eσ1]
    refine AW.iload_n dX7_tear_18 1 rfl ?_
    exact AW.iret rfl dX7_tear_19 h
  · replace h := ite_f c h
    refine AW.iconst (v := (1 : Int32)) dX7_tear_7 rfl ?_
    refine AW.goto (tgt := 12) dX7_tear_8 rfl ?_
    refine AW.istore_n (L' := [(0, .ref (gad g 0 0)), (1, .int (1 : Int32))]) dX7_tear_12 (Nat.le_of_ble_eq_true rfl) rfl ?_
    refine AW.aload_n dX7_tear_13 0 rfl ?_
    refine AW.iconst (v := (0 : Int32)) dX7_tear_14 rfl ?_
    refine AW.put (k := 3) (w := (0 : Int32)) (id1_0_0) rfl rfl inGX7 tyX7_ok nmX7 (Nat.le_of_ble_eq_true rfl) w_875 rfl rfl rfl rfl (Nat.le_of_ble_eq_true rfl) rfl dX7_tear_15 ?_
    obtain ⟨σ2, eσ2, h⟩ := h
    rw [← eσ2]
    refine AW.iload_n dX7_tear_18 1 rfl ?_
    exact AW.iret rfl dX7_tear_19 h
theorem ok_X7_tear : OkV M_X7_tear 0 := ⟨w_1364, w_1365, w_9, w_1366, by decide +kernel, (Nat.le_of_ble_eq_true rfl)⟩
def M_X7_pairs : MT := (yX7_pairs, cX7_pairs, 5, some .int, 3)
set_option maxRecDepth 100000 in
def f_X7_pairs_13 (a1 : Int32) (a3 : Int32) (K : Int32 → Mm → Prop) (k61 : Int32 → Mm → Prop) : Nat → Int32 → Int32 → Mm → Prop
  | 0, _, _, _ => False
  | n + 1, a2, a4, σ => (if a3 ≤ a4 then (k61 a2 σ) else (if a1 = 0 then (f_X7_areFriends a3 a4 σ (fun b2 σ1 => (if b2 = true then (f_X7_pairs_13 a1 a3 K k61 n (a2 + (1 : Int32)) (a4 + (1 : Int32)) σ1) else (f_X7_pairs_13 a1 a3 K k61 n (a2 + (0 : Int32)) (a4 + (1 : Int32)) σ1)))) else (f_X7_how a3 a4 σ (fun r4 σ3 => (if r4 = (2 : Int32) then (f_X7_pairs_13 a1 a3 K k61 n (a2 + (1 : Int32)) (a4 + (1 : Int32)) σ3) else (f_X7_pairs_13 a1 a3 K k61 n (a2 + (0 : Int32)) (a4 + (1 : Int32)) σ3))))))
set_option maxRecDepth 100000 in
set_option maxHeartbeats 4000000 in
theorem T_X7_pairs_13 {g : GG} {a1 : Int32} {a3 : Int32} {K : Int32 → Mm → Prop} {k61 : Int32 → Mm → Prop} (hk61 : ∀ (x2 : Int32) (u : Mm), k61 x2 u → AW g 1 M_X7_pairs (QI g 1 K) 61 [(0, .ref (gad g 0 0)), (1, .int a1), (2, .int x2), (3, .int a3)] [] u) : ∀ (n : Nat) (a2 : Int32) (a4 : Int32) (σ : Mm), f_X7_pairs_13 a1 a3 K k61 n a2 a4 σ → AW g 1 M_X7_pairs (QI g 1 K) 13 [(0, .ref (gad g 0 0)), (1, .int a1), (2, .int a2), (3, .int a3), (4, .int a4)] [] σ := by
  intro n
  induction n with
  | zero => intro a2 a4 σ h; exact False.elim h
  | succ n ih =>
    intro a2 a4 σ h
    rw [f_X7_pairs_13] at h
    refine AW.iload dX7_pairs_13 4 rfl ?_
    refine AW.iload_n dX7_pairs_15 3 rfl ?_
    refine AW.icmp_ge (tgt := 61) dX7_pairs_16 rfl (fun c => ?_) (fun c => ?_)
    · replace h := ite_t c h
      refine AW.eqL [0, 1, 2, 3] rfl ?_
      exact hk61 _ _ h
    · replace h := ite_f c h
      refine AW.iload_n dX7_pairs_19 2 rfl ?_
      refine AW.iload_n dX7_pairs_20 1 rfl ?_
      refine AW.if_eq (tgt := 38) dX7_pairs_21 rfl (fun c => ?_) (fun c => ?_)
      · replace h := ite_t c h
        refine AW.aload_n dX7_pairs_38 0 rfl ?_
        refine AW.iload_n dX7_pairs_39 3 rfl ?_
        refine AW.iload dX7_pairs_40 4 rfl ?_
        refine AW.callVB [.int a3, .int a4] (C_X7_areFriends h) ok_X7_areFriends (id1_0_0) rfl rfl w_990 rfl (Nat.le_of_ble_eq_true rfl) (Nat.le_of_ble_eq_true rfl) rfl dX7_pairs_42 (fun b2 σ1 h => ?_)
        refine AW.ifb_eq (tgt := 52) dX7_pairs_45 rfl (fun c => ?_) (fun c => ?_)
        · replace h := ite_f c h
          refine AW.iconst (v := (0 : Int32)) dX7_pairs_52 rfl ?_
          refine AW.iadd dX7_pairs_53 ?_
          refine AW.istore_n (L' := [(0, .ref (gad g 0 0)), (1, .int a1), (2, .int (a2 + (0 : Int32))), (3, .int a3), (4, .int a4)]) dX7_pairs_54 (Nat.le_of_ble_eq_true rfl) rfl ?_
          refine AW.iinc (v := (a4 + (1 : Int32))) (L' := [(0, .ref (gad g 0 0)), (1, .int a1), (2, .int (a2 + (0 : Int32))), (3, .int a3), (4, .int (a4 + (1 : Int32)))]) dX7_pairs_55 4 rfl rfl (Nat.le_of_ble_eq_true rfl) rfl ?_
          refine AW.goto (tgt := 13) dX7_pairs_58 rfl ?_
          exact ih _ _ _ h
        · replace h := ite_t c h
          refine AW.iconst (v := (1 : Int32)) dX7_pairs_48 rfl ?_
          refine AW.goto (tgt := 53) dX7_pairs_49 rfl ?_
          refine AW.iadd dX7_pairs_53 ?_
          refine AW.istore_n (L' := [(0, .ref (gad g 0 0)), (1, .int a1), (2, .int (a2 + (1 : Int32))), (3, .int a3), (4, .int a4)]) dX7_pairs_54 (Nat.le_of_ble_eq_true rfl) rfl ?_
          refine AW.iinc (v := (a4 + (1 : Int32))) (L' := [(0, .ref (gad g 0 0)), (1, .int a1), (2, .int (a2 + (1 : Int32))), (3, .int a3), (4, .int (a4 + (1 : Int32)))]) dX7_pairs_55 4 rfl rfl (Nat.le_of_ble_eq_true rfl) rfl ?_
          refine AW.goto (tgt := 13) dX7_pairs_58 rfl ?_
          exact ih _ _ _ h
      · replace h := ite_f c h
        refine AW.aload_n dX7_pairs_24 0 rfl ?_
        refine AW.iload_n dX7_pairs_25 3 rfl ?_
        refine AW.iload dX7_pairs_26 4 rfl ?_
        refine AW.callVI [.int a3, .int a4] (C_X7_how h) ok_X7_how (id1_0_0) rfl rfl w_956 rfl (Nat.le_of_ble_eq_true rfl) (Nat.le_of_ble_eq_true rfl) rfl dX7_pairs_28 (fun r4 σ3 h => ?_)
        refine AW.iconst (v := (2 : Int32)) dX7_pairs_31 rfl ?_
        refine AW.icmp_ne (tgt := 52) dX7_pairs_32 rfl (fun c => ?_) (fun c => ?_)
        · replace h := ite_f c h
          refine AW.iconst (v := (0 : Int32)) dX7_pairs_52 rfl ?_
          refine AW.iadd dX7_pairs_53 ?_
          refine AW.istore_n (L' := [(0, .ref (gad g 0 0)), (1, .int a1), (2, .int (a2 + (0 : Int32))), (3, .int a3), (4, .int a4)]) dX7_pairs_54 (Nat.le_of_ble_eq_true rfl) rfl ?_
          refine AW.iinc (v := (a4 + (1 : Int32))) (L' := [(0, .ref (gad g 0 0)), (1, .int a1), (2, .int (a2 + (0 : Int32))), (3, .int a3), (4, .int (a4 + (1 : Int32)))]) dX7_pairs_55 4 rfl rfl (Nat.le_of_ble_eq_true rfl) rfl ?_
          refine AW.goto (tgt := 13) dX7_pairs_58 rfl ?_
          exact ih _ _ _ h
        · replace h := ite_t c h
          refine AW.goto (tgt := 48) dX7_pairs_35 rfl ?_
          refine AW.iconst (v := (1 : Int32)) dX7_pairs_48 rfl ?_
          refine AW.goto (tgt := 53) dX7_pairs_49 rfl ?_
          refine AW.iadd dX7_pairs_53 ?_
          refine AW.istore_n (L' := [(0, .ref (gad g 0 0)), (1, .int a1), (2, .int (a2 + (1 : Int32))), (3, .int a3), (4, .int a4)]) dX7_pairs_54 (Nat.le_of_ble_eq_true rfl) rfl ?_
          refine AW.iinc (v := (a4 + (1 : Int32))) (L' := [(0, .ref (gad g 0 0)), (1, .int a1), (2, .int (a2 + (1 : Int32))), (3, .int a3), (4, .int (a4 + (1 : Int32)))]) dX7_pairs_55 4 rfl rfl (Nat.le_of_ble_eq_true rfl) rfl ?_
          refine AW.goto (tgt := 13) dX7_pairs_58 rfl ?_
          exact ih _ _ _ h
set_option maxRecDepth 100000 in
def f_X7_pairs_4 (a1 : Int32) (K : Int32 → Mm → Prop) : Nat → Int32 → Int32 → Mm → Prop
  | 0, _, _, _ => False
  | n + 1, a2, a3, σ => (if (8 : Int32) ≤ a3 then (K a2 σ) else (∃ m, f_X7_pairs_13 a1 a3 K (fun a2x5 σ5 => (f_X7_pairs_4 a1 K n a2x5 (a3 + (1 : Int32)) σ5)) m a2 (0 : Int32) σ))
set_option maxRecDepth 100000 in
set_option maxHeartbeats 4000000 in
theorem T_X7_pairs_4 {g : GG} {a1 : Int32} {K : Int32 → Mm → Prop} : ∀ (n : Nat) (a2 : Int32) (a3 : Int32) (σ : Mm), f_X7_pairs_4 a1 K n a2 a3 σ → AW g 1 M_X7_pairs (QI g 1 K) 4 [(0, .ref (gad g 0 0)), (1, .int a1), (2, .int a2), (3, .int a3)] [] σ := by
  intro n
  induction n with
  | zero => intro a2 a3 σ h; exact False.elim h
  | succ n ih =>
    intro a2 a3 σ h
    rw [f_X7_pairs_4] at h
    refine AW.iload_n dX7_pairs_4 3 rfl ?_
    refine AW.bipush (v := (8 : Int32)) dX7_pairs_5 rfl ?_
    refine AW.icmp_ge (tgt := 67) dX7_pairs_7 rfl (fun c => ?_) (fun c => ?_)
    · replace h := ite_t c h
      refine AW.iload_n dX7_pairs_67 2 rfl ?_
      exact AW.iret rfl dX7_pairs_68 h
    · replace h := ite_f c h
      refine AW.iconst (v := (0 : Int32)) dX7_pairs_10 rfl ?_
      refine AW.istore (L' := [(0, .ref (gad g 0 0)), (1, .int a1), (2, .int a2), (3, .int a3), (4, .int (0 : Int32))]) dX7_pairs_11 (Nat.le_of_ble_eq_true rfl) rfl ?_
      obtain ⟨m, h⟩ := h
      refine T_X7_pairs_13 (fun a2x5 σ5 h => ?_) m _ _ _ h
      refine AW.iinc (v := (a3 + (1 : Int32))) (L' := [(0, .ref (gad g 0 0)), (1, .int a1), (2, .int a2x5), (3, .int (a3 + (1 : Int32)))]) dX7_pairs_61 3 rfl rfl (Nat.le_of_ble_eq_true rfl) rfl ?_
      refine AW.goto (tgt := 4) dX7_pairs_64 rfl ?_
      exact ih _ _ _ h
def f_X7_pairs (a1 : Int32) (σ : Mm) (K : Int32 → Mm → Prop) : Prop := (∃ m, f_X7_pairs_4 a1 K m (0 : Int32) (0 : Int32) σ)
set_option maxRecDepth 100000 in
set_option maxHeartbeats 4000000 in
theorem C_X7_pairs {g : GG} {a1 : Int32} {σ : Mm} {K : Int32 → Mm → Prop} (h : f_X7_pairs a1 σ K) : Ct g 1 M_X7_pairs (QI g 1 K) [.ref (gad g 0 0), .int a1] σ := by
  unfold f_X7_pairs at h
  refine Ct.of (L := [(0, .ref (gad g 0 0)), (1, .int a1)]) (show plainName RX7 = true by decide) (Nat.le_of_ble_eq_true rfl) rfl ?_
  refine AW.iconst (v := (0 : Int32)) dX7_pairs_0 rfl ?_
  refine AW.istore_n (L' := [(0, .ref (gad g 0 0)), (1, .int a1), (2, .int (0 : Int32))]) dX7_pairs_1 (Nat.le_of_ble_eq_true rfl) rfl ?_
  refine AW.iconst (v := (0 : Int32)) dX7_pairs_2 rfl ?_
  refine AW.istore_n (L' := [(0, .ref (gad g 0 0)), (1, .int a1), (2, .int (0 : Int32)), (3, .int (0 : Int32))]) dX7_pairs_3 (Nat.le_of_ble_eq_true rfl) rfl ?_
  obtain ⟨m, h⟩ := h
  refine T_X7_pairs_4 m _ _ _ h
theorem ok_X7_pairs : OkV M_X7_pairs 1 := ⟨w_1373, wp_73, w_9, w_1374, by decide +kernel, (Nat.le_of_ble_eq_true rfl)⟩
def M_X7_count : MT := (yX7_count, cX7_count, 4, some .int, 8)
set_option maxRecDepth 100000 in
def f_X7_count_57 (K : Int32 → Mm → Prop) : Nat → Int32 → Int32 → Mm → Prop
  | 0, _, _, _ => False
  | n + 1, a2, a3, σ => (if (σ 1 0 3) ≤ a3 then (K a2 σ) else (f_X7_sitting a3 σ (fun r4 σ3 => (f_X7_count_57 K n (a2 + r4) (a3 + (1 : Int32)) σ3))))
set_option maxRecDepth 100000 in
set_option maxHeartbeats 4000000 in
theorem T_X7_count_57 {g : GG} {K : Int32 → Mm → Prop} : ∀ (n : Nat) (a2 : Int32) (a3 : Int32) (σ : Mm), f_X7_count_57 K n a2 a3 σ → AW g 1 M_X7_count (QI g 1 K) 57 [(0, .ref (gad g 0 0)), (2, .int a2), (3, .int a3)] [] σ := by
  intro n
  induction n with
  | zero => intro a2 a3 σ h; exact False.elim h
  | succ n ih =>
    intro a2 a3 σ h
    rw [f_X7_count_57] at h
    refine AW.iload_n dX7_count_57 2 rfl ?_
    refine AW.aload_n dX7_count_58 0 rfl ?_
    refine AW.get (k := 0) (v := .ref (gad g 1 0)) (id1_0_0) rfl rfl inGX7 (Nat.le_of_ble_eq_true rfl) w_872 rfl dX7_count_59 ?_
    refine AW.iconst (v := (3 : Int32)) dX7_count_62 rfl ?_
    refine AW.iald (jn := 3) (id1_1_0) rfl (by unfold vp_in; decide) rfl dX7_count_63 ?_
    refine AW.icmp_ge (tgt := 81) dX7_count_64 rfl (fun c => ?_) (fun c => ?_)
    · replace h := ite_t c h
      refine AW.iload_n dX7_count_81 1 rfl ?_
      exact AW.iret rfl dX7_count_82 h
    · replace h := ite_f c h
      refine AW.iload_n dX7_count_67 1 rfl ?_
      refine AW.aload_n dX7_count_68 0 rfl ?_
      refine AW.iload_n dX7_count_69 2 rfl ?_
      refine AW.callVI [.int a3] (C_X7_sitting h) ok_X7_sitting (id1_0_0) rfl rfl w_1032 rfl (Nat.le_of_ble_eq_true rfl) (Nat.le_of_ble_eq_true rfl) rfl dX7_count_70 (fun r4 σ3 h => ?_)
      refine AW.iadd dX7_count_73 ?_
      refine AW.istore_n (L' := [(0, .ref (gad g 0 0)), (2, .int (a2 + r4)), (3, .int a3)]) dX7_count_74 (Nat.le_of_ble_eq_true rfl) rfl ?_
      refine AW.iinc (v := (a3 + (1 : Int32))) (L' := [(0, .ref (gad g 0 0)), (2, .int (a2 + r4)), (3, .int (a3 + (1 : Int32)))]) dX7_count_75 2 rfl rfl (Nat.le_of_ble_eq_true rfl) rfl ?_
      refine AW.goto (tgt := 57) dX7_count_78 rfl ?_
      exact ih _ _ _ h
set_option maxRecDepth 100000 in
def f_X7_count_116 (K : Int32 → Mm → Prop) : Nat → Int32 → Int32 → Mm → Prop
  | 0, _, _, _ => False
  | n + 1, a2, a3, σ => (if (σ 1 0 3) ≤ a3 then (K a2 σ) else (f_X7_holds a3 σ (fun b10 σ9 => (if b10 = true then (f_X7_count_116 K n (a2 + (1 : Int32)) (a3 + (1 : Int32)) σ9) else (f_X7_count_116 K n (a2 + (0 : Int32)) (a3 + (1 : Int32)) σ9)))))
set_option maxRecDepth 100000 in
set_option maxHeartbeats 4000000 in
theorem T_X7_count_116 {g : GG} {K : Int32 → Mm → Prop} : ∀ (n : Nat) (a2 : Int32) (a3 : Int32) (σ : Mm), f_X7_count_116 K n a2 a3 σ → AW g 1 M_X7_count (QI g 1 K) 116 [(0, .ref (gad g 0 0)), (2, .int a2), (3, .int a3)] [] σ := by
  intro n
  induction n with
  | zero => intro a2 a3 σ h; exact False.elim h
  | succ n ih =>
    intro a2 a3 σ h
    rw [f_X7_count_116] at h
    refine AW.iload_n dX7_count_116 2 rfl ?_
    refine AW.aload_n dX7_count_117 0 rfl ?_
    refine AW.get (k := 0) (v := .ref (gad g 1 0)) (id1_0_0) rfl rfl inGX7 (Nat.le_of_ble_eq_true rfl) w_872 rfl dX7_count_118 ?_
    refine AW.iconst (v := (3 : Int32)) dX7_count_121 rfl ?_
    refine AW.iald (jn := 3) (id1_1_0) rfl (by unfold vp_in; decide) rfl dX7_count_122 ?_
    refine AW.icmp_ge (tgt := 148) dX7_count_123 rfl (fun c => ?_) (fun c => ?_)
    · replace h := ite_t c h
      refine AW.iload_n dX7_count_148 1 rfl ?_
      exact AW.iret rfl dX7_count_149 h
    · replace h := ite_f c h
      refine AW.iload_n dX7_count_126 1 rfl ?_
      refine AW.aload_n dX7_count_127 0 rfl ?_
      refine AW.iload_n dX7_count_128 2 rfl ?_
      refine AW.callVB [.int a3] (C_X7_holds h) ok_X7_holds (id1_0_0) rfl rfl w_1098 rfl (Nat.le_of_ble_eq_true rfl) (Nat.le_of_ble_eq_true rfl) rfl dX7_count_129 (fun b10 σ9 h => ?_)
      refine AW.ifb_eq (tgt := 139) dX7_count_132 rfl (fun c => ?_) (fun c => ?_)
      · replace h := ite_f c h
        refine AW.iconst (v := (0 : Int32)) dX7_count_139 rfl ?_
        refine AW.iadd dX7_count_140 ?_
        refine AW.istore_n (L' := [(0, .ref (gad g 0 0)), (2, .int (a2 + (0 : Int32))), (3, .int a3)]) dX7_count_141 (Nat.le_of_ble_eq_true rfl) rfl ?_
        refine AW.iinc (v := (a3 + (1 : Int32))) (L' := [(0, .ref (gad g 0 0)), (2, .int (a2 + (0 : Int32))), (3, .int (a3 + (1 : Int32)))]) dX7_count_142 2 rfl rfl (Nat.le_of_ble_eq_true rfl) rfl ?_
        refine AW.goto (tgt := 116) dX7_count_145 rfl ?_
        exact ih _ _ _ h
      · replace h := ite_t c h
        refine AW.iconst (v := (1 : Int32)) dX7_count_135 rfl ?_
        refine AW.goto (tgt := 140) dX7_count_136 rfl ?_
        refine AW.iadd dX7_count_140 ?_
        refine AW.istore_n (L' := [(0, .ref (gad g 0 0)), (2, .int (a2 + (1 : Int32))), (3, .int a3)]) dX7_count_141 (Nat.le_of_ble_eq_true rfl) rfl ?_
        refine AW.iinc (v := (a3 + (1 : Int32))) (L' := [(0, .ref (gad g 0 0)), (2, .int (a2 + (1 : Int32))), (3, .int (a3 + (1 : Int32)))]) dX7_count_142 2 rfl rfl (Nat.le_of_ble_eq_true rfl) rfl ?_
        refine AW.goto (tgt := 116) dX7_count_145 rfl ?_
        exact ih _ _ _ h
def f_X7_count (a1 : Int32) (σ : Mm) (K : Int32 → Mm → Prop) : Prop := (if a1 = (0 : Int32) then (K (σ 1 0 3) σ) else (if a1 = (1 : Int32) then (∃ m, f_X7_count_57 K m (0 : Int32) (0 : Int32) σ) else (if a1 = (2 : Int32) then (f_X7_pairs (0 : Int32) σ (fun r6 σ5 => (K r6 σ5))) else (if a1 = (3 : Int32) then (f_X7_pairs (1 : Int32) σ (fun r8 σ7 => (K r8 σ7))) else (if a1 = (4 : Int32) then (K (σ 1 0 1) σ) else (if a1 = (5 : Int32) then (K (σ 0 0 12) σ) else (if a1 = (6 : Int32) then (K (σ 1 0 2) σ) else (if a1 = (7 : Int32) then (∃ m, f_X7_count_116 K m (0 : Int32) (0 : Int32) σ) else (f_X7_finds (-1000001 : Int32) σ (fun r2 σ1 => (K r2 σ1)))))))))))
set_option maxRecDepth 100000 in
set_option maxHeartbeats 4000000 in
theorem C_X7_count {g : GG} {a1 : Int32} {σ : Mm} {K : Int32 → Mm → Prop} (h : f_X7_count a1 σ K) : Ct g 1 M_X7_count (QI g 1 K) [.ref (gad g 0 0), .int a1] σ := by
  unfold f_X7_count at h
  refine Ct.of (L := [(0, .ref (gad g 0 0)), (1, .int a1)]) (show plainName RX7 = true by decide) (Nat.le_of_ble_eq_true rfl) rfl ?_
  refine AW.iconst (v := (0 : Int32)) dX7_count_0 rfl ?_
  refine AW.istore_n (L' := [(0, .ref (gad g 0 0)), (1, .int a1), (2, .int (0 : Int32))]) dX7_count_1 (Nat.le_of_ble_eq_true rfl) rfl ?_
  refine AW.iload_n dX7_count_2 1 rfl ?_
  by_cases c0 : a1 = (0 : Int32)
  · replace h := ite_t c0 h
    refine AW.tswIn (tgt := 48) (0 : Int32) dX7_count_3 c0 (by decide) (by decide) rfl rfl ?_
    refine AW.aload_n dX7_count_48 0 rfl ?_
    refine AW.get (k := 0) (v := .ref (gad g 1 0)) (id1_0_0) rfl rfl inGX7 (Nat.le_of_ble_eq_true rfl) w_872 rfl dX7_count_49 ?_
    refine AW.iconst (v := (3 : Int32)) dX7_count_52 rfl ?_
    refine AW.iald (jn := 3) (id1_1_0) rfl (by unfold vp_in; decide) rfl dX7_count_53 ?_
    exact AW.iret rfl dX7_count_54 h
  · replace h := ite_f c0 h
    by_cases c1 : a1 = (1 : Int32)
    · replace h := ite_t c1 h
      refine AW.tswIn (tgt := 55) (1 : Int32) dX7_count_3 c1 (by decide) (by decide) rfl rfl ?_
      refine AW.iconst (v := (0 : Int32)) dX7_count_55 rfl ?_
      refine AW.istore_n (L' := [(0, .ref (gad g 0 0)), (1, .int a1), (2, .int (0 : Int32)), (3, .int (0 : Int32))]) dX7_count_56 (Nat.le_of_ble_eq_true rfl) rfl ?_
      obtain ⟨m, h⟩ := h
      refine AW.eqL [0, 2, 3] rfl ?_
      refine T_X7_count_57 m _ _ _ h
    · replace h := ite_f c1 h
      by_cases c2 : a1 = (2 : Int32)
      · replace h := ite_t c2 h
        refine AW.tswIn (tgt := 83) (2 : Int32) dX7_count_3 c2 (by decide) (by decide) rfl rfl ?_
        refine AW.aload_n dX7_count_83 0 rfl ?_
        refine AW.iconst (v := (0 : Int32)) dX7_count_84 rfl ?_
        refine AW.callVI [.int (0 : Int32)] (C_X7_pairs h) ok_X7_pairs (id1_0_0) rfl rfl w_1371 rfl (Nat.le_of_ble_eq_true rfl) (Nat.le_of_ble_eq_true rfl) rfl dX7_count_85 (fun r6 σ5 h => ?_)
        exact AW.iret rfl dX7_count_88 h
      · replace h := ite_f c2 h
        by_cases c3 : a1 = (3 : Int32)
        · replace h := ite_t c3 h
          refine AW.tswIn (tgt := 89) (3 : Int32) dX7_count_3 c3 (by decide) (by decide) rfl rfl ?_
          refine AW.aload_n dX7_count_89 0 rfl ?_
          refine AW.iconst (v := (1 : Int32)) dX7_count_90 rfl ?_
          refine AW.callVI [.int (1 : Int32)] (C_X7_pairs h) ok_X7_pairs (id1_0_0) rfl rfl w_1371 rfl (Nat.le_of_ble_eq_true rfl) (Nat.le_of_ble_eq_true rfl) rfl dX7_count_91 (fun r8 σ7 h => ?_)
          exact AW.iret rfl dX7_count_94 h
        · replace h := ite_f c3 h
          by_cases c4 : a1 = (4 : Int32)
          · replace h := ite_t c4 h
            refine AW.tswIn (tgt := 95) (4 : Int32) dX7_count_3 c4 (by decide) (by decide) rfl rfl ?_
            refine AW.aload_n dX7_count_95 0 rfl ?_
            refine AW.get (k := 0) (v := .ref (gad g 1 0)) (id1_0_0) rfl rfl inGX7 (Nat.le_of_ble_eq_true rfl) w_872 rfl dX7_count_96 ?_
            refine AW.iconst (v := (1 : Int32)) dX7_count_99 rfl ?_
            refine AW.iald (jn := 1) (id1_1_0) rfl (by unfold vp_in; decide) rfl dX7_count_100 ?_
            exact AW.iret rfl dX7_count_101 h
          · replace h := ite_f c4 h
            by_cases c5 : a1 = (5 : Int32)
            · replace h := ite_t c5 h
              refine AW.tswIn (tgt := 102) (5 : Int32) dX7_count_3 c5 (by decide) (by decide) rfl rfl ?_
              refine AW.aload_n dX7_count_102 0 rfl ?_
              refine AW.get (k := 12) (v := .int (σ 0 0 12)) (id1_0_0) rfl rfl inGX7 (Nat.le_of_ble_eq_true rfl) w_884 rfl dX7_count_103 ?_
              exact AW.iret rfl dX7_count_106 h
            · replace h := ite_f c5 h
              by_cases c6 : a1 = (6 : Int32)
              · replace h := ite_t c6 h
                refine AW.tswIn (tgt := 107) (6 : Int32) dX7_count_3 c6 (by decide) (by decide) rfl rfl ?_
                refine AW.aload_n dX7_count_107 0 rfl ?_
                refine AW.get (k := 0) (v := .ref (gad g 1 0)) (id1_0_0) rfl rfl inGX7 (Nat.le_of_ble_eq_true rfl) w_872 rfl dX7_count_108 ?_
                refine AW.iconst (v := (2 : Int32)) dX7_count_111 rfl ?_
                refine AW.iald (jn := 2) (id1_1_0) rfl (by unfold vp_in; decide) rfl dX7_count_112 ?_
                exact AW.iret rfl dX7_count_113 h
              · replace h := ite_f c6 h
                by_cases c7 : a1 = (7 : Int32)
                · replace h := ite_t c7 h
                  refine AW.tswIn (tgt := 114) (7 : Int32) dX7_count_3 c7 (by decide) (by decide) rfl rfl ?_
                  refine AW.iconst (v := (0 : Int32)) dX7_count_114 rfl ?_
                  refine AW.istore_n (L' := [(0, .ref (gad g 0 0)), (1, .int a1), (2, .int (0 : Int32)), (3, .int (0 : Int32))]) dX7_count_115 (Nat.le_of_ble_eq_true rfl) rfl ?_
                  obtain ⟨m, h⟩ := h
                  refine AW.eqL [0, 2, 3] rfl ?_
                  refine T_X7_count_116 m _ _ _ h
                · replace h := ite_f c7 h
                  refine AW.tswOut (tgt := 150) dX7_count_3 (tsw_out fun k h1 h2 => ?_) rfl ?_
                  · rcases (show k = 0 ∨ k = 1 ∨ k = 2 ∨ k = 3 ∨ k = 4 ∨ k = 5 ∨ k = 6 ∨ k = 7 by omega) with rfl | rfl | rfl | rfl | rfl | rfl | rfl | rfl
                    all_goals assumption
                  · refine AW.aload_n dX7_count_150 0 rfl ?_
                    refine AW.ldc (v := (-1000001 : Int32)) dX7_count_151 w_951 ?_
                    refine AW.callVI [.int (-1000001 : Int32)] (C_X7_finds h) ok_X7_finds (id1_0_0) rfl rfl w_952 rfl (Nat.le_of_ble_eq_true rfl) (Nat.le_of_ble_eq_true rfl) rfl dX7_count_153 (fun r2 σ1 h => ?_)
                    exact AW.iret rfl dX7_count_156 h
theorem ok_X7_count : OkV M_X7_count 1 := ⟨w_1368, w_1369, w_9, w_1370, by decide +kernel, (Nat.le_of_ble_eq_true rfl)⟩
def M_X7_status : MT := (yX7_status, cX7_status, 4, some .int, 2)
def f_X7_status_41 (a1 : Int32) (a3 : Int32) (as0 : Int32) (K : Int32 → Mm → Prop) (k25 : Int32 → Int32 → Mm → Prop) (σ : Mm) : Prop := (vp_in a3 7 ∧ (k25 (as0 + (σ 4 0 (a3.toNatClampNeg))) (a3 + (1 : Int32)) σ))
set_option maxRecDepth 100000 in
set_option maxHeartbeats 4000000 in
theorem T_X7_status_41 {g : GG} {a1 : Int32} {a3 : Int32} {as0 : Int32} {K : Int32 → Mm → Prop} {k25 : Int32 → Int32 → Mm → Prop} {σ : Mm} (hk25 : ∀ (x2 : Int32) (x3 : Int32) (u : Mm), k25 x2 x3 u → AW g 1 M_X7_status (QI g 1 K) 25 [(0, .ref (gad g 0 0)), (1, .int a1), (2, .int x2), (3, .int x3)] [] u) (h : f_X7_status_41 a1 a3 as0 K k25 σ) : AW g 1 M_X7_status (QI g 1 K) 41 [(0, .ref (gad g 0 0)), (1, .int a1), (3, .int a3)] [.int as0] σ := by
  unfold f_X7_status_41 at h
  refine AW.aload_n dX7_status_41 0 rfl ?_
  refine AW.get (k := 4) (v := .ref (gad g 4 0)) (id1_0_0) rfl rfl inGX7 (Nat.le_of_ble_eq_true rfl) w_876 rfl dX7_status_42 ?_
  refine AW.iload_n dX7_status_45 2 rfl ?_
  obtain ⟨hq3, h⟩ := h
  refine AW.iald (jn := (a3.toNatClampNeg)) (id1_4_0) rfl hq3 rfl dX7_status_46 ?_
  refine AW.goto (tgt := 51) dX7_status_47 rfl ?_
  refine AW.iadd dX7_status_51 ?_
  refine AW.istore_n (L' := [(0, .ref (gad g 0 0)), (1, .int a1), (2, .int (as0 + (σ 4 0 (a3.toNatClampNeg)))), (3, .int a3)]) dX7_status_52 (Nat.le_of_ble_eq_true rfl) rfl ?_
  refine AW.iinc (v := (a3 + (1 : Int32))) (L' := [(0, .ref (gad g 0 0)), (1, .int a1), (2, .int (as0 + (σ 4 0 (a3.toNatClampNeg)))), (3, .int (a3 + (1 : Int32)))]) dX7_status_53 3 rfl rfl (Nat.le_of_ble_eq_true rfl) rfl ?_
  refine AW.goto (tgt := 25) dX7_status_56 rfl ?_
  exact hk25 _ _ _ h
set_option maxRecDepth 100000 in
def f_X7_status_25 (a1 : Int32) (K : Int32 → Mm → Prop) : Nat → Int32 → Int32 → Mm → Prop
  | 0, _, _, _ => False
  | n + 1, a2, a3, σ => (if (7 : Int32) ≤ a3 then (K a2 σ) else (if a1 < 0 then (f_X7_status_41 a1 a3 a2 K (f_X7_status_25 a1 K n) σ) else (if a1 = a3 then (f_X7_status_41 a1 a3 a2 K (f_X7_status_25 a1 K n) σ) else (f_X7_status_25 a1 K n (a2 + (0 : Int32)) (a3 + (1 : Int32)) σ))))
set_option maxRecDepth 100000 in
set_option maxHeartbeats 4000000 in
theorem T_X7_status_25 {g : GG} {a1 : Int32} {K : Int32 → Mm → Prop} : ∀ (n : Nat) (a2 : Int32) (a3 : Int32) (σ : Mm), f_X7_status_25 a1 K n a2 a3 σ → AW g 1 M_X7_status (QI g 1 K) 25 [(0, .ref (gad g 0 0)), (1, .int a1), (2, .int a2), (3, .int a3)] [] σ := by
  intro n
  induction n with
  | zero => intro a2 a3 σ h; exact False.elim h
  | succ n ih =>
    intro a2 a3 σ h
    rw [f_X7_status_25] at h
    refine AW.iload_n dX7_status_25 3 rfl ?_
    refine AW.bipush (v := (7 : Int32)) dX7_status_26 rfl ?_
    refine AW.icmp_ge (tgt := 59) dX7_status_28 rfl (fun c => ?_) (fun c => ?_)
    · replace h := ite_t c h
      refine AW.iload_n dX7_status_59 2 rfl ?_
      exact AW.iret rfl dX7_status_60 h
    · replace h := ite_f c h
      refine AW.iload_n dX7_status_31 2 rfl ?_
      refine AW.iload_n dX7_status_32 1 rfl ?_
      refine AW.if_lt (tgt := 41) dX7_status_33 rfl (fun c => ?_) (fun c => ?_)
      · replace h := ite_t c h
        refine AW.eqL [0, 1, 3] rfl ?_
        exact T_X7_status_41 ih h
      · replace h := ite_f c h
        refine AW.iload_n dX7_status_36 1 rfl ?_
        refine AW.iload_n dX7_status_37 3 rfl ?_
        refine AW.icmp_ne (tgt := 50) dX7_status_38 rfl (fun c => ?_) (fun c => ?_)
        · replace h := ite_f c h
          refine AW.iconst (v := (0 : Int32)) dX7_status_50 rfl ?_
          refine AW.iadd dX7_status_51 ?_
          refine AW.istore_n (L' := [(0, .ref (gad g 0 0)), (1, .int a1), (2, .int (a2 + (0 : Int32))), (3, .int a3)]) dX7_status_52 (Nat.le_of_ble_eq_true rfl) rfl ?_
          refine AW.iinc (v := (a3 + (1 : Int32))) (L' := [(0, .ref (gad g 0 0)), (1, .int a1), (2, .int (a2 + (0 : Int32))), (3, .int (a3 + (1 : Int32)))]) dX7_status_53 3 rfl rfl (Nat.le_of_ble_eq_true rfl) rfl ?_
          refine AW.goto (tgt := 25) dX7_status_56 rfl ?_
          exact ih _ _ _ h
        · replace h := ite_t c h
          refine AW.eqL [0, 1, 3] rfl ?_
          exact T_X7_status_41 ih h
def f_X7_status (a1 : Int32) (σ : Mm) (K : Int32 → Mm → Prop) : Prop := (f_X7_in ((a1).toInt64) (-1 : Int64) (6 : Int64) σ (fun b2 σ1 => (if b2 = true then (∃ m, f_X7_status_25 a1 K m (0 : Int32) (0 : Int32) σ1) else (f_X7_finds (-1000001 : Int32) σ1 (fun r5 σ4 => (K r5 σ4))))))
set_option maxRecDepth 100000 in
set_option maxHeartbeats 4000000 in
theorem C_X7_status {g : GG} {a1 : Int32} {σ : Mm} {K : Int32 → Mm → Prop} (h : f_X7_status a1 σ K) : Ct g 1 M_X7_status (QI g 1 K) [.ref (gad g 0 0), .int a1] σ := by
  unfold f_X7_status at h
  refine Ct.of (L := [(0, .ref (gad g 0 0)), (1, .int a1)]) (show plainName RX7 = true by decide) (Nat.le_of_ble_eq_true rfl) rfl ?_
  refine AW.iload_n dX7_status_0 1 rfl ?_
  refine AW.i2l dX7_status_1 ?_
  refine AW.ldc2 (v := (-1 : Int64)) dX7_status_2 w_1379 ?_
  refine AW.ldc2 (v := (6 : Int64)) dX7_status_5 w_1001 ?_
  refine AW.callSB [.long ((a1).toInt64), .long (-1 : Int64), .long (6 : Int64)] (C_X7_in h) ok_X7_in w_947 rfl (Nat.le_of_ble_eq_true rfl) (Nat.le_of_ble_eq_true rfl) rfl dX7_status_8 (fun b2 σ1 h => ?_)
  refine AW.ifb_ne (tgt := 21) dX7_status_11 rfl (fun c => ?_) (fun c => ?_)
  · replace h := ite_t c h
    refine AW.iconst (v := (0 : Int32)) dX7_status_21 rfl ?_
    refine AW.istore_n (L' := [(0, .ref (gad g 0 0)), (1, .int a1), (2, .int (0 : Int32))]) dX7_status_22 (Nat.le_of_ble_eq_true rfl) rfl ?_
    refine AW.iconst (v := (0 : Int32)) dX7_status_23 rfl ?_
    refine AW.istore_n (L' := [(0, .ref (gad g 0 0)), (1, .int a1), (2, .int (0 : Int32)), (3, .int (0 : Int32))]) dX7_status_24 (Nat.le_of_ble_eq_true rfl) rfl ?_
    obtain ⟨m, h⟩ := h
    refine T_X7_status_25 m _ _ _ h
  · replace h := ite_f c h
    refine AW.aload_n dX7_status_14 0 rfl ?_
    refine AW.ldc (v := (-1000001 : Int32)) dX7_status_15 w_951 ?_
    refine AW.callVI [.int (-1000001 : Int32)] (C_X7_finds h) ok_X7_finds (id1_0_0) rfl rfl w_952 rfl (Nat.le_of_ble_eq_true rfl) (Nat.le_of_ble_eq_true rfl) rfl dX7_status_17 (fun r5 σ4 h => ?_)
    exact AW.iret rfl dX7_status_20 h
theorem ok_X7_status : OkV M_X7_status 1 := ⟨w_1376, w_1377, w_9, w_1378, by decide +kernel, (Nat.le_of_ble_eq_true rfl)⟩
